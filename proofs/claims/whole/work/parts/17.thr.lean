-- throws: what a throwing method needs beside the tables' good words, and how it is handed on
def badE (E : String) : List Cond := [.declares ⟨"java/lang/RuntimeException", "<init>", "(Ljava/lang/String;)V"⟩, .declares ⟨"java/lang/Exception", "<init>", "(Ljava/lang/String;)V"⟩, .declares ⟨"java/lang/Throwable", "<init>", "(Ljava/lang/String;)V"⟩, .castable E E]
theorem bad1i : ∀ w ∈ (vx_atS "CacheLevels" 136 EI En).filter (fun w => !goodWord w), w ∈ badE EI := by decide +kernel
theorem bad1a : ∀ w ∈ (vx_atS "CacheLevels" 65 EA En).filter (fun w => !goodWord w), w ∈ badE EA := by decide +kernel
theorem atI : ∀ w ∈ (vx_atS "CacheLevels" 136 EI En).filter goodWord, w ∈ tbW := fun w h => List.mem_filter.mpr ⟨bad3 w (List.mem_filter.mp h).1, (List.mem_filter.mp h).2⟩
theorem atA : ∀ w ∈ (vx_atS "CacheLevels" 65 EA En).filter goodWord, w ∈ tbW := fun w h => List.mem_filter.mpr ⟨bad4 w (List.mem_filter.mp h).1, (List.mem_filter.mp h).2⟩
theorem goodI : ∀ w ∈ Cond.classLink "CacheLevels" 132 EI :: Cond.initialized EI :: vx_atS "CacheLevels" 136 EI En, vx_ot w = true := by decide +kernel
theorem goodA : ∀ w ∈ Cond.classLink "CacheLevels" 61 EA :: Cond.initialized EA :: vx_atS "CacheLevels" 65 EA En, vx_ot w = true := by decide +kernel
theorem fitI : Bundle.fit EI = true := by decide
theorem fitA : Bundle.fit EA = true := by decide
theorem fitN : ∀ n ∈ En, Bundle.fit n = true := by decide
def strs : List (Nat × String) := [(156, "there is no such core"), (63, "a kind is 0 (read) or 1 (write)"), (87, "a quota is 0 to 4"), (134, "there is no such set"), (140, "there is no such line in the set"), (148, "what is 0 to 7")]
def ThrA (A : Nat → Prop) (U : State) (H : Heap) : Prop := (∀ w ∈ badE EI ++ badE EA, va_Nw w U) ∧ vx_Zq Bundle.tN "UNASSIGNED_STACK" Bundle.steD A U H ∧ vx_Zq Bundle.tN "SUPPRESSED_SENTINEL" Bundle.listD A U H ∧ ∀ k ∈ strs, ∃ sa, vk_R "CacheLevels" k.1 k.2 sa U
theorem badW_warm {s U : State} (hW : s.WarmedH U.vm) (h : ∀ w ∈ badE EI ++ badE EA, va_Nw w s) : ∀ w ∈ badE EI ++ badE EA, va_Nw w U := by
  intro w hw
  have h9 := h w hw
  simp only [badE, List.cons_append, List.nil_append, List.mem_cons, List.not_mem_nil, or_false] at hw
  rcases hw with rfl | rfl | rfl | rfl | rfl | rfl | rfl | rfl
  · exact va_Nw.warmD hW h9
  · exact va_Nw.warmD hW h9
  · exact va_Nw.warmD hW h9
  · exact va_Nw.warmC hW h9
  · exact va_Nw.warmD hW h9
  · exact va_Nw.warmD hW h9
  · exact va_Nw.warmD hW h9
  · exact va_Nw.warmC hW h9
theorem ThrA.at {A : Nat → Prop} {s U : State} {H0 H : Heap} (hW : s.WarmedH U.vm) (hk : ∀ a : Nat, a < H0.size → ¬ A a → H[a]? = H0[a]?) (h : ThrA A s H0) : ThrA (fun _ => False) U H :=
  ⟨badW_warm hW h.1, ((vx_Zq.moved hW.alike h.2.1).kept hk).narrow (fun _ q => q.elim), ((vx_Zq.moved hW.alike h.2.2.1).kept hk).narrow (fun _ q => q.elim), fun k hk9 => by
    obtain ⟨sa, h9⟩ := h.2.2.2 k hk9
    exact ⟨sa, vk_R.warm hW h9⟩⟩
def PcT (D : va_G) (cl : List vw_C) (tys : List (ClassId × FieldType)) (av : List Value) (wc : va_W) : Array Value → State → Prop := va_Pc av (fun U => va_P D cl wc U.heap ∧ va_K D cl tys U ∧ ThrA (fun _ => False) U U.heap)
theorem blindT {D : va_G} {cl : List vw_C} {tys : List (ClassId × FieldType)} {av : List Value} {wc : va_W} : FrameBlind (PcT D cl tys av wc) := fun a U g mk q => ⟨q.1, q.2.1, va_K.moved (u := U) (U := U.calling g mk a) (Vm.Alike.refl U.vm) q.2.2.1, ThrA.at (s := U) (U := U.calling g mk a) (H0 := U.heap) (H := U.heap) (State.WarmedH.refl U) (fun _ _ _ => rfl) q.2.2.2⟩
def XT (E0 : String) : String → State → State → Prop := vx_X (fun _ : Unit => True) (fun E _ _ => E = E0) (fun _ => False)
theorem ini_EI : Cond.initialized EI ∈ tbW := tw 9 (by decide +kernel) (by decide +kernel)
theorem ini_EA : Cond.initialized EA ∈ tbW := tw 10 (by decide +kernel) (by decide +kernel)
section MyThr
variable {p : Program} {l : Launch} {e : Env} {R : Room} {s : State} {m : MethodId} {args : Array Value} {below : List Frame} {meth : Method} {c : Code}
variable {cc bytes : ByteArray} {pc nL maxL n index : Nat} {ls : Array Slot} {rest As st0 : List Value} {D : va_G} {cl : List vw_C} {tys : List (ClassId × FieldType)} {Ts wsy : List Cond} {own C : String} {y : MethodName} {ret : Option FieldType} {rm : Room} {b : Nat} {wc Wd : va_W} {Qc : Array Value → State → Outcome → State → Prop} {E0 : String}
theorem thrI {is : Nat} {text : String} (hx : p.tables.exec = Jvm.exec) (hb : c.code = cc) (hlt : l.stackTraces = false) (hown : s.vm.findClass "CacheLevels" = some m.cls) (htb : ∀ w ∈ tbW, w.before args s = true) (hT : ThrA (fun _ => False) s s.heap) (hk : (is, text) ∈ strs) (hsz : ls.size = c.maxLocals)
    (d0 : decode cc pc = .ok (.new 132, 3)) (d3 : decode cc (pc + 3) = .ok (.dup, 1)) (d4 : decode cc (pc + 4) = .ok (.ldc is, 2)) (d6 : decode cc (pc + 6) = .ok (.invokespecial 136, 3)) (d9 : decode cc (pc + 9) = .ok (.athrow, 1)) (htab : ∀ x ∈ c.exceptionTable.toList, False) (hR : 5 < R.frames ∧ 82 ≤ R.locals ∧ 1 ≤ R.cells ∧ 6 ≤ R.slots) (hlocks : meth.locks = false) :
    W p l e R s m args below meth c s.heap [] 0 0 (vx_MQ below Qc (XT EI) args s 1 6 (fun _ => False)) (F0 m pc ls []) := by
  obtain ⟨sa, hsa⟩ := hT.2.2.2 _ hk
  exact vx_throwS hx hb hlt (own := "CacheLevels") (cls := EI) (text := text) (names := En) hown fitI fitN (htb _ k_C_132) (htb _ ini_EI) hsa
    (vx_hat (fun w h => htb w (atI w h)) bad1i (fun w h => by
      have h9 := hT.1 w (List.mem_append_left _ h)
      simp only [badE, List.mem_cons, List.not_mem_nil, or_false] at h
      rcases h with rfl | rfl | rfl | rfl <;> exact va_Nw.use rfl h9)) goodI hT.2.1 hT.2.2.1 va_S.rf hsz d0 d3 d4 d6 d9 (fun x h => (htab x h).elim) hR.1 (by show 0 + (13 * (2 + 1) + 43) ≤ _; have := hR.2.1; omega) (by have := hR.2.2.1; omega) (by have := hR.2.2.2; omega) hlocks
    (fun t _ h1 h2 => ⟨(), trivial, rfl, h1, fun q hq _ => h2 q hq⟩) (fun z hz => by cases hz) (Nat.le_refl _) (Nat.le_refl _)
theorem thrE {is : Nat} {text : String} (hx : p.tables.exec = Jvm.exec) (hb : c.code = cc) (hlt : l.stackTraces = false) (hown : s.vm.findClass "CacheLevels" = some m.cls) (htb : ∀ w ∈ tbW, w.before args s = true) (hT : ThrA (fun _ => False) s s.heap) (hk : (is, text) ∈ strs) (hsz : ls.size = c.maxLocals)
    (d0 : decode cc pc = .ok (.new 61, 3)) (d3 : decode cc (pc + 3) = .ok (.dup, 1)) (d4 : decode cc (pc + 4) = .ok (.ldc is, 2)) (d6 : decode cc (pc + 6) = .ok (.invokespecial 65, 3)) (d9 : decode cc (pc + 9) = .ok (.athrow, 1)) (htab : ∀ x ∈ c.exceptionTable.toList, False) (hR : 5 < R.frames ∧ 82 ≤ R.locals ∧ 1 ≤ R.cells ∧ 6 ≤ R.slots) (hlocks : meth.locks = false) :
    W p l e R s m args below meth c s.heap [] 0 0 (vx_MQ below Qc (XT EA) args s 1 6 (fun _ => False)) (F0 m pc ls []) := by
  obtain ⟨sa, hsa⟩ := hT.2.2.2 _ hk
  exact vx_throwS hx hb hlt (own := "CacheLevels") (cls := EA) (text := text) (names := En) hown fitA fitN (htb _ k_C_61) (htb _ ini_EA) hsa
    (vx_hat (fun w h => htb w (atA w h)) bad1a (fun w h => by
      have h9 := hT.1 w (List.mem_append_right _ h)
      simp only [badE, List.mem_cons, List.not_mem_nil, or_false] at h
      rcases h with rfl | rfl | rfl | rfl <;> exact va_Nw.use rfl h9)) goodA hT.2.1 hT.2.2.1 va_S.rf hsz d0 d3 d4 d6 d9 (fun x h => (htab x h).elim) hR.1 (by show 0 + (13 * (2 + 1) + 43) ≤ _; have := hR.2.1; omega) (by have := hR.2.2.1; omega) (by have := hR.2.2.2; omega) hlocks
    (fun t _ h1 h2 => ⟨(), trivial, rfl, h1, fun q hq _ => h2 q hq⟩) (fun z hz => by cases hz) (Nat.le_refl _) (Nat.le_refl _)
theorem cwvT (hts : ∀ w ∈ tbW, w.before args s = true) (hcode : Cond.code y bytes maxL ret ∈ tbW) (hlink : Cond.methodLink own index y ∈ tbW) (hinst : Cond.instanceMethod y ∈ tbW) (hsel : Cond.selects C y y ∈ tbW) (hini : Cond.initialized C ∈ tbW) (hd : y.cls = C ∧ y.cls ≠ "java/lang/invoke/MethodHandle" ∧ y.cls ≠ "java/lang/invoke/VarHandle" ∧ (parseMethodDescriptor y.desc).map (fun d => d.parameters.length) = some n) {fr lo : Nat} (hR : fr + 1 ≤ R.frames ∧ 8 + (maxL + 11) + lo ≤ R.locals) : CallW R s args own C index y bytes maxL ret (.code y bytes maxL ret :: tbW) { frames := fr, cells := 1, slots := 6, locals := lo } 1 6 n := by
  refine cwV n hts (good_TBs fun w hw => ?_) rfl rfl rfl hd hR
  simp only [wsV, List.cons_append, List.nil_append, List.mem_cons] at hw
  rcases hw with rfl | rfl | rfl | rfl | rfl | hw
  · exact hlink
  · exact hinst
  · exact hsel
  · exact hini
  · exact hcode
  · exact hw
/-- a call of a method of the same object that throws, where nothing was changed before, and nobody here catches it -/
theorem ctv (SF : CallFix p m c cc nL s args Ts own) (hM : vx_Met l y wsy rm (PcT D cl tys (.ref b :: As) wc) (va_Qv (fun _ : Unit => False) (fun _ _ => True) (fun _ => False)) (XT E0) 1 6 (fun _ => False)) (cw : CallW R s args own C index y bytes maxL ret wsy rm 1 6 n) (hK : va_K D cl tys s) (hP : va_P D cl wc s.heap) (hT : ThrA (fun _ => False) s s.heap) {ci : Nat} {fs : List Value} {T : u_T} {N : Nat} (hrec : wc[0]? = some (b, .inr (ci, fs))) (hc : cl[ci]? = some (C, T, N)) (hn : As.length = n) (hsz : ls.size = nL) (hst : st0 = As.reverse ++ .ref b :: rest) (hrm : (rest.map fun v => v.category).sum ≤ 8) (hdg : decode cc pc = .ok (.invokevirtual index, 3)) (hf : 1 ≤ R.cells ∧ 6 ≤ R.slots) (htab : ∀ x ∈ c.exceptionTable.toList, False) (hlocks : meth.locks = false) :
    W p l e R s m args below meth c s.heap [] 0 0 (vx_MQ below Qc (XT E0) args s 1 6 (fun _ => False)) (F0 m pc ls st0) := by
  refine vx_callv (A0 := fun _ => False) (H0 := s.heap) (vx_runV (As := As) (rest := rest) SF hM cw ⟨blindT, va_recv hK hP hc hrec, fun U hU hW => ⟨rfl, by rw [hU]; exact hP, va_K.moved hW.alike hK, by rw [hU]; exact hT.at hW (fun _ _ _ => rfl)⟩⟩ rfl hn hsz hst (lv_room hrm) hdg ⟨by have := hf.1; omega, by have := hf.2; omega⟩) va_S.rf (fun _ _ h => h) (fun _ h => h) (fun _ _ h => h) (fun E ce q9 u t H1 locs1 ht _ _ hE _ _ hS hce hcv hcl => ?_) (fun u t H1 locs1 _ _ hw _ _ _ _ => absurd hw id)
  exact vx_out (fun x h => (htab x h).elim) hlocks hce hcv hcl (fun t9 ht9 _ => ⟨(), trivial, hE, hS.F ht9⟩) hS.2.2 (Nat.le_refl _) (Nat.le_refl _)
end MyThr
