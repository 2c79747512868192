-- rows of this claim's own: a call is one row; what it leaves alone stays
def bnd {α β : Type} (x : α) (f : α → β) : β := f x
theorem bnd_eq {α β : Type} {x r : α} {f : α → β} (h : r = x) : bnd x f = f r := by subst h; rfl
def bnd2 {α β γ : Type} (x : α × β) (f : α → β → γ) : γ := f x.1 x.2
theorem bnd2_eq {α β γ : Type} {x : α × β} {r : α} {u : β} {f : α → β → γ} (h : (r, u) = x) : bnd2 x f = f r u := by subst h; rfl
/-- how far a counter is from its bound -/
def mu (k b : Int32) : Nat := (b.toInt - k.toInt).toNat
theorem i32_succ {k b : Int32} (h : ¬ b ≤ k) : (k + 1).toInt = k.toInt + 1 := by
  have h1 : ¬ b.toInt ≤ k.toInt := fun q => h (Int32.le_iff_toInt_le.mpr q)
  have h2 := Int32.toInt_lt b
  have h3 := Int32.le_toInt k
  have e1 : (1 : Int32).toInt = 1 := by decide
  rw [Jvm.Kit.i32_add (by rw [e1]; omega) (by rw [e1]; omega), e1]
theorem mu_dec {k b : Int32} (h : ¬ b ≤ k) : mu (k + 1) b < mu k b := by
  have h1 : ¬ b.toInt ≤ k.toInt := fun q => h (Int32.le_iff_toInt_le.mpr q)
  unfold mu
  rw [i32_succ h]
  omega
theorem mu_decr {k b r : Int32} (hw : r = b) (h : ¬ r ≤ k) : mu (k + 1) b < mu k b := by
  subst hw
  exact mu_dec h
theorem nle_lt {x y : Int32} (h : x < y) : ¬ y ≤ x := fun q => by
  have a := Int32.lt_iff_toInt_lt.mp h
  have b := Int32.le_iff_toInt_le.mp q
  omega
def dn (k : Int32) : Nat := (k.toInt + 1).toNat
theorem dn_dec {k : Int32} (h : ¬ k < 0) : dn (k + (-1)) < dn k := by
  have h1 : ¬ k.toInt < 0 := fun q => h (Int32.lt_iff_toInt_lt.mpr q)
  have h2 := Int32.toInt_lt k
  have e1 : (-1 : Int32).toInt = -1 := by decide
  unfold dn
  rw [Jvm.Kit.i32_add (by rw [e1]; omega) (by rw [e1]; omega), e1]
  omega
theorem in_ok {x : Int32} {n : Nat} (hn : n < 2 ^ 31) (h0 : ¬ x < 0) (h1 : ¬ nI n ≤ x) : vp_in x n := by
  rw [vp_in_iff]
  have a0 : ¬ x.toInt < 0 := fun q => h0 (Int32.lt_iff_toInt_lt.mpr q)
  have a1 : ¬ (nI n).toInt ≤ x.toInt := fun q => h1 (Int32.le_iff_toInt_le.mpr q)
  rw [nI_toInt hn] at a1
  omega
theorem up_nn {x b : Int32} (h0 : ¬ x < 0) (h1 : ¬ b ≤ x) : ¬ x + 1 < 0 := by
  intro q
  have a0 : ¬ x.toInt < 0 := fun q => h0 (Int32.lt_iff_toInt_lt.mpr q)
  have a1 := Int32.lt_iff_toInt_lt.mp q
  rw [i32_succ h1] at a1
  have e0 : (0 : Int32).toInt = 0 := by decide
  omega
theorem tab_out {x : Int32} (h0 : ¬ x = 0) (h1 : ¬ x = 1) (h2 : ¬ x = 2) (h3 : ¬ x = 3) (h4 : ¬ x = 4) (h5 : ¬ x = 5) (h6 : ¬ x = 6) (h7 : ¬ x = 7) : x.toInt < 0 ∨ 7 < x.toInt := by
  have k : ∀ (j : Int32) (i : Int), j.toInt = i → ¬ x = j → ¬ x.toInt = i := fun j i hj h q => h (Int32.toInt_inj.mp (by rw [hj]; exact q))
  have a0 := k 0 0 (by decide) h0
  have a1 := k 1 1 (by decide) h1
  have a2 := k 2 2 (by decide) h2
  have a3 := k 3 3 (by decide) h3
  have a4 := k 4 4 (by decide) h4
  have a5 := k 5 5 (by decide) h5
  have a6 := k 6 6 (by decide) h6
  have a7 := k 7 7 (by decide) h7
  omega
/-- a method that only reads -/
def PcR (D : va_G) (cl : List vw_C) (tys : List (ClassId × FieldType)) (av : List Value) (wc : va_W) : Array Value → State → Prop := va_Pc av (fun U => va_P D cl wc U.heap ∧ va_K D cl tys U)
/-- a method that writes in its world alone, and makes nothing -/
def PcW (D : va_G) (cl : List vw_C) (tys : List (ClassId × FieldType)) (av : List Value) (wc : va_W) : Array Value → State → Prop := va_Pc av (fun U => va_P D cl wc U.heap ∧ va_K D cl tys U ∧ va_D (fun _ => True) wc)
def Aw (wc : va_W) : Nat → Prop := fun q => ∃ (k : Nat) (x : va_E), wc[k]? = some (q, x)
theorem blindR {D : va_G} {cl : List vw_C} {tys : List (ClassId × FieldType)} {av : List Value} {wc : va_W} : FrameBlind (PcR D cl tys av wc) := fun a U g mk q => ⟨q.1, q.2.1, va_K.moved (u := U) (U := U.calling g mk a) (Vm.Alike.refl U.vm) q.2.2⟩
theorem blindW {D : va_G} {cl : List vw_C} {tys : List (ClassId × FieldType)} {av : List Value} {wc : va_W} : FrameBlind (PcW D cl tys av wc) := fun a U g mk q => ⟨q.1, q.2.1, va_K.moved (u := U) (U := U.calling g mk a) (Vm.Alike.refl U.vm) q.2.2.1, q.2.2.2⟩
theorem Aw_sub {A : Nat → Prop} {Wd wc : va_W} (hD : va_D A Wd) (isC : List Nat) (hC : isC.filterMap (fun i => Wd[i]?) = wc) : ∀ q, Aw wc q → A q := by
  rintro q ⟨k, x, h⟩
  subst hC
  obtain ⟨i, -, hi⟩ := List.mem_filterMap.mp (List.mem_of_getElem? h)
  exact hD.2 i _ hi
theorem pjoin {A : Nat → Prop} {D : va_G} {cl : List vw_C} {Wd wc wr : va_W} {H H1 : Heap} (hP : va_P D cl Wd H) (hD : va_D A Wd) (isC isR : List Nat) (hC : isC.filterMap (fun i => Wd[i]?) = wc) (hR : isR.filterMap (fun i => Wd[i]?) = wr) (hdis : ∀ i ∈ isR, i ∉ isC) (hk : ∀ q : Nat, q < H.size → ¬ Aw wc q → H1[q]? = H[q]?) : va_P D cl wr H1 := by
  intro k q hq
  subst hR
  obtain ⟨i, hi, hq2⟩ := List.mem_filterMap.mp (List.mem_of_getElem? hq)
  refine (hP i q hq2).kept (hk q.1 (hP i q hq2).lt ?_)
  rintro ⟨k2, x, h2⟩
  subst hC
  obtain ⟨j, hj, hj2⟩ := List.mem_filterMap.mp (List.mem_of_getElem? h2)
  have hij := hD.1 i j q (q.1, x) hq2 hj2 rfl
  subst hij
  exact hdis i hi hj
theorem va_D_addr {A : Nat → Prop} {ws ws' : va_W} (h : va_D A ws) (he : ws'.map Prod.fst = ws.map Prod.fst) : va_D A ws' := by
  have key : ∀ (k : Nat) (q : Nat × va_E), ws'[k]? = some q → ∃ q' : Nat × va_E, ws[k]? = some q' ∧ q'.1 = q.1 := by
    intro k q hk
    have h1 : (ws'.map Prod.fst)[k]? = some q.1 := by rw [List.getElem?_map, hk]; rfl
    rw [he, List.getElem?_map] at h1
    cases hw : ws[k]? with
    | none => rw [hw] at h1; cases h1
    | some q' => rw [hw] at h1; exact ⟨q', rfl, Option.some.inj h1⟩
  refine ⟨fun i j p q hp hq e => ?_, fun k q hk => ?_⟩
  · obtain ⟨p', a1, a2⟩ := key i p hp
    obtain ⟨q', b1, b2⟩ := key j q hq
    exact h.1 i j p' q' a1 b1 (by rw [a2, b2, e])
  · obtain ⟨q', a1, a2⟩ := key k q hk
    rw [← a2]
    exact h.2 k q' a1
section MyRows
variable {p : Program} {l : Launch} {e : Env} {R : Room} {s : State} {m : MethodId} {args : Array Value} {below : List Frame} {meth : Method} {c : Code} {H : Heap} {locs : List Loc} {cells slots : Nat} {Q : State → Prop}
variable {cc bytes : ByteArray} {pc nL maxL n index : Nat} {ls : Array Slot} {rest As st0 : List Value} {D : va_G} {cl : List vw_C} {tys : List (ClassId × FieldType)} {A : Nat → Prop} {H0 : Heap} {Wd wc wr : va_W} {Ts wsy : List Cond} {own C : String} {y : MethodName} {ret : Option FieldType} {rm : Room} {b : Nat}
theorem cpi {post : Int32 → Prop} (SF : CallFix p m c cc nL s args Ts own) (hM : Met l y wsy rm (PcR D cl tys (.ref b :: As) wc) (vp_Si post) 0 0 (fun _ => False)) (cw : CallW R s args own C index y bytes maxL ret wsy rm 0 0 n) (hK : va_K D cl tys s) (hP : va_P D cl Wd H) (is : List Nat) (hs : is.filterMap (fun i => Wd[i]?) = wc) {ci : Nat} {fs : List Value} {T : u_T} {N : Nat} (hrec : wc[0]? = some (b, .inr (ci, fs))) (hc : cl[ci]? = some (C, T, N)) (hn : As.length = n) (hsz : ls.size = nL) (hst : st0 = As.reverse ++ .ref b :: rest) (hrm : (rest.map fun v => v.category).sum ≤ 8) (hdg : decode cc pc = .ok (.invokevirtual index, 3)) (hf : cells ≤ R.cells ∧ slots ≤ R.slots)
    (kk : ∀ r : Int32, post r → W p l e R s m args below meth c H locs cells slots Q (F0 m (pc + 3) ls (.int r :: rest))) : W p l e R s m args below meth c H locs cells slots Q (F0 m pc ls st0) := by
  have hPc := hP.sub is hs
  exact vp_callSi (W.runV (As := As) (rest := rest) SF hM cw ⟨blindR, va_recv hK hPc hc hrec, fun U hU hW => ⟨rfl, by rw [hU]; exact hPc, va_K.moved hW.alike hK⟩⟩ rfl hn hsz hst (lv_room hrm) hdg hf) kk
theorem cpv {post : Unit → Prop} (SF : CallFix p m c cc nL s args Ts own) (hM : Met l y wsy rm (PcR D cl tys (.ref b :: As) wc) (va_Sv post) 0 0 (fun _ => False)) (cw : CallW R s args own C index y bytes maxL ret wsy rm 0 0 n) (hK : va_K D cl tys s) (hP : va_P D cl Wd H) (is : List Nat) (hs : is.filterMap (fun i => Wd[i]?) = wc) {ci : Nat} {fs : List Value} {T : u_T} {N : Nat} (hrec : wc[0]? = some (b, .inr (ci, fs))) (hc : cl[ci]? = some (C, T, N)) (hn : As.length = n) (hsz : ls.size = nL) (hst : st0 = As.reverse ++ .ref b :: rest) (hrm : (rest.map fun v => v.category).sum ≤ 8) (hdg : decode cc pc = .ok (.invokevirtual index, 3)) (hf : cells ≤ R.cells ∧ slots ≤ R.slots)
    (kk : W p l e R s m args below meth c H locs cells slots Q (F0 m (pc + 3) ls rest)) : W p l e R s m args below meth c H locs cells slots Q (F0 m pc ls st0) := by
  have hPc := hP.sub is hs
  exact va_csv (W.runV (As := As) (rest := rest) SF hM cw ⟨blindR, va_recv hK hPc hc hrec, fun U hU hW => ⟨rfl, by rw [hU]; exact hPc, va_K.moved hW.alike hK⟩⟩ rfl hn hsz hst (lv_room hrm) hdg hf) (fun _ => kk)
/-- a read that answers a cell that is there -/
theorem cpr {a2 : Nat} (SF : CallFix p m c cc nL s args Ts own) (hM : Met l y wsy rm (PcR D cl tys (.ref b :: As) wc) (va_Sr (fun _ => True) (fun _ => .ref a2)) 0 0 (fun _ => False)) (cw : CallW R s args own C index y bytes maxL ret wsy rm 0 0 n) (hK : va_K D cl tys s) (hP : va_P D cl Wd H) (is : List Nat) (hs : is.filterMap (fun i => Wd[i]?) = wc) {ci : Nat} {fs : List Value} {T : u_T} {N : Nat} (hrec : wc[0]? = some (b, .inr (ci, fs))) (hc : cl[ci]? = some (C, T, N)) (hn : As.length = n) (hsz : ls.size = nL) (hst : st0 = As.reverse ++ .ref b :: rest) (hrm : (rest.map fun v => v.category).sum ≤ 8) (hdg : decode cc pc = .ok (.invokevirtual index, 3)) (hf : cells ≤ R.cells ∧ slots ≤ R.slots)
    (kk : W p l e R s m args below meth c H locs cells slots Q (F0 m (pc + 3) ls (.ref a2 :: rest))) : W p l e R s m args below meth c H locs cells slots Q (F0 m pc ls st0) := by
  have hPc := hP.sub is hs
  exact va_csr (W.runV (As := As) (rest := rest) SF hM cw ⟨blindR, va_recv hK hPc hc hrec, fun U hU hW => ⟨rfl, by rw [hU]; exact hPc, va_K.moved hW.alike hK⟩⟩ rfl hn hsz hst (lv_room hrm) hdg hf) (fun _ _ => kk)
theorem cps {post : Int32 → Prop} (SF : CallFix p m c cc nL s args Ts own) (hM : Met l y wsy rm (va_Pc As (fun _ => True)) (vp_Si post) 0 0 (fun _ => False)) (cw : CallB R s args own index y bytes maxL ret wsy rm 0 0 n ∧ (Cond.static y).before args s = true) (hn : As.length = n) (hsz : ls.size = nL) (hst : st0 = As.reverse ++ rest) (hrm : (rest.map fun v => v.category).sum ≤ 8) (hdg : decode cc pc = .ok (.invokestatic index, 3)) (hf : cells ≤ R.cells ∧ slots ≤ R.slots)
    (kk : ∀ r : Int32, post r → W p l e R s m args below meth c H locs cells slots Q (F0 m (pc + 3) ls (.int r :: rest))) : W p l e R s m args below meth c H locs cells slots Q (F0 m pc ls st0) :=
  vp_callSi (W.runS (As := As) (rest := rest) SF hM cw ⟨fun _ _ _ _ q => q, fun U hU hW => ⟨rfl, trivial⟩⟩ rfl hn hsz hst (lv_room hrm) hdg hf) kk
theorem cwi {S : Type} {post : Int32 → S → Prop} {wld wldC : S → va_W} (SF : CallFix p m c cc nL s args Ts own) (hM : Met l y wsy rm (PcW D cl tys (.ref b :: As) wc) (va_Qi post (fun (u : S) (t : State) => va_P D cl (wld u) t.heap) (Aw wc)) 0 0 (Aw wc)) (cw : CallW R s args own C index y bytes maxL ret wsy rm 0 0 n) (hK : va_K D cl tys s) (hP : va_P D cl Wd H) (hD : va_D A Wd) (hS : va_S A H0 H locs) (isC isR perm : List Nat) (hC : isC.filterMap (fun i => Wd[i]?) = wc) (hC2 : isC.map (fun i => Wd[i]?) = wc.map some) (hnd : va_nd isC = true) (hdis : ∀ i ∈ isR, i ∉ isC) (hR : isR.filterMap (fun i => Wd[i]?) = wr) (hperm : ∀ u, perm.filterMap (fun i => (wr ++ wld u)[i]?) = wldC u) (hadr : ∀ u, (wldC u).map Prod.fst = Wd.map Prod.fst) {ci : Nat} {fs : List Value} {T : u_T} {N : Nat} (hrec : wc[0]? = some (b, .inr (ci, fs))) (hc : cl[ci]? = some (C, T, N)) (hn : As.length = n) (hsz : ls.size = nL) (hst : st0 = As.reverse ++ .ref b :: rest) (hrm : (rest.map fun v => v.category).sum ≤ 8) (hdg : decode cc pc = .ok (.invokevirtual index, 3)) (hf : cells ≤ R.cells ∧ slots ≤ R.slots)
    (kk : ∀ (r : Int32) (u : S) (H : Heap) (locs : List Loc), post r u → va_P D cl (wldC u) H → va_D A (wldC u) → va_S A H0 H locs → W p l e R s m args below meth c H locs cells slots Q (F0 m (pc + 3) ls (.int r :: rest))) : W p l e R s m args below meth c H locs cells slots Q (F0 m pc ls st0) := by
  have hPc := hP.sub isC hC
  have hDc := (hD.sub isC hnd hC2).weaken (B := fun _ => True) (fun _ _ _ _ => trivial)
  refine va_calli (va_runV (As := As) (rest := rest) SF hM cw ⟨blindW, va_recv hK hPc hc hrec, fun U hU hW => ⟨rfl, by rw [hU]; exact hPc, va_K.moved hW.alike hK, hDc⟩⟩ rfl hn hsz hst (lv_room hrm) hdg hf) hS (fun q _ h => Aw_sub hD isC hC q h) (Aw_sub hD isC hC) (fun r u t H1 locs1 ht _ hw hB _ hk1 hS1 => ?_)
  rw [ht] at hB
  exact kk r u H1 locs1 hw (((pjoin hP hD isC isR hC hR hdis hk1).app hB).sub perm (hperm u)) (va_D_addr hD (hadr u)) hS1
theorem cwv_ {S : Type} {post : S → Prop} {wld wldC : S → va_W} (SF : CallFix p m c cc nL s args Ts own) (hM : Met l y wsy rm (PcW D cl tys (.ref b :: As) wc) (va_Qv post (fun (u : S) (t : State) => va_P D cl (wld u) t.heap) (Aw wc)) 0 0 (Aw wc)) (cw : CallW R s args own C index y bytes maxL ret wsy rm 0 0 n) (hK : va_K D cl tys s) (hP : va_P D cl Wd H) (hD : va_D A Wd) (hS : va_S A H0 H locs) (isC isR perm : List Nat) (hC : isC.filterMap (fun i => Wd[i]?) = wc) (hC2 : isC.map (fun i => Wd[i]?) = wc.map some) (hnd : va_nd isC = true) (hdis : ∀ i ∈ isR, i ∉ isC) (hR : isR.filterMap (fun i => Wd[i]?) = wr) (hperm : ∀ u, perm.filterMap (fun i => (wr ++ wld u)[i]?) = wldC u) (hadr : ∀ u, (wldC u).map Prod.fst = Wd.map Prod.fst) {ci : Nat} {fs : List Value} {T : u_T} {N : Nat} (hrec : wc[0]? = some (b, .inr (ci, fs))) (hc : cl[ci]? = some (C, T, N)) (hn : As.length = n) (hsz : ls.size = nL) (hst : st0 = As.reverse ++ .ref b :: rest) (hrm : (rest.map fun v => v.category).sum ≤ 8) (hdg : decode cc pc = .ok (.invokevirtual index, 3)) (hf : cells ≤ R.cells ∧ slots ≤ R.slots)
    (kk : ∀ (u : S) (H : Heap) (locs : List Loc), post u → va_P D cl (wldC u) H → va_D A (wldC u) → va_S A H0 H locs → W p l e R s m args below meth c H locs cells slots Q (F0 m (pc + 3) ls rest)) : W p l e R s m args below meth c H locs cells slots Q (F0 m pc ls st0) := by
  have hPc := hP.sub isC hC
  have hDc := (hD.sub isC hnd hC2).weaken (B := fun _ => True) (fun _ _ _ _ => trivial)
  refine va_callv (va_runV (As := As) (rest := rest) SF hM cw ⟨blindW, va_recv hK hPc hc hrec, fun U hU hW => ⟨rfl, by rw [hU]; exact hPc, va_K.moved hW.alike hK, hDc⟩⟩ rfl hn hsz hst (lv_room hrm) hdg hf) hS (fun q _ h => Aw_sub hD isC hC q h) (Aw_sub hD isC hC) (fun u t H1 locs1 ht _ hw hB _ hk1 hS1 => ?_)
  rw [ht] at hB
  exact kk u H1 locs1 hw (((pjoin hP hD isC isR hC hR hdis hk1).app hB).sub perm (hperm u)) (va_D_addr hD (hadr u)) hS1
/-- a callee's words are the tables' -/
theorem good_TB {w0 : Cond} {wsx : List Cond} (h : ∀ w ∈ wsx, w ∈ tbW) : GoodIn (w0 :: tbW) wsx := fun w hw => ⟨List.mem_cons_of_mem _ (h w hw), good_of_word (tbW_good w (h w hw))⟩
theorem good_TBs {wsx : List Cond} (h : ∀ w ∈ wsx, w ∈ tbW) : GoodIn tbW wsx := fun w hw => ⟨h w hw, good_of_word (tbW_good w (h w hw))⟩
theorem cwv (hts : ∀ w ∈ tbW, w.before args s = true) (hcode : Cond.code y bytes maxL ret ∈ tbW) (hlink : Cond.methodLink own index y ∈ tbW) (hinst : Cond.instanceMethod y ∈ tbW) (hsel : Cond.selects C y y ∈ tbW) (hini : Cond.initialized C ∈ tbW) (hd : y.cls = C ∧ y.cls ≠ "java/lang/invoke/MethodHandle" ∧ y.cls ≠ "java/lang/invoke/VarHandle" ∧ (parseMethodDescriptor y.desc).map (fun d => d.parameters.length) = some n) {fr lo : Nat} (hR : fr + 1 ≤ R.frames ∧ 8 + (maxL + 11) + lo ≤ R.locals) : CallW R s args own C index y bytes maxL ret (.code y bytes maxL ret :: tbW) { frames := fr, cells := 0, slots := 0, locals := lo } 0 0 n := by
  refine cwV n hts (good_TBs fun w hw => ?_) rfl rfl rfl hd hR
  simp only [wsV, List.cons_append, List.nil_append, List.mem_cons] at hw
  rcases hw with rfl | rfl | rfl | rfl | rfl | hw
  · exact hlink
  · exact hinst
  · exact hsel
  · exact hini
  · exact hcode
  · exact hw
theorem cws (hts : ∀ w ∈ tbW, w.before args s = true) (hcode : Cond.code y bytes maxL ret ∈ tbW) (hlink : Cond.methodLink own index y ∈ tbW) (hstat : Cond.static y ∈ tbW) (hini : Cond.initialized y.cls ∈ tbW) (hd : y.cls ≠ "java/lang/invoke/MethodHandle" ∧ y.cls ≠ "java/lang/invoke/VarHandle" ∧ (parseMethodDescriptor y.desc).map (fun d => d.parameters.length) = some n) {fr lo : Nat} (hR : fr + 1 ≤ R.frames ∧ 8 + (maxL + 11) + lo ≤ R.locals) : CallB R s args own index y bytes maxL ret (.code y bytes maxL ret :: tbW) { frames := fr, cells := 0, slots := 0, locals := lo } 0 0 n ∧ (Cond.static y).before args s = true := by
  refine ⟨callB_of n hts (good_TBs fun w hw => ?_) rfl rfl rfl (hts _ hini) (hts _ hlink) hd hR, hts _ hstat⟩
  rcases List.mem_cons.mp hw with rfl | hw
  · exact hcode
  · exact hw
end MyRows
