-- the law's own rows
abbrev LA (s : State) : Nat → Prop := fun q => s.heap.size ≤ q
def wL (cI cZ cL : ClassId) (g : GC) (gm : GM) (x : Cs) (y : Ms) (ao : Nat) (f : Fl) : va_W := wC cI cZ g x ++ (wM cI cZ gm y ++ [(ao, .inl (cL, 1, .inr (.inl f)))])
def LwC (p : Program) (l : Launch) (s : State) (m : MethodId) (c : Code) (b L : Nat) (xs : Nat → Int32) (D : va_G) (cI cZ cL : ClassId) (g : GC) : Prop := p.tables.exec = Jvm.exec ∧ c.code = code ∧ c.maxLocals = 7 ∧ s.vm.findClass "CacheLevelsLaw" = some m.cls ∧ (∀ w ∈ tbW, w.before #[Value.ref b] s = true) ∧ va_X b L xs s s.heap ∧ b < s.heap.size ∧ va_K D vwCl (tyL cI cZ cL) s ∧ ThrA (LA s) s s.heap ∧ va_Nc EA EI s ∧ l.stackTraces = false ∧ L ≤ 2052 ∧ okC g
def LwS (D : va_G) (cI cZ cL : ClassId) (g : GC) (gm : GM) (ao : Nat) (s : State) (b q : Nat) (x : Cs) (y : Ms) (f : Fl) (H : Heap) (locs : List Loc) (ls : Array Slot) : Prop := va_P D vwCl (wL cI cZ cL g gm x y ao f) H ∧ va_D (LA s) (wL cI cZ cL g gm x y ao f) ∧ va_S (LA s) s.heap H locs ∧ lv_has ls 7 [(4, .int (nI q)), (3, .ref ao), (2, .ref gm.1.1), (1, .ref g.1.1), (0, .ref b)]
theorem ini_Lw : Cond.initialized y_L_access.cls ∈ tbW := ini_L
abbrev w_L_cell : List Cond := .code y_L_cell b_L_cell 2 (some .int) :: tbW
abbrev rm_L_cell : Room := { frames := 0, cells := 0, slots := 0, locals := 0 }
set_option maxHeartbeats 4000000 in
set_option maxRecDepth 100000 in
theorem c_L_cell (l : Launch) (b L : Nat) (xs : Nat → Int32) (k : Nat) (hL : L ≤ 2052) (hk : k < 4) : Met l y_L_cell w_L_cell rm_L_cell (va_Pc [.ref b, .int (nI k)] (fun U => b < U.heap.size ∧ va_X b L xs U U.heap)) (vp_Si (fun r => r = if k < L then xs k else 0)) 0 0 (fun _ => False) := by
  refine va_MetF (cc := b_L_cell) (maxL := 2) (ret := (some .int)) (by decide +kernel) rfl ?_
  intro p e s m args below meth c s₁ B hml hv
  obtain ⟨rfl, hbl, hX⟩ := hv
  have hx := B.exec
  have hb := B.bytes
  have hr := B.returns
  have hlocks := B.notSynchronized
  have hS : va_S (fun _ => False) s.heap s.heap [] := va_S.rf
  have hl := lv_entry ([.ref b, .int (nI k)]) (n := 2) (Nat.le_of_ble_eq_true rfl)
  rw [lg_entry_eq]
  generalize (lg_sl ([.ref b, .int (nI k)]) ++ List.replicate (2 - (lg_sl ([.ref b, .int (nI k)])).length) Slot.unset).toArray = ls at hl ⊢
  have hl : lv_has ls 2 [(0, .ref b), (1, .int (nI k))] := hl
  refine lv_iload_n hx hb d_L_cell_0 rfl (lv_at hl 1 rfl) ?_
  refine lv_aload_n hx hb d_L_cell_1 rfl (lv_at hl 0 rfl) ?_
  refine va_slen hx hb hX hbl (fun q => q) hS d_L_cell_2 ?_
  have e0 : Int32.ofNat L = nI L := rfl
  rw [e0]
  refine lv_icmp_ge (tgt := 12) hx hb d_L_cell_3 (by decide) (fun c3 => ?_) (fun c3 => ?_)
  · have h3 : ¬ k < L := fun q => absurd c3 (nI_ge q (by omega))
    refine lv_iconst (v := 0) hx hb d_L_cell_12 (by decide) ?_
    exact W.iret (v := 0) hx hb hr (fun t ht hW => ⟨0, rfl, by rw [if_neg h3], ht⟩) (fun q h => by cases h) d_L_cell_13
  · have h3 : k < L := by
      rcases Nat.lt_or_ge k L with q | q
      · exact q
      · exact absurd (nI_le q (by omega)) c3
    refine lv_aload_n hx hb d_L_cell_6 rfl (lv_at hl 0 rfl) ?_
    refine lv_iload_n hx hb d_L_cell_7 rfl (lv_at hl 1 rfl) ?_
    refine va_sld hx hb hX hbl (fun q => q) hS (vp_in_nI h3 (by omega)) d_L_cell_8 ?_
    refine lv_goto (tgt := 13) hx hb d_L_cell_9 (by decide) ?_
    exact W.iret (v := xs (nI k).toNatClampNeg) hx hb hr (fun t ht hW => ⟨_, rfl, by rw [if_pos h3, nI_clamp (by omega)], ht⟩) (fun q h => by cases h) d_L_cell_13
section MyLaw
variable {p : Program} {l : Launch} {e : Env} {R : Room} {s : State} {m : MethodId} {args : Array Value} {below : List Frame} {meth : Method} {c : Code} {H : Heap} {locs : List Loc} {cells slots : Nat} {Q : State → Prop}
variable {cc bytes : ByteArray} {pc nL maxL n index : Nat} {ls : Array Slot} {rest As st0 : List Value} {D : va_G} {cl : List vw_C} {tys : List (ClassId × FieldType)} {A : Nat → Prop} {Wd wc wr : va_W} {Ts wsy : List Cond} {own : String} {y : MethodName} {ret : Option FieldType} {rm : Room}
theorem lv_ren {x y : Int32} (h : x = y) (k : W p l e R s m args below meth c H locs cells slots Q (F0 m pc ls (.int y :: rest))) : W p l e R s m args below meth c H locs cells slots Q (F0 m pc ls (.int x :: rest)) := by
  subst h
  exact k
theorem cpx {post : Int32 → Prop} {b L : Nat} {xs : Nat → Int32} (SF : CallFix p m c cc nL s args Ts own) (hM : Met l y wsy rm (va_Pc As (fun U => b < U.heap.size ∧ va_X b L xs U U.heap)) (vp_Si post) 0 0 (fun _ => False)) (cw : CallB R s args own index y bytes maxL ret wsy rm 0 0 n ∧ (Cond.static y).before args s = true) (hX : va_X b L xs s s.heap) (hbl : b < s.heap.size) (hbA : ¬ A b) (hS : va_S A s.heap H locs) (hn : As.length = n) (hsz : ls.size = nL) (hst : st0 = As.reverse ++ rest) (hrm : (rest.map fun v => v.category).sum ≤ 8) (hdg : decode cc pc = .ok (.invokestatic index, 3)) (hf : cells ≤ R.cells ∧ slots ≤ R.slots)
    (kk : ∀ r : Int32, post r → W p l e R s m args below meth c H locs cells slots Q (F0 m (pc + 3) ls (.int r :: rest))) : W p l e R s m args below meth c H locs cells slots Q (F0 m pc ls st0) :=
  vp_callSi (W.runS (As := As) (rest := rest) SF hM cw ⟨fun a U g mk q => ⟨q.1, q.2.1, va_X.moved (u := U) (U := U.calling g mk a) (Vm.Alike.refl U.vm) q.2.2⟩, fun U hU hW => ⟨rfl, by rw [hU]; exact Nat.lt_of_lt_of_le hbl hS.1, by rw [hU]; exact (va_X.moved hW.alike hX).kept (hS.2.1 b hbl hbA)⟩⟩ rfl hn hsz hst (lv_room hrm) hdg hf) kk
theorem cwsw {hh : List (Nat × Nat × Nat × Nat)} (hts : ∀ w ∈ tbW, w.before args s = true) (hcode : Cond.codeWith y bytes maxL ret hh ∈ tbW) (hlink : Cond.methodLink own index y ∈ tbW) (hstat : Cond.static y ∈ tbW) (hini : Cond.initialized y.cls ∈ tbW) (hd : y.cls ≠ "java/lang/invoke/MethodHandle" ∧ y.cls ≠ "java/lang/invoke/VarHandle" ∧ (parseMethodDescriptor y.desc).map (fun d => d.parameters.length) = some n) {fr lo : Nat} (hR : fr + 1 ≤ R.frames ∧ 8 + (maxL + 11) + lo ≤ R.locals) : vx_CSW R s args own index y bytes maxL ret hh (.codeWith y bytes maxL ret hh :: tbW) { frames := fr, cells := 1, slots := 6, locals := lo } 1 6 n := by
  refine vx_cwSW n hts (good_TBs fun w hw => ?_) rfl rfl rfl hd hR
  simp only [va_wsS, List.cons_append, List.nil_append, List.mem_cons] at hw
  rcases hw with rfl | rfl | rfl | rfl | hw
  · exact hlink
  · exact hstat
  · exact hini
  · exact hcode
  · exact hw
theorem csi {S : Type} {post : Int32 → S → Prop} {wld wldC : S → va_W} {hh : List (Nat × Nat × Nat × Nat)} (SF : CallFix p m c cc nL s args Ts own) (hM : Met l y wsy rm (PcH D cl tys As wc) (va_Qi post (fun (u : S) (t : State) => va_P D cl (wld u) t.heap) (Aw wc)) 1 6 (Aw wc)) (cw : vx_CSW R s args own index y bytes maxL ret hh wsy rm 1 6 n) (hK : va_K D cl tys s) (hP : va_P D cl Wd H) (hD : va_D A Wd) (hS : va_S A s.heap H locs) (hT : ThrA A s s.heap) (hNc : va_Nc EA EI s) (isC isR perm : List Nat) (hC : isC.filterMap (fun i => Wd[i]?) = wc) (hC2 : isC.map (fun i => Wd[i]?) = wc.map some) (hnd : va_nd isC = true) (hdis : ∀ i ∈ isR, i ∉ isC) (hR : isR.filterMap (fun i => Wd[i]?) = wr) (hperm : ∀ u, perm.filterMap (fun i => (wr ++ wld u)[i]?) = wldC u) (hadr : ∀ u, (wldC u).map Prod.fst = Wd.map Prod.fst) (hn : As.length = n) (hsz : ls.size = nL) (hst : st0 = As.reverse ++ rest) (hrm : (rest.map fun v => v.category).sum ≤ 8) (hdg : decode cc pc = .ok (.invokestatic index, 3)) (hf : cells + 1 ≤ R.cells ∧ slots + 6 ≤ R.slots)
    (kk : ∀ (r : Int32) (u : S) (H : Heap) (locs : List Loc), post r u → va_P D cl (wldC u) H → va_D A (wldC u) → va_S A s.heap H locs → W p l e R s m args below meth c H locs (cells + 1) (slots + 6) Q (F0 m (pc + 3) ls (.int r :: rest))) : W p l e R s m args below meth c H locs cells slots Q (F0 m pc ls st0) := by
  have hPc := hP.sub isC hC
  have hDc := (hD.sub isC hnd hC2).weaken (B := fun _ => True) (fun _ _ _ _ => trivial)
  refine va_calli (vx_runSW (As := As) (rest := rest) SF hM cw ⟨blindH, fun U hU hW => ⟨rfl, by rw [hU]; exact hPc, va_K.moved hW.alike hK, hDc, by rw [hU]; exact hT.at hW hS.2.1, va_Nc.moved hW.alike hNc⟩⟩ rfl hn hsz hst (lv_room hrm) hdg hf) hS (fun q _ h => Aw_sub hD isC hC q h) (Aw_sub hD isC hC) (fun r u t H1 locs1 ht _ hw hB _ hk1 hS1 => ?_)
  rw [ht] at hB
  exact kk r u H1 locs1 hw (((pjoin hP hD isC isR hC hR hdis hk1).app hB).sub perm (hperm u)) (va_D_addr hD (hadr u)) hS1
end MyLaw
theorem idx_in {q L k : Nat} {j : Int32} (hj : j = nI k) (h : q + k < L) (hL : L ≤ 2052) : vp_in (nI q + j) L := by
  rw [hj, nI_add]
  exact vp_in_nI h (by omega)
-- where the parts of the law's world lie
def jH : List Nat := [0, 1, 2, 3, 4, 5, 6, 7, 8, 9, 10, 11, 12, 13, 14, 15, 16, 17, 18, 30]
def jHr : List Nat := [19, 20, 21, 22, 23, 24, 25, 26, 27, 28, 29]
def jHp : List Nat := [11, 12, 13, 14, 15, 16, 17, 18, 19, 20, 21, 22, 23, 24, 25, 26, 27, 28, 29, 0, 1, 2, 3, 4, 5, 6, 7, 8, 9, 10, 30]
def jM : List Nat := [19, 20, 21, 22, 23, 24, 25, 26, 27, 28, 29]
def jMr : List Nat := [0, 1, 2, 3, 4, 5, 6, 7, 8, 9, 10, 11, 12, 13, 14, 15, 16, 17, 18, 30]
def jMp : List Nat := [0, 1, 2, 3, 4, 5, 6, 7, 8, 9, 10, 11, 12, 13, 14, 15, 16, 17, 18, 20, 21, 22, 23, 24, 25, 26, 27, 28, 29, 30, 19]
def jC : List Nat := [0, 1, 2, 3, 4, 5, 6, 7, 8, 9, 10, 11, 12, 13, 14, 15, 16, 17, 18]
def jCr : List Nat := [19, 20, 21, 22, 23, 24, 25, 26, 27, 28, 29, 30]
def jCp : List Nat := [12, 13, 14, 15, 16, 17, 18, 19, 20, 21, 22, 23, 24, 25, 26, 27, 28, 29, 30, 0, 1, 2, 3, 4, 5, 6, 7, 8, 9, 10, 11]
theorem jH_nd : va_nd jH = true := by decide
theorem jM_nd : va_nd jM = true := by decide
theorem jC_nd : va_nd jC = true := by decide
theorem jH_dis : ∀ i ∈ jHr, i ∉ jH := by decide
theorem jM_dis : ∀ i ∈ jMr, i ∉ jM := by decide
theorem jC_dis : ∀ i ∈ jCr, i ∉ jC := by decide
def wMo (cI cZ cL : ClassId) (gm : GM) (y : Ms) (ao : Nat) (f : Fl) : va_W := wM cI cZ gm y ++ [(ao, .inl (cL, 1, .inr (.inl f)))]
section Places
variable {cI cZ cL : ClassId} {g : GC} {gm : GM} {x : Cs} {y : Ms} {ao : Nat} {f : Fl}
theorem jH_C : jH.filterMap (fun i => (wL cI cZ cL g gm x y ao f)[i]?) = wCo cI cZ cL g x ao f := rfl
theorem jH_C2 : jH.map (fun i => (wL cI cZ cL g gm x y ao f)[i]?) = (wCo cI cZ cL g x ao f).map some := rfl
theorem jH_R : jHr.filterMap (fun i => (wL cI cZ cL g gm x y ao f)[i]?) = wM cI cZ gm y := rfl
theorem jH_P (u : Cs × Fl) : jHp.filterMap (fun i => (wM cI cZ gm y ++ wCo cI cZ cL g u.1 ao u.2)[i]?) = wL cI cZ cL g gm u.1 y ao u.2 := rfl
theorem jH_A (u : Cs × Fl) : (wL cI cZ cL g gm u.1 y ao u.2).map Prod.fst = (wL cI cZ cL g gm x y ao f).map Prod.fst := rfl
theorem jM_C : jM.filterMap (fun i => (wL cI cZ cL g gm x y ao f)[i]?) = wM cI cZ gm y := rfl
theorem jM_C2 : jM.map (fun i => (wL cI cZ cL g gm x y ao f)[i]?) = (wM cI cZ gm y).map some := rfl
theorem jM_R : jMr.filterMap (fun i => (wL cI cZ cL g gm x y ao f)[i]?) = wCo cI cZ cL g x ao f := rfl
theorem jM_P (u : Ms) : jMp.filterMap (fun i => (wCo cI cZ cL g x ao f ++ wM cI cZ gm u)[i]?) = wL cI cZ cL g gm x u ao f := rfl
theorem jM_A (u : Ms) : (wL cI cZ cL g gm x u ao f).map Prod.fst = (wL cI cZ cL g gm x y ao f).map Prod.fst := rfl
theorem jC_C : jC.filterMap (fun i => (wL cI cZ cL g gm x y ao f)[i]?) = wC cI cZ g x := rfl
theorem jC_C2 : jC.map (fun i => (wL cI cZ cL g gm x y ao f)[i]?) = (wC cI cZ g x).map some := rfl
theorem jC_R : jCr.filterMap (fun i => (wL cI cZ cL g gm x y ao f)[i]?) = wMo cI cZ cL gm y ao f := rfl
theorem jC_P (u : Cs) : jCp.filterMap (fun i => (wMo cI cZ cL gm y ao f ++ wC cI cZ g u)[i]?) = wL cI cZ cL g gm u y ao f := rfl
theorem jC_A (u : Cs) : (wL cI cZ cL g gm u y ao f).map Prod.fst = (wL cI cZ cL g gm x y ao f).map Prod.fst := rfl
theorem jL_o : (wL cI cZ cL g gm x y ao f)[30]? = some (ao, .inl (cL, 1, .inr (.inl f))) := rfl
theorem jL_c0 : (wC cI cZ g x)[0]? = some (g.1.1, .inr (2, [.int g.2.1.1, .int g.2.1.2, .ref g.2.2.2.1.1.1, .ref g.2.2.2.2.1.1.1, .ref g.2.2.2.2.2.1.1, .ref g.1.2.1, .ref g.1.2.2, .int x.1.1, .int x.1.2.1, .int x.1.2.2])) := rfl
end Places
