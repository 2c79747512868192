abbrev w_C_requireCore : List Cond := .code y_C_requireCore b_C_requireCore 2 none :: tbW
abbrev rm_C_requireCore : Room := { frames := 0, cells := 0, slots := 0, locals := 0 }
set_option maxHeartbeats 4000000 in
set_option maxRecDepth 100000 in
theorem c_C_requireCore (l : Launch) (D : va_G) (cI cZ : ClassId) (g : GC) (hg : okC g) (x : Cs) (p0 : Int32) (hv0 : ¬ p0 < 0) (hv1 : p0 < g.2.1.1) : Met l y_C_requireCore w_C_requireCore rm_C_requireCore (PcR D vwCl (tyK cI cZ) [.ref g.1.1, .int p0] (wC cI cZ g x)) (va_Sv (fun _ => True)) 0 0 (fun _ => False) := by
  refine Met.ofW (cc := b_C_requireCore) (maxL := 2) (ret := none) (by decide) rfl ?_
  intro p e s m args below meth c s₁ B hml hv
  obtain ⟨rfl, hP, hK⟩ := hv
  have hx := B.exec
  have hb := B.bytes
  have hr := B.returns
  have htb : ∀ w ∈ tbW, w.before _ s = true := fun w h => atoms_spec (ws := w_C_requireCore) B.pre w (List.mem_cons_of_mem _ h)
  have hown : s.vm.findClass R_C = some m.cls := findClass_of_methodNamed B.named
  have hlocks := B.notSynchronized
  have hl := lv_entry ([.ref g.1.1, .int p0]) (n := 2) (Nat.le_of_ble_eq_true rfl)
  rw [lg_entry_eq]
  generalize (lg_sl ([.ref g.1.1, .int p0]) ++ List.replicate (2 - (lg_sl ([.ref g.1.1, .int p0])).length) Slot.unset).toArray = ls at hl ⊢
  have hl : lv_has ls 2 [(0, .ref g.1.1), (1, .int p0)] := hl
  refine lv_iload_n hx hb d_C_requireCore_0 rfl (lv_at hl 1 rfl) ?_
  refine lv_if_lt (tgt := 12) hx hb d_C_requireCore_1 (by decide) (fun c_1 => ?_) (fun c_1 => ?_)
  · exact absurd c_1 hv0
  · skip
    refine lv_iload_n hx hb d_C_requireCore_4 rfl (lv_at hl 1 rfl) ?_
    refine lv_aload_n hx hb d_C_requireCore_5 rfl (lv_at hl 0 rfl) ?_
    refine va_get (D := D) (ci := 2) (v := .int g.2.1.1) (C := R_C) (T := T_C) (N := 10) hx hb htb i_C hown hK hP 0 rfl rfl 0 (by decide) (htb _ k_C_15) (fun _ h9 => h9) rfl d_C_requireCore_6 ?_
    refine lv_icmp_lt (tgt := 22) hx hb d_C_requireCore_9 (by decide) (fun c_9 => ?_) (fun c_9 => ?_)
    · skip
      exact W.vret hx hb hr (fun t ht hW => ⟨rfl, trivial, ht⟩) (fun q h => by cases h) d_C_requireCore_22
    · exact absurd hv1 c_9

abbrev w_C_requireCoreOrNone : List Cond := .code y_C_requireCoreOrNone b_C_requireCoreOrNone 2 none :: tbW
abbrev rm_C_requireCoreOrNone : Room := { frames := 1, cells := 0, slots := 0, locals := 21 }
set_option maxHeartbeats 4000000 in
set_option maxRecDepth 100000 in
theorem c_C_requireCoreOrNone (l : Launch) (D : va_G) (cI cZ : ClassId) (g : GC) (hg : okC g) (x : Cs) (p0 : Int32) (hv : p0 = -1 ∨ (¬ p0 < 0 ∧ p0 < g.2.1.1)) : Met l y_C_requireCoreOrNone w_C_requireCoreOrNone rm_C_requireCoreOrNone (PcR D vwCl (tyK cI cZ) [.ref g.1.1, .int p0] (wC cI cZ g x)) (va_Sv (fun _ => True)) 0 0 (fun _ => False) := by
  refine Met.ofW (cc := b_C_requireCoreOrNone) (maxL := 2) (ret := none) (by decide) rfl ?_
  intro p e s m args below meth c s₁ B hml hv
  obtain ⟨rfl, hP, hK⟩ := hv
  have hx := B.exec
  have hb := B.bytes
  have hr := B.returns
  have htb : ∀ w ∈ tbW, w.before _ s = true := fun w h => atoms_spec (ws := w_C_requireCoreOrNone) B.pre w (List.mem_cons_of_mem _ h)
  have hown : s.vm.findClass R_C = some m.cls := findClass_of_methodNamed B.named
  have hlocks := B.notSynchronized
  have hl := lv_entry ([.ref g.1.1, .int p0]) (n := 2) (Nat.le_of_ble_eq_true rfl)
  rw [lg_entry_eq]
  generalize (lg_sl ([.ref g.1.1, .int p0]) ++ List.replicate (2 - (lg_sl ([.ref g.1.1, .int p0])).length) Slot.unset).toArray = ls at hl ⊢
  have hl : lv_has ls 2 [(0, .ref g.1.1), (1, .int p0)] := hl
  refine lv_iload_n hx hb d_C_requireCoreOrNone_0 rfl (lv_at hl 1 rfl) ?_
  refine lv_iconst (v := -1) hx hb d_C_requireCoreOrNone_1 (by decide) ?_
  refine lv_icmp_eq (tgt := 10) hx hb d_C_requireCoreOrNone_2 (by decide) (fun c_2 => ?_) (fun c_2 => ?_)
  · skip
    exact W.vret hx hb hr (fun t ht hW => ⟨rfl, trivial, ht⟩) (fun q h => by cases h) d_C_requireCoreOrNone_10
  · skip
    refine lv_aload_n hx hb d_C_requireCoreOrNone_5 rfl (lv_at hl 0 rfl) ?_
    refine lv_iload_n hx hb d_C_requireCoreOrNone_6 rfl (lv_at hl 1 rfl) ?_
    refine cpv (As := [.int p0]) (rest := []) ⟨hx, hb, hml, hown, htb⟩ (c_C_requireCore l D cI cZ g hg x p0 (hv.resolve_left c_2).1 (hv.resolve_left c_2).2) (cwv (n := 1) htb cd_C_requireCore k_C_57 in_C_requireCore se_C_requireCore ini_C hd_C_requireCore ⟨Nat.le_of_ble_eq_true rfl, Nat.le_of_ble_eq_true rfl⟩) hK hP [0, 1, 2, 3, 4, 5, 6, 7, 8, 9, 10, 11, 12, 13, 14, 15, 16, 17, 18] rfl (ci := 2) rfl rfl rfl hl.1 rfl (Nat.le_of_ble_eq_true rfl) d_C_requireCoreOrNone_7 ⟨Nat.zero_le _, Nat.zero_le _⟩ (?_)
    exact W.vret hx hb hr (fun t ht hW => ⟨rfl, trivial, ht⟩) (fun q h => by cases h) d_C_requireCoreOrNone_10

abbrev w_C_bankOf_n : List Cond := .code y_C_bankOf b_C_bankOf 2 (some (.object R_B)) :: tbW
abbrev rm_C_bankOf_n : Room := { frames := 0, cells := 0, slots := 0, locals := 0 }
set_option maxHeartbeats 4000000 in
set_option maxRecDepth 100000 in
theorem c_C_bankOf_n (l : Launch) (D : va_G) (cI cZ : ClassId) (g : GC) (hg : okC g) (x : Cs) (p0 : Int32) (hq : p0 = -1) : Met l y_C_bankOf w_C_bankOf_n rm_C_bankOf_n (PcR D vwCl (tyK cI cZ) [.ref g.1.1, .int p0] (wC cI cZ g x)) (va_Sr (fun _ => True) (fun _ => .ref g.2.2.2.2.1.1.1)) 0 0 (fun _ => False) := by
  refine Met.ofW (cc := b_C_bankOf) (maxL := 2) (ret := (some (.object R_B))) (by decide) rfl ?_
  intro p e s m args below meth c s₁ B hml hv
  obtain ⟨rfl, hP, hK⟩ := hv
  have hx := B.exec
  have hb := B.bytes
  have hr := B.returns
  have htb : ∀ w ∈ tbW, w.before _ s = true := fun w h => atoms_spec (ws := w_C_bankOf_n) B.pre w (List.mem_cons_of_mem _ h)
  have hown : s.vm.findClass R_C = some m.cls := findClass_of_methodNamed B.named
  have hlocks := B.notSynchronized
  have hl := lv_entry ([.ref g.1.1, .int p0]) (n := 2) (Nat.le_of_ble_eq_true rfl)
  rw [lg_entry_eq]
  generalize (lg_sl ([.ref g.1.1, .int p0]) ++ List.replicate (2 - (lg_sl ([.ref g.1.1, .int p0])).length) Slot.unset).toArray = ls at hl ⊢
  have hl : lv_has ls 2 [(0, .ref g.1.1), (1, .int p0)] := hl
  refine lv_iload_n hx hb d_C_bankOf_0 rfl (lv_at hl 1 rfl) ?_
  refine lv_iconst (v := -1) hx hb d_C_bankOf_1 (by decide) ?_
  refine lv_icmp_ne (tgt := 12) hx hb d_C_bankOf_2 (by decide) (fun c_2 => ?_) (fun c_2 => ?_)
  · exact absurd hq c_2
  · skip
    refine lv_aload_n hx hb d_C_bankOf_5 rfl (lv_at hl 0 rfl) ?_
    refine va_get (D := D) (ci := 2) (v := .ref g.2.2.2.2.1.1.1) (C := R_C) (T := T_C) (N := 10) hx hb htb i_C hown hK hP 0 rfl rfl 3 (by decide) (htb _ k_C_31) (fun _ h9 => h9) rfl d_C_bankOf_6 ?_
    refine lv_goto (tgt := 16) hx hb d_C_bankOf_9 (by decide) ?_
    exact W.aret (v := .ref g.2.2.2.2.1.1.1) hx hb hr (Or.inl ⟨_, rfl⟩) (Or.inr ⟨_, rfl⟩) (fun t ht hW => ⟨0, rfl, trivial, ht⟩) (fun q h => by cases h) d_C_bankOf_16

abbrev w_C_bankOf_c : List Cond := .code y_C_bankOf b_C_bankOf 2 (some (.object R_B)) :: tbW
abbrev rm_C_bankOf_c : Room := { frames := 0, cells := 0, slots := 0, locals := 0 }
set_option maxHeartbeats 4000000 in
set_option maxRecDepth 100000 in
theorem c_C_bankOf_c (l : Launch) (D : va_G) (cI cZ : ClassId) (g : GC) (hg : okC g) (x : Cs) (p0 : Int32) (hq : ¬ p0 = -1) : Met l y_C_bankOf w_C_bankOf_c rm_C_bankOf_c (PcR D vwCl (tyK cI cZ) [.ref g.1.1, .int p0] (wC cI cZ g x)) (va_Sr (fun _ => True) (fun _ => .ref g.2.2.2.1.1.1)) 0 0 (fun _ => False) := by
  refine Met.ofW (cc := b_C_bankOf) (maxL := 2) (ret := (some (.object R_B))) (by decide) rfl ?_
  intro p e s m args below meth c s₁ B hml hv
  obtain ⟨rfl, hP, hK⟩ := hv
  have hx := B.exec
  have hb := B.bytes
  have hr := B.returns
  have htb : ∀ w ∈ tbW, w.before _ s = true := fun w h => atoms_spec (ws := w_C_bankOf_c) B.pre w (List.mem_cons_of_mem _ h)
  have hown : s.vm.findClass R_C = some m.cls := findClass_of_methodNamed B.named
  have hlocks := B.notSynchronized
  have hl := lv_entry ([.ref g.1.1, .int p0]) (n := 2) (Nat.le_of_ble_eq_true rfl)
  rw [lg_entry_eq]
  generalize (lg_sl ([.ref g.1.1, .int p0]) ++ List.replicate (2 - (lg_sl ([.ref g.1.1, .int p0])).length) Slot.unset).toArray = ls at hl ⊢
  have hl : lv_has ls 2 [(0, .ref g.1.1), (1, .int p0)] := hl
  refine lv_iload_n hx hb d_C_bankOf_0 rfl (lv_at hl 1 rfl) ?_
  refine lv_iconst (v := -1) hx hb d_C_bankOf_1 (by decide) ?_
  refine lv_icmp_ne (tgt := 12) hx hb d_C_bankOf_2 (by decide) (fun c_2 => ?_) (fun c_2 => ?_)
  · skip
    refine lv_aload_n hx hb d_C_bankOf_12 rfl (lv_at hl 0 rfl) ?_
    refine va_get (D := D) (ci := 2) (v := .ref g.2.2.2.1.1.1) (C := R_C) (T := T_C) (N := 10) hx hb htb i_C hown hK hP 0 rfl rfl 2 (by decide) (htb _ k_C_27) (fun _ h9 => h9) rfl d_C_bankOf_13 ?_
    exact W.aret (v := .ref g.2.2.2.1.1.1) hx hb hr (Or.inl ⟨_, rfl⟩) (Or.inr ⟨_, rfl⟩) (fun t ht hW => ⟨0, rfl, trivial, ht⟩) (fun q h => by cases h) d_C_bankOf_16
  · exact absurd c_2 hq

def M_C_groupOf (p0 : Int32) : Int32 := (if p0 = (-1 : Int32) then (0 : Int32) else p0)
theorem M_C_groupOf_eq (p0 : Int32) : M_C_groupOf p0 = (if p0 = (-1 : Int32) then (0 : Int32) else p0) := rfl
abbrev w_C_groupOf : List Cond := .code y_C_groupOf b_C_groupOf 1 (some .int) :: tbW
abbrev rm_C_groupOf : Room := { frames := 0, cells := 0, slots := 0, locals := 0 }
set_option maxHeartbeats 4000000 in
set_option maxRecDepth 100000 in
theorem c_C_groupOf (l : Launch) (p0 : Int32) : Met l y_C_groupOf w_C_groupOf rm_C_groupOf (va_Pc [.int p0] (fun _ => True)) (vp_Si (fun r => r = M_C_groupOf p0)) 0 0 (fun _ => False) := by
  refine Met.ofW (cc := b_C_groupOf) (maxL := 1) (ret := (some .int)) (by decide) rfl ?_
  intro p e s m args below meth c s₁ B hml hv
  obtain ⟨rfl, -⟩ := hv
  have hx := B.exec
  have hb := B.bytes
  have hr := B.returns
  have htb : ∀ w ∈ tbW, w.before _ s = true := fun w h => atoms_spec (ws := w_C_groupOf) B.pre w (List.mem_cons_of_mem _ h)
  have hown : s.vm.findClass R_C = some m.cls := findClass_of_methodNamed B.named
  have hlocks := B.notSynchronized
  have hl := lv_entry ([.int p0]) (n := 1) (Nat.le_of_ble_eq_true rfl)
  rw [lg_entry_eq]
  generalize (lg_sl ([.int p0]) ++ List.replicate (1 - (lg_sl ([.int p0])).length) Slot.unset).toArray = ls at hl ⊢
  have hl : lv_has ls 1 [(0, .int p0)] := hl
  have hF := M_C_groupOf_eq p0
  refine lv_iload_n hx hb d_C_groupOf_0 rfl (lv_at hl 0 rfl) ?_
  refine lv_iconst (v := -1) hx hb d_C_groupOf_1 (by decide) ?_
  refine lv_icmp_ne (tgt := 9) hx hb d_C_groupOf_2 (by decide) (fun c_2 => ?_) (fun c_2 => ?_)
  · have hF := hF.trans (if_neg c_2)
    refine lv_iload_n hx hb d_C_groupOf_9 rfl (lv_at hl 0 rfl) ?_
    exact W.iret (v := p0) hx hb hr (fun t ht hW => ⟨_, rfl, hF.symm, ht⟩) (fun q h => by cases h) d_C_groupOf_10
  · have hF := hF.trans (if_pos c_2)
    refine lv_iconst (v := 0) hx hb d_C_groupOf_5 (by decide) ?_
    refine lv_goto (tgt := 10) hx hb d_C_groupOf_6 (by decide) ?_
    exact W.iret (v := (0 : Int32)) hx hb hr (fun t ht hW => ⟨_, rfl, hF.symm, ht⟩) (fun q h => by cases h) d_C_groupOf_10

def M_C_tally (g : GC) (x : Cs) (p0 p1 : Int32) : Cs := (if ((p0 * (7 : Int32)) + p1) < 0 then x else (if (nI g.2.2.1.2) ≤ ((p0 * (7 : Int32)) + p1) then x else (x.1, x.2.1, x.2.2.1, x.2.2.2.1, x.2.2.2.2.1, (upd x.2.2.2.2.2 ((p0 * (7 : Int32)) + p1).toNatClampNeg ((x.2.2.2.2.2 ((p0 * (7 : Int32)) + p1).toNatClampNeg) + (1 : Int32))))))
theorem M_C_tally_eq (g : GC) (x : Cs) (p0 p1 : Int32) : M_C_tally g x p0 p1 = (if ((p0 * (7 : Int32)) + p1) < 0 then x else (if (nI g.2.2.1.2) ≤ ((p0 * (7 : Int32)) + p1) then x else (x.1, x.2.1, x.2.2.1, x.2.2.2.1, x.2.2.2.2.1, (upd x.2.2.2.2.2 ((p0 * (7 : Int32)) + p1).toNatClampNeg ((x.2.2.2.2.2 ((p0 * (7 : Int32)) + p1).toNatClampNeg) + (1 : Int32)))))) := rfl
abbrev w_C_tally : List Cond := .code y_C_tally b_C_tally 4 none :: tbW
abbrev rm_C_tally : Room := { frames := 0, cells := 0, slots := 0, locals := 0 }
set_option maxHeartbeats 4000000 in
set_option maxRecDepth 100000 in
theorem c_C_tally (l : Launch) (D : va_G) (cI cZ : ClassId) (g : GC) (hg : okC g) (x : Cs) (p0 p1 : Int32) : Met l y_C_tally w_C_tally rm_C_tally (PcW D vwCl (tyK cI cZ) [.ref g.1.1, .int p0, .int p1] (wC cI cZ g x)) (va_Qv (fun (u : Cs) => u = M_C_tally g x p0 p1) (fun (u : Cs) (t : State) => va_P D vwCl (wC cI cZ g u) t.heap) (Aw (wC cI cZ g x))) 0 0 (Aw (wC cI cZ g x)) := by
  refine Met.ofW (cc := b_C_tally) (maxL := 4) (ret := none) (by decide) rfl ?_
  intro p e s m args below meth c s₁ B hml hv
  obtain ⟨rfl, hP, hK, hD0⟩ := hv
  have hx := B.exec
  have hb := B.bytes
  have hr := B.returns
  have htb : ∀ w ∈ tbW, w.before _ s = true := fun w h => atoms_spec (ws := w_C_tally) B.pre w (List.mem_cons_of_mem _ h)
  have hown : s.vm.findClass R_C = some m.cls := findClass_of_methodNamed B.named
  have hlocks := B.notSynchronized
  have hD : va_D (Aw (wC cI cZ g x)) (wC cI cZ g x) := ⟨hD0.1, fun k q hk => ⟨k, q.2, hk⟩⟩
  have hS : va_S (Aw (wC cI cZ g x)) s.heap s.heap [] := va_S.rf
  have hl := lv_entry ([.ref g.1.1, .int p0, .int p1]) (n := 4) (Nat.le_of_ble_eq_true rfl)
  rw [lg_entry_eq]
  generalize (lg_sl ([.ref g.1.1, .int p0, .int p1]) ++ List.replicate (4 - (lg_sl ([.ref g.1.1, .int p0, .int p1])).length) Slot.unset).toArray = ls at hl ⊢
  have hl : lv_has ls 4 [(0, .ref g.1.1), (1, .int p0), (2, .int p1)] := hl
  have hF := M_C_tally_eq g x p0 p1
  refine lv_iload_n hx hb d_C_tally_0 rfl (lv_at hl 1 rfl) ?_
  refine lv_bipush (v := 7) hx hb d_C_tally_1 (by decide) ?_
  refine lv_imul hx hb d_C_tally_3 ?_
  refine lv_iload_n hx hb d_C_tally_4 rfl (lv_at hl 2 rfl) ?_
  refine lv_iadd hx hb d_C_tally_5 ?_
  refine lv_istore_n (lv' := [(3, .int ((p0 * (7 : Int32)) + p1)), (0, .ref g.1.1), (1, .int p0), (2, .int p1)]) hx hb d_C_tally_6 rfl hl (by decide) rfl (fun ls hl => ?_)
  refine lv_iload_n hx hb d_C_tally_7 rfl (lv_at hl 0 rfl) ?_
  refine lv_if_lt (tgt := 30) hx hb d_C_tally_8 (by decide) (fun c_8 => ?_) (fun c_8 => ?_)
  · have hF := hF.trans (if_pos c_8)
    exact W.vret hx hb hr (fun t ht hW => ⟨⟨x, rfl, hF.symm, by dsimp only; rw [ht]; exact hP⟩, hS.F ht⟩) hS.2.2 d_C_tally_30
  · have hF := hF.trans (if_neg c_8)
    refine lv_iload_n hx hb d_C_tally_11 rfl (lv_at hl 0 rfl) ?_
    refine lv_aload_n hx hb d_C_tally_12 rfl (lv_at hl 1 rfl) ?_
    refine va_get (D := D) (ci := 2) (v := .ref g.1.2.2) (C := R_C) (T := T_C) (N := 10) hx hb htb i_C hown hK hP 0 rfl rfl 6 (by decide) (htb _ k_C_45) (fun _ h9 => h9) rfl d_C_tally_13 ?_
    refine va_alen hx hb hK hP 18 0 rfl rfl (v := nI g.2.2.1.2) rfl d_C_tally_16 ?_
    refine lv_icmp_ge (tgt := 30) hx hb d_C_tally_17 (by decide) (fun c_17 => ?_) (fun c_17 => ?_)
    · have hF := hF.trans (if_pos c_17)
      exact W.vret hx hb hr (fun t ht hW => ⟨⟨x, rfl, hF.symm, by dsimp only; rw [ht]; exact hP⟩, hS.F ht⟩) hS.2.2 d_C_tally_30
    · have hF := hF.trans (if_neg c_17)
      refine lv_aload_n hx hb d_C_tally_20 rfl (lv_at hl 1 rfl) ?_
      refine va_get (D := D) (ci := 2) (v := .ref g.1.2.2) (C := R_C) (T := T_C) (N := 10) hx hb htb i_C hown hK hP 0 rfl rfl 6 (by decide) (htb _ k_C_45) (fun _ h9 => h9) rfl d_C_tally_21 ?_
      refine lv_iload_n hx hb d_C_tally_24 rfl (lv_at hl 0 rfl) ?_
      refine lv_dup2_11 hx hb d_C_tally_25 rfl rfl ?_
      refine va_iald hx hb hK hP 18 0 rfl rfl (in_ok hg.1.2.1 c_8 c_17) d_C_tally_26 ?_
      refine lv_iconst (v := 1) hx hb d_C_tally_27 (by decide) ?_
      refine lv_iadd hx hb d_C_tally_28 ?_
      refine va_iast hx hb hK hP hD hS 18 0 rfl rfl (in_ok hg.1.2.1 c_8 c_17) d_C_tally_29 (fun H locs hP hD hS => ?_)
      have hP : va_P D vwCl (wC cI cZ g (x.1, x.2.1, x.2.2.1, x.2.2.2.1, x.2.2.2.2.1, (upd x.2.2.2.2.2 ((p0 * (7 : Int32)) + p1).toNatClampNeg ((x.2.2.2.2.2 ((p0 * (7 : Int32)) + p1).toNatClampNeg) + (1 : Int32))))) H := hP
      have hD : va_D _ (wC cI cZ g (x.1, x.2.1, x.2.2.1, x.2.2.2.1, x.2.2.2.2.1, (upd x.2.2.2.2.2 ((p0 * (7 : Int32)) + p1).toNatClampNeg ((x.2.2.2.2.2 ((p0 * (7 : Int32)) + p1).toNatClampNeg) + (1 : Int32))))) := hD
      exact W.vret hx hb hr (fun t ht hW => ⟨⟨(x.1, x.2.1, x.2.2.1, x.2.2.2.1, x.2.2.2.2.1, (upd x.2.2.2.2.2 ((p0 * (7 : Int32)) + p1).toNatClampNeg ((x.2.2.2.2.2 ((p0 * (7 : Int32)) + p1).toNatClampNeg) + (1 : Int32)))), rfl, hF.symm, by dsimp only; rw [ht]; exact hP⟩, hS.F ht⟩) hS.2.2 d_C_tally_30

def M_C_passesBy (g : GC) (x : Cs) (p0 : Int32) : Int32 := (if p0 < x.1.1 then (0 : Int32) else (if x.1.2.1 < p0 then (0 : Int32) else (1 : Int32)))
theorem M_C_passesBy_eq (g : GC) (x : Cs) (p0 : Int32) : M_C_passesBy g x p0 = (if p0 < x.1.1 then (0 : Int32) else (if x.1.2.1 < p0 then (0 : Int32) else (1 : Int32))) := rfl
abbrev w_C_passesBy : List Cond := .code y_C_passesBy b_C_passesBy 2 (some .boolean) :: tbW
abbrev rm_C_passesBy : Room := { frames := 0, cells := 0, slots := 0, locals := 0 }
set_option maxHeartbeats 4000000 in
set_option maxRecDepth 100000 in
theorem c_C_passesBy (l : Launch) (D : va_G) (cI cZ : ClassId) (g : GC) (hg : okC g) (x : Cs) (p0 : Int32) : Met l y_C_passesBy w_C_passesBy rm_C_passesBy (PcR D vwCl (tyK cI cZ) [.ref g.1.1, .int p0] (wC cI cZ g x)) (vp_Si (fun r => r = M_C_passesBy g x p0)) 0 0 (fun _ => False) := by
  refine Met.ofW (cc := b_C_passesBy) (maxL := 2) (ret := (some .boolean)) (by decide) rfl ?_
  intro p e s m args below meth c s₁ B hml hv
  obtain ⟨rfl, hP, hK⟩ := hv
  have hx := B.exec
  have hb := B.bytes
  have hr := B.returns
  have htb : ∀ w ∈ tbW, w.before _ s = true := fun w h => atoms_spec (ws := w_C_passesBy) B.pre w (List.mem_cons_of_mem _ h)
  have hown : s.vm.findClass R_C = some m.cls := findClass_of_methodNamed B.named
  have hlocks := B.notSynchronized
  have hl := lv_entry ([.ref g.1.1, .int p0]) (n := 2) (Nat.le_of_ble_eq_true rfl)
  rw [lg_entry_eq]
  generalize (lg_sl ([.ref g.1.1, .int p0]) ++ List.replicate (2 - (lg_sl ([.ref g.1.1, .int p0])).length) Slot.unset).toArray = ls at hl ⊢
  have hl : lv_has ls 2 [(0, .ref g.1.1), (1, .int p0)] := hl
  have hF := M_C_passesBy_eq g x p0
  refine lv_iload_n hx hb d_C_passesBy_0 rfl (lv_at hl 1 rfl) ?_
  refine lv_aload_n hx hb d_C_passesBy_1 rfl (lv_at hl 0 rfl) ?_
  refine va_get (D := D) (ci := 2) (v := .int x.1.1) (C := R_C) (T := T_C) (N := 10) hx hb htb i_C hown hK hP 0 rfl rfl 7 (by decide) (htb _ k_C_48) (fun _ h9 => h9) rfl d_C_passesBy_2 ?_
  refine lv_icmp_lt (tgt := 20) hx hb d_C_passesBy_5 (by decide) (fun c_5 => ?_) (fun c_5 => ?_)
  · have hF := hF.trans (if_pos c_5)
    refine lv_iconst (v := 0) hx hb d_C_passesBy_20 (by decide) ?_
    exact W.zret (v := (0 : Int32)) (ty := .boolean) hx hb hr rfl (fun t ht hW => ⟨_, rfl, hF.symm, ht⟩) (fun q h => by cases h) d_C_passesBy_21
  · have hF := hF.trans (if_neg c_5)
    refine lv_iload_n hx hb d_C_passesBy_8 rfl (lv_at hl 1 rfl) ?_
    refine lv_aload_n hx hb d_C_passesBy_9 rfl (lv_at hl 0 rfl) ?_
    refine va_get (D := D) (ci := 2) (v := .int x.1.2.1) (C := R_C) (T := T_C) (N := 10) hx hb htb i_C hown hK hP 0 rfl rfl 8 (by decide) (htb _ k_C_51) (fun _ h9 => h9) rfl d_C_passesBy_10 ?_
    refine lv_icmp_gt (tgt := 20) hx hb d_C_passesBy_13 (by decide) (fun c_13 => ?_) (fun c_13 => ?_)
    · have hF := hF.trans (if_pos c_13)
      refine lv_iconst (v := 0) hx hb d_C_passesBy_20 (by decide) ?_
      exact W.zret (v := (0 : Int32)) (ty := .boolean) hx hb hr rfl (fun t ht hW => ⟨_, rfl, hF.symm, ht⟩) (fun q h => by cases h) d_C_passesBy_21
    · have hF := hF.trans (if_neg c_13)
      refine lv_iconst (v := 1) hx hb d_C_passesBy_16 (by decide) ?_
      refine lv_goto (tgt := 21) hx hb d_C_passesBy_17 (by decide) ?_
      exact W.zret (v := (1 : Int32)) (ty := .boolean) hx hb hr rfl (fun t ht hW => ⟨_, rfl, hF.symm, ht⟩) (fun q h => by cases h) d_C_passesBy_21

def L_C_writtenInFirst_2 (g : GC) (x : Cs) (p0 : Int32) : Nat → Int32 → Int32
  | 0, _ => 0
  | n + 1, v2 => (if g.2.1.1 ≤ v2 then (-1 : Int32) else (bnd (M_B_find g.2.2.2.1 x.2.1 v2 p0) (fun r_16 => (bnd (M_B_isWritten g.2.2.2.1 x.2.1 r_16) (fun r_25 => (if r_25 = 0 then L_C_writtenInFirst_2 g x p0 n (v2 + 1) else r_16))))))
theorem L_C_writtenInFirst_2_eq (g : GC) (x : Cs) (p0 : Int32) (n : Nat) (v2 : Int32) : L_C_writtenInFirst_2 g x p0 (n + 1) v2 = (if g.2.1.1 ≤ v2 then (-1 : Int32) else (bnd (M_B_find g.2.2.2.1 x.2.1 v2 p0) (fun r_16 => (bnd (M_B_isWritten g.2.2.2.1 x.2.1 r_16) (fun r_25 => (if r_25 = 0 then L_C_writtenInFirst_2 g x p0 n (v2 + 1) else r_16)))))) := by first | rfl | rw [L_C_writtenInFirst_2]
def M_C_writtenInFirst (g : GC) (x : Cs) (p0 : Int32) : Int32 := L_C_writtenInFirst_2 g x p0 (mu (0 : Int32) g.2.1.1 + 1) (0 : Int32)
theorem M_C_writtenInFirst_eq (g : GC) (x : Cs) (p0 : Int32) : M_C_writtenInFirst g x p0 = L_C_writtenInFirst_2 g x p0 (mu (0 : Int32) g.2.1.1 + 1) (0 : Int32) := rfl
abbrev w_C_writtenInFirst : List Cond := .code y_C_writtenInFirst b_C_writtenInFirst 4 (some .int) :: tbW
abbrev rm_C_writtenInFirst : Room := { frames := 3, cells := 0, slots := 0, locals := 68 }
set_option maxHeartbeats 4000000 in
set_option maxRecDepth 100000 in
theorem c_C_writtenInFirst (l : Launch) (D : va_G) (cI cZ : ClassId) (g : GC) (hg : okC g) (x : Cs) (p0 : Int32) : Met l y_C_writtenInFirst w_C_writtenInFirst rm_C_writtenInFirst (PcR D vwCl (tyK cI cZ) [.ref g.1.1, .int p0] (wC cI cZ g x)) (vp_Si (fun r => r = M_C_writtenInFirst g x p0)) 0 0 (fun _ => False) := by
  refine Met.ofW (cc := b_C_writtenInFirst) (maxL := 4) (ret := (some .int)) (by decide) rfl ?_
  intro p e s m args below meth c s₁ B hml hv
  obtain ⟨rfl, hP, hK⟩ := hv
  have hx := B.exec
  have hb := B.bytes
  have hr := B.returns
  have htb : ∀ w ∈ tbW, w.before _ s = true := fun w h => atoms_spec (ws := w_C_writtenInFirst) B.pre w (List.mem_cons_of_mem _ h)
  have hown : s.vm.findClass R_C = some m.cls := findClass_of_methodNamed B.named
  have hlocks := B.notSynchronized
  have cut_2 : ∀ (n : Nat) (v2 : Int32) (ls : Array Slot), mu v2 g.2.1.1 < n → M_C_writtenInFirst g x p0 = L_C_writtenInFirst_2 g x p0 n v2 → lv_has ls 4 [(0, .ref g.1.1), (1, .int p0), (2, .int v2)] → W p l e (headSpec w_C_writtenInFirst rm_C_writtenInFirst).room s m ([.ref g.1.1, .int p0] : List Value).toArray below meth c s.heap [] 0 0 (MQ below (vp_Si (fun r => r = M_C_writtenInFirst g x p0)) ([.ref g.1.1, .int p0] : List Value).toArray s 0 0 (fun _ => False)) (F0 m 2 ls []) := by
    intro n
    induction n with
    | zero => intro v2 ls hm _ _; exact absurd hm (Nat.not_lt_zero _)
    | succ n ih =>
      intro v2 ls hm hF hl
      have hF := hF.trans (L_C_writtenInFirst_2_eq g x p0 n v2)
      refine lv_iload_n hx hb d_C_writtenInFirst_2 rfl (lv_at hl 2 rfl) ?_
      refine lv_aload_n hx hb d_C_writtenInFirst_3 rfl (lv_at hl 0 rfl) ?_
      refine va_get (D := D) (ci := 2) (v := .int g.2.1.1) (C := R_C) (T := T_C) (N := 10) hx hb htb i_C hown hK hP 0 rfl rfl 0 (by decide) (htb _ k_C_15) (fun _ h9 => h9) rfl d_C_writtenInFirst_4 ?_
      refine lv_icmp_ge (tgt := 39) hx hb d_C_writtenInFirst_7 (by decide) (fun c_7 => ?_) (fun c_7 => ?_)
      · have hF := hF.trans (if_pos c_7)
        refine lv_iconst (v := -1) hx hb d_C_writtenInFirst_39 (by decide) ?_
        exact W.iret (v := (-1 : Int32)) hx hb hr (fun t ht hW => ⟨_, rfl, hF.symm, ht⟩) (fun q h => by cases h) d_C_writtenInFirst_40
      · have hF := hF.trans (if_neg c_7)
        refine lv_aload_n hx hb d_C_writtenInFirst_10 rfl (lv_at hl 0 rfl) ?_
        refine va_get (D := D) (ci := 2) (v := .ref g.2.2.2.1.1.1) (C := R_C) (T := T_C) (N := 10) hx hb htb i_C hown hK hP 0 rfl rfl 2 (by decide) (htb _ k_C_27) (fun _ h9 => h9) rfl d_C_writtenInFirst_11 ?_
        refine lv_iload_n hx hb d_C_writtenInFirst_14 rfl (lv_at hl 2 rfl) ?_
        refine lv_iload_n hx hb d_C_writtenInFirst_15 rfl (lv_at hl 1 rfl) ?_
        refine cpi (As := [.int v2, .int p0]) (rest := []) ⟨hx, hb, hml, hown, htb⟩ (c_B_find l D cI cZ g.2.2.2.1 hg.2.1 x.2.1 v2 p0) (cwv (n := 2) htb cd_B_find k_C_72 in_B_find se_B_find ini_B hd_B_find ⟨Nat.le_of_ble_eq_true rfl, Nat.le_of_ble_eq_true rfl⟩) hK hP [1, 2, 3, 4, 5, 6] rfl (ci := 0) rfl rfl rfl hl.1 rfl (Nat.le_of_ble_eq_true rfl) d_C_writtenInFirst_16 ⟨Nat.zero_le _, Nat.zero_le _⟩ (fun r_16 hw_16 => ?_)
        have hF := hF.trans (bnd_eq hw_16)
        refine lv_istore_n (lv' := [(3, .int r_16), (0, .ref g.1.1), (1, .int p0), (2, .int v2)]) hx hb d_C_writtenInFirst_19 rfl hl (by decide) rfl (fun ls hl => ?_)
        refine lv_aload_n hx hb d_C_writtenInFirst_20 rfl (lv_at hl 1 rfl) ?_
        refine va_get (D := D) (ci := 2) (v := .ref g.2.2.2.1.1.1) (C := R_C) (T := T_C) (N := 10) hx hb htb i_C hown hK hP 0 rfl rfl 2 (by decide) (htb _ k_C_27) (fun _ h9 => h9) rfl d_C_writtenInFirst_21 ?_
        refine lv_iload_n hx hb d_C_writtenInFirst_24 rfl (lv_at hl 0 rfl) ?_
        refine cpi (As := [.int r_16]) (rest := []) ⟨hx, hb, hml, hown, htb⟩ (c_B_isWritten l D cI cZ g.2.2.2.1 hg.2.1 x.2.1 r_16) (cwv (n := 1) htb cd_B_isWritten k_C_96 in_B_isWritten se_B_isWritten ini_B hd_B_isWritten ⟨Nat.le_of_ble_eq_true rfl, Nat.le_of_ble_eq_true rfl⟩) hK hP [1, 2, 3, 4, 5, 6] rfl (ci := 0) rfl rfl rfl hl.1 rfl (Nat.le_of_ble_eq_true rfl) d_C_writtenInFirst_25 ⟨Nat.zero_le _, Nat.zero_le _⟩ (fun r_25 hw_25 => ?_)
        have hF := hF.trans (bnd_eq hw_25)
        refine lv_if_eq (tgt := 33) hx hb d_C_writtenInFirst_28 (by decide) (fun c_28 => ?_) (fun c_28 => ?_)
        · have hF := hF.trans (if_pos c_28)
          refine lv_iinc (v := (v2 + 1)) (lv' := [(2, .int (v2 + 1)), (3, .int r_16), (0, .ref g.1.1), (1, .int p0)]) hx hb d_C_writtenInFirst_33 hl (k := 3) rfl rfl (by decide) rfl (fun ls hl => ?_)
          refine lv_goto (tgt := 2) hx hb d_C_writtenInFirst_36 (by decide) ?_
          have hl := lv_sub (l' := [(0, .ref g.1.1), (1, .int p0), (2, .int (v2 + 1))]) hl [2, 3, 0] rfl
          exact ih (v2 + 1) _ (Nat.lt_of_lt_of_le (mu_dec c_7) (Nat.le_of_lt_succ hm)) hF hl
        · have hF := hF.trans (if_neg c_28)
          refine lv_iload_n hx hb d_C_writtenInFirst_31 rfl (lv_at hl 0 rfl) ?_
          exact W.iret (v := r_16) hx hb hr (fun t ht hW => ⟨_, rfl, hF.symm, ht⟩) (fun q h => by cases h) d_C_writtenInFirst_32
  have hl := lv_entry ([.ref g.1.1, .int p0]) (n := 4) (Nat.le_of_ble_eq_true rfl)
  rw [lg_entry_eq]
  generalize (lg_sl ([.ref g.1.1, .int p0]) ++ List.replicate (4 - (lg_sl ([.ref g.1.1, .int p0])).length) Slot.unset).toArray = ls at hl ⊢
  have hl : lv_has ls 4 [(0, .ref g.1.1), (1, .int p0)] := hl
  have hF := M_C_writtenInFirst_eq g x p0
  refine lv_iconst (v := 0) hx hb d_C_writtenInFirst_0 (by decide) ?_
  refine lv_istore_n (lv' := [(2, .int (0 : Int32)), (0, .ref g.1.1), (1, .int p0)]) hx hb d_C_writtenInFirst_1 rfl hl (by decide) rfl (fun ls hl => ?_)
  have hl := lv_sub (l' := [(0, .ref g.1.1), (1, .int p0), (2, .int (0 : Int32))]) hl [1, 2, 0] rfl
  exact cut_2 (mu (0 : Int32) g.2.1.1 + 1) (0 : Int32) _ (Nat.lt_succ_self _) hF hl

def L_C_directory_4 (g : GC) (x : Cs) (p0 : Int32) : Nat → Int32 → Int32 → Int32
  | 0, _, _ => 0
  | n + 1, v2, v3 => (if g.2.1.1 ≤ v3 then v2 else (bnd (M_B_find g.2.2.2.1 x.2.1 v3 p0) (fun r_18 => (if r_18 = (-1 : Int32) then L_C_directory_4 g x p0 n v2 (v3 + 1) else L_C_directory_4 g x p0 n (v2 ||| ((1 : Int32) <<< (v3 &&& 31))) (v3 + 1)))))
theorem L_C_directory_4_eq (g : GC) (x : Cs) (p0 : Int32) (n : Nat) (v2 v3 : Int32) : L_C_directory_4 g x p0 (n + 1) v2 v3 = (if g.2.1.1 ≤ v3 then v2 else (bnd (M_B_find g.2.2.2.1 x.2.1 v3 p0) (fun r_18 => (if r_18 = (-1 : Int32) then L_C_directory_4 g x p0 n v2 (v3 + 1) else L_C_directory_4 g x p0 n (v2 ||| ((1 : Int32) <<< (v3 &&& 31))) (v3 + 1))))) := by first | rfl | rw [L_C_directory_4]
def M_C_directory (g : GC) (x : Cs) (p0 : Int32) : Int32 := L_C_directory_4 g x p0 (mu (0 : Int32) g.2.1.1 + 1) (0 : Int32) (0 : Int32)
theorem M_C_directory_eq (g : GC) (x : Cs) (p0 : Int32) : M_C_directory g x p0 = L_C_directory_4 g x p0 (mu (0 : Int32) g.2.1.1 + 1) (0 : Int32) (0 : Int32) := rfl
abbrev w_C_directory : List Cond := .code y_C_directory b_C_directory 4 (some .int) :: tbW
abbrev rm_C_directory : Room := { frames := 3, cells := 0, slots := 0, locals := 68 }
set_option maxHeartbeats 4000000 in
set_option maxRecDepth 100000 in
theorem c_C_directory (l : Launch) (D : va_G) (cI cZ : ClassId) (g : GC) (hg : okC g) (x : Cs) (p0 : Int32) : Met l y_C_directory w_C_directory rm_C_directory (PcR D vwCl (tyK cI cZ) [.ref g.1.1, .int p0] (wC cI cZ g x)) (vp_Si (fun r => r = M_C_directory g x p0)) 0 0 (fun _ => False) := by
  refine Met.ofW (cc := b_C_directory) (maxL := 4) (ret := (some .int)) (by decide) rfl ?_
  intro p e s m args below meth c s₁ B hml hv
  obtain ⟨rfl, hP, hK⟩ := hv
  have hx := B.exec
  have hb := B.bytes
  have hr := B.returns
  have htb : ∀ w ∈ tbW, w.before _ s = true := fun w h => atoms_spec (ws := w_C_directory) B.pre w (List.mem_cons_of_mem _ h)
  have hown : s.vm.findClass R_C = some m.cls := findClass_of_methodNamed B.named
  have hlocks := B.notSynchronized
  have cut_4 : ∀ (n : Nat) (v2 v3 : Int32) (ls : Array Slot), mu v3 g.2.1.1 < n → M_C_directory g x p0 = L_C_directory_4 g x p0 n v2 v3 → lv_has ls 4 [(0, .ref g.1.1), (1, .int p0), (2, .int v2), (3, .int v3)] → W p l e (headSpec w_C_directory rm_C_directory).room s m ([.ref g.1.1, .int p0] : List Value).toArray below meth c s.heap [] 0 0 (MQ below (vp_Si (fun r => r = M_C_directory g x p0)) ([.ref g.1.1, .int p0] : List Value).toArray s 0 0 (fun _ => False)) (F0 m 4 ls []) := by
    intro n
    induction n with
    | zero => intro v2 v3 ls hm _ _; exact absurd hm (Nat.not_lt_zero _)
    | succ n ih =>
      intro v2 v3 ls hm hF hl
      have hF := hF.trans (L_C_directory_4_eq g x p0 n v2 v3)
      refine lv_iload_n hx hb d_C_directory_4 rfl (lv_at hl 3 rfl) ?_
      refine lv_aload_n hx hb d_C_directory_5 rfl (lv_at hl 0 rfl) ?_
      refine va_get (D := D) (ci := 2) (v := .int g.2.1.1) (C := R_C) (T := T_C) (N := 10) hx hb htb i_C hown hK hP 0 rfl rfl 0 (by decide) (htb _ k_C_15) (fun _ h9 => h9) rfl d_C_directory_6 ?_
      refine lv_icmp_ge (tgt := 37) hx hb d_C_directory_9 (by decide) (fun c_9 => ?_) (fun c_9 => ?_)
      · have hF := hF.trans (if_pos c_9)
        refine lv_iload_n hx hb d_C_directory_37 rfl (lv_at hl 2 rfl) ?_
        exact W.iret (v := v2) hx hb hr (fun t ht hW => ⟨_, rfl, hF.symm, ht⟩) (fun q h => by cases h) d_C_directory_38
      · have hF := hF.trans (if_neg c_9)
        refine lv_aload_n hx hb d_C_directory_12 rfl (lv_at hl 0 rfl) ?_
        refine va_get (D := D) (ci := 2) (v := .ref g.2.2.2.1.1.1) (C := R_C) (T := T_C) (N := 10) hx hb htb i_C hown hK hP 0 rfl rfl 2 (by decide) (htb _ k_C_27) (fun _ h9 => h9) rfl d_C_directory_13 ?_
        refine lv_iload_n hx hb d_C_directory_16 rfl (lv_at hl 3 rfl) ?_
        refine lv_iload_n hx hb d_C_directory_17 rfl (lv_at hl 1 rfl) ?_
        refine cpi (As := [.int v3, .int p0]) (rest := []) ⟨hx, hb, hml, hown, htb⟩ (c_B_find l D cI cZ g.2.2.2.1 hg.2.1 x.2.1 v3 p0) (cwv (n := 2) htb cd_B_find k_C_72 in_B_find se_B_find ini_B hd_B_find ⟨Nat.le_of_ble_eq_true rfl, Nat.le_of_ble_eq_true rfl⟩) hK hP [1, 2, 3, 4, 5, 6] rfl (ci := 0) rfl rfl rfl hl.1 rfl (Nat.le_of_ble_eq_true rfl) d_C_directory_18 ⟨Nat.zero_le _, Nat.zero_le _⟩ (fun r_18 hw_18 => ?_)
        have hF := hF.trans (bnd_eq hw_18)
        refine lv_iconst (v := -1) hx hb d_C_directory_21 (by decide) ?_
        refine lv_icmp_eq (tgt := 31) hx hb d_C_directory_22 (by decide) (fun c_22 => ?_) (fun c_22 => ?_)
        · have hF := hF.trans (if_pos c_22)
          refine lv_iinc (v := (v3 + 1)) (lv' := [(3, .int (v3 + 1)), (0, .ref g.1.1), (1, .int p0), (2, .int v2)]) hx hb d_C_directory_31 hl (k := 3) rfl rfl (by decide) rfl (fun ls hl => ?_)
          refine lv_goto (tgt := 4) hx hb d_C_directory_34 (by decide) ?_
          have hl := lv_sub (l' := [(0, .ref g.1.1), (1, .int p0), (2, .int v2), (3, .int (v3 + 1))]) hl [1, 2, 3, 0] rfl
          exact ih v2 (v3 + 1) _ (Nat.lt_of_lt_of_le (mu_dec c_9) (Nat.le_of_lt_succ hm)) hF hl
        · have hF := hF.trans (if_neg c_22)
          refine lv_iload_n hx hb d_C_directory_25 rfl (lv_at hl 2 rfl) ?_
          refine lv_iconst (v := 1) hx hb d_C_directory_26 (by decide) ?_
          refine lv_iload_n hx hb d_C_directory_27 rfl (lv_at hl 3 rfl) ?_
          refine lv_ishl hx hb d_C_directory_28 ?_
          refine lv_ior hx hb d_C_directory_29 ?_
          refine lv_istore_n (lv' := [(2, .int (v2 ||| ((1 : Int32) <<< (v3 &&& 31)))), (0, .ref g.1.1), (1, .int p0), (3, .int v3)]) hx hb d_C_directory_30 rfl hl (by decide) rfl (fun ls hl => ?_)
          refine lv_iinc (v := (v3 + 1)) (lv' := [(3, .int (v3 + 1)), (2, .int (v2 ||| ((1 : Int32) <<< (v3 &&& 31)))), (0, .ref g.1.1), (1, .int p0)]) hx hb d_C_directory_31 hl (k := 3) rfl rfl (by decide) rfl (fun ls hl => ?_)
          refine lv_goto (tgt := 4) hx hb d_C_directory_34 (by decide) ?_
          have hl := lv_sub (l' := [(0, .ref g.1.1), (1, .int p0), (2, .int (v2 ||| ((1 : Int32) <<< (v3 &&& 31)))), (3, .int (v3 + 1))]) hl [2, 3, 1, 0] rfl
          exact ih (v2 ||| ((1 : Int32) <<< (v3 &&& 31))) (v3 + 1) _ (Nat.lt_of_lt_of_le (mu_dec c_9) (Nat.le_of_lt_succ hm)) hF hl
  have hl := lv_entry ([.ref g.1.1, .int p0]) (n := 4) (Nat.le_of_ble_eq_true rfl)
  rw [lg_entry_eq]
  generalize (lg_sl ([.ref g.1.1, .int p0]) ++ List.replicate (4 - (lg_sl ([.ref g.1.1, .int p0])).length) Slot.unset).toArray = ls at hl ⊢
  have hl : lv_has ls 4 [(0, .ref g.1.1), (1, .int p0)] := hl
  have hF := M_C_directory_eq g x p0
  refine lv_iconst (v := 0) hx hb d_C_directory_0 (by decide) ?_
  refine lv_istore_n (lv' := [(2, .int (0 : Int32)), (0, .ref g.1.1), (1, .int p0)]) hx hb d_C_directory_1 rfl hl (by decide) rfl (fun ls hl => ?_)
  refine lv_iconst (v := 0) hx hb d_C_directory_2 (by decide) ?_
  refine lv_istore_n (lv' := [(3, .int (0 : Int32)), (2, .int (0 : Int32)), (0, .ref g.1.1), (1, .int p0)]) hx hb d_C_directory_3 rfl hl (by decide) rfl (fun ls hl => ?_)
  have hl := lv_sub (l' := [(0, .ref g.1.1), (1, .int p0), (2, .int (0 : Int32)), (3, .int (0 : Int32))]) hl [2, 3, 1, 0] rfl
  exact cut_4 (mu (0 : Int32) g.2.1.1 + 1) (0 : Int32) (0 : Int32) _ (Nat.lt_succ_self _) hF hl

def M_C_writeDown (g : GC) (x : Cs) (p0 p1 : Int32) : Cs := (bnd (M_B_find g.2.2.2.2.1 x.2.2.1 (0 : Int32) p0) (fun r_6 => (if r_6 = (-1 : Int32) then (bnd (M_V_writeBack g.2.2.2.2.2 x.2.2.2.1 p0 p1) (fun u_21 => (x.1, x.2.1, x.2.2.1, u_21, x.2.2.2.2.1, x.2.2.2.2.2))) else (bnd (M_B_rewrite g.2.2.2.2.1 x.2.2.1 r_6 p1) (fun u_33 => (x.1, x.2.1, u_33, x.2.2.2.1, x.2.2.2.2.1, x.2.2.2.2.2))))))
theorem M_C_writeDown_eq (g : GC) (x : Cs) (p0 p1 : Int32) : M_C_writeDown g x p0 p1 = (bnd (M_B_find g.2.2.2.2.1 x.2.2.1 (0 : Int32) p0) (fun r_6 => (if r_6 = (-1 : Int32) then (bnd (M_V_writeBack g.2.2.2.2.2 x.2.2.2.1 p0 p1) (fun u_21 => (x.1, x.2.1, x.2.2.1, u_21, x.2.2.2.2.1, x.2.2.2.2.2))) else (bnd (M_B_rewrite g.2.2.2.2.1 x.2.2.1 r_6 p1) (fun u_33 => (x.1, x.2.1, u_33, x.2.2.2.1, x.2.2.2.2.1, x.2.2.2.2.2)))))) := rfl
abbrev w_C_writeDown : List Cond := .code y_C_writeDown b_C_writeDown 4 none :: tbW
abbrev rm_C_writeDown : Room := { frames := 3, cells := 0, slots := 0, locals := 68 }
set_option maxHeartbeats 4000000 in
set_option maxRecDepth 100000 in
theorem c_C_writeDown (l : Launch) (D : va_G) (cI cZ : ClassId) (g : GC) (hg : okC g) (x : Cs) (p0 p1 : Int32) : Met l y_C_writeDown w_C_writeDown rm_C_writeDown (PcW D vwCl (tyK cI cZ) [.ref g.1.1, .int p0, .int p1] (wC cI cZ g x)) (va_Qv (fun (u : Cs) => u = M_C_writeDown g x p0 p1) (fun (u : Cs) (t : State) => va_P D vwCl (wC cI cZ g u) t.heap) (Aw (wC cI cZ g x))) 0 0 (Aw (wC cI cZ g x)) := by
  refine Met.ofW (cc := b_C_writeDown) (maxL := 4) (ret := none) (by decide) rfl ?_
  intro p e s m args below meth c s₁ B hml hv
  obtain ⟨rfl, hP, hK, hD0⟩ := hv
  have hx := B.exec
  have hb := B.bytes
  have hr := B.returns
  have htb : ∀ w ∈ tbW, w.before _ s = true := fun w h => atoms_spec (ws := w_C_writeDown) B.pre w (List.mem_cons_of_mem _ h)
  have hown : s.vm.findClass R_C = some m.cls := findClass_of_methodNamed B.named
  have hlocks := B.notSynchronized
  have hD : va_D (Aw (wC cI cZ g x)) (wC cI cZ g x) := ⟨hD0.1, fun k q hk => ⟨k, q.2, hk⟩⟩
  have hS : va_S (Aw (wC cI cZ g x)) s.heap s.heap [] := va_S.rf
  have hl := lv_entry ([.ref g.1.1, .int p0, .int p1]) (n := 4) (Nat.le_of_ble_eq_true rfl)
  rw [lg_entry_eq]
  generalize (lg_sl ([.ref g.1.1, .int p0, .int p1]) ++ List.replicate (4 - (lg_sl ([.ref g.1.1, .int p0, .int p1])).length) Slot.unset).toArray = ls at hl ⊢
  have hl : lv_has ls 4 [(0, .ref g.1.1), (1, .int p0), (2, .int p1)] := hl
  have hF := M_C_writeDown_eq g x p0 p1
  refine lv_aload_n hx hb d_C_writeDown_0 rfl (lv_at hl 0 rfl) ?_
  refine va_get (D := D) (ci := 2) (v := .ref g.2.2.2.2.1.1.1) (C := R_C) (T := T_C) (N := 10) hx hb htb i_C hown hK hP 0 rfl rfl 3 (by decide) (htb _ k_C_31) (fun _ h9 => h9) rfl d_C_writeDown_1 ?_
  refine lv_iconst (v := 0) hx hb d_C_writeDown_4 (by decide) ?_
  refine lv_iload_n hx hb d_C_writeDown_5 rfl (lv_at hl 1 rfl) ?_
  refine cpi (As := [.int (0 : Int32), .int p0]) (rest := []) ⟨hx, hb, hml, hown, htb⟩ (c_B_find l D cI cZ g.2.2.2.2.1 hg.2.2.1 x.2.2.1 (0 : Int32) p0) (cwv (n := 2) htb cd_B_find k_C_72 in_B_find se_B_find ini_B hd_B_find ⟨Nat.le_of_ble_eq_true rfl, Nat.le_of_ble_eq_true rfl⟩) hK hP [7, 8, 9, 10, 11, 12] rfl (ci := 0) rfl rfl rfl hl.1 rfl (Nat.le_of_ble_eq_true rfl) d_C_writeDown_6 ⟨Nat.zero_le _, Nat.zero_le _⟩ (fun r_6 hw_6 => ?_)
  have hF := hF.trans (bnd_eq hw_6)
  refine lv_istore_n (lv' := [(3, .int r_6), (0, .ref g.1.1), (1, .int p0), (2, .int p1)]) hx hb d_C_writeDown_9 rfl hl (by decide) rfl (fun ls hl => ?_)
  refine lv_iload_n hx hb d_C_writeDown_10 rfl (lv_at hl 0 rfl) ?_
  refine lv_iconst (v := -1) hx hb d_C_writeDown_11 (by decide) ?_
  refine lv_icmp_ne (tgt := 27) hx hb d_C_writeDown_12 (by decide) (fun c_12 => ?_) (fun c_12 => ?_)
  · have hF := hF.trans (if_neg c_12)
    refine lv_aload_n hx hb d_C_writeDown_27 rfl (lv_at hl 1 rfl) ?_
    refine va_get (D := D) (ci := 2) (v := .ref g.2.2.2.2.1.1.1) (C := R_C) (T := T_C) (N := 10) hx hb htb i_C hown hK hP 0 rfl rfl 3 (by decide) (htb _ k_C_31) (fun _ h9 => h9) rfl d_C_writeDown_28 ?_
    refine lv_iload_n hx hb d_C_writeDown_31 rfl (lv_at hl 0 rfl) ?_
    refine lv_iload_n hx hb d_C_writeDown_32 rfl (lv_at hl 3 rfl) ?_
    refine cwv_ (As := [.int r_6, .int p1]) (rest := []) (wldC := fun u => (wC cI cZ g (x.1, x.2.1, u, x.2.2.2.1, x.2.2.2.2.1, x.2.2.2.2.2))) ⟨hx, hb, hml, hown, htb⟩ (c_B_rewrite l D cI cZ g.2.2.2.2.1 hg.2.2.1 x.2.2.1 r_6 p1) (cwv (n := 2) htb cd_B_rewrite k_C_164 in_B_rewrite se_B_rewrite ini_B hd_B_rewrite ⟨Nat.le_of_ble_eq_true rfl, Nat.le_of_ble_eq_true rfl⟩) hK hP hD hS [7, 8, 9, 10, 11, 12] [0, 1, 2, 3, 4, 5, 6, 13, 14, 15, 16, 17, 18] [0, 1, 2, 3, 4, 5, 6, 13, 14, 15, 16, 17, 18, 7, 8, 9, 10, 11, 12] rfl rfl (by decide) (by decide) rfl (fun _ => rfl) (fun _ => rfl) (ci := 0) rfl rfl rfl hl.1 rfl (Nat.le_of_ble_eq_true rfl) d_C_writeDown_33 ⟨Nat.zero_le _, Nat.zero_le _⟩ (fun u_33 H locs hw_33 hP hD hS => ?_)
    have hP : va_P D vwCl (wC cI cZ g (x.1, x.2.1, u_33, x.2.2.2.1, x.2.2.2.2.1, x.2.2.2.2.2)) H := hP
    have hD : va_D _ (wC cI cZ g (x.1, x.2.1, u_33, x.2.2.2.1, x.2.2.2.2.1, x.2.2.2.2.2)) := hD
    have hF := hF.trans (bnd_eq hw_33)
    exact W.vret hx hb hr (fun t ht hW => ⟨⟨(x.1, x.2.1, u_33, x.2.2.2.1, x.2.2.2.2.1, x.2.2.2.2.2), rfl, hF.symm, by dsimp only; rw [ht]; exact hP⟩, hS.F ht⟩) hS.2.2 d_C_writeDown_36
  · have hF := hF.trans (if_pos c_12)
    refine lv_aload_n hx hb d_C_writeDown_15 rfl (lv_at hl 1 rfl) ?_
    refine va_get (D := D) (ci := 2) (v := .ref g.2.2.2.2.2.1.1) (C := R_C) (T := T_C) (N := 10) hx hb htb i_C hown hK hP 0 rfl rfl 4 (by decide) (htb _ k_C_37) (fun _ h9 => h9) rfl d_C_writeDown_16 ?_
    refine lv_iload_n hx hb d_C_writeDown_19 rfl (lv_at hl 2 rfl) ?_
    refine lv_iload_n hx hb d_C_writeDown_20 rfl (lv_at hl 3 rfl) ?_
    refine cwv_ (As := [.int p0, .int p1]) (rest := []) (wldC := fun u => (wC cI cZ g (x.1, x.2.1, x.2.2.1, u, x.2.2.2.2.1, x.2.2.2.2.2))) ⟨hx, hb, hml, hown, htb⟩ (c_V_writeBack l D cI cZ g.2.2.2.2.2 hg.2.2.2 x.2.2.2.1 p0 p1) (cwv (n := 2) htb cd_V_writeBack k_C_110 in_V_writeBack se_V_writeBack ini_V hd_V_writeBack ⟨Nat.le_of_ble_eq_true rfl, Nat.le_of_ble_eq_true rfl⟩) hK hP hD hS [13, 14, 15, 16] [0, 1, 2, 3, 4, 5, 6, 7, 8, 9, 10, 11, 12, 17, 18] [0, 1, 2, 3, 4, 5, 6, 7, 8, 9, 10, 11, 12, 15, 16, 17, 18, 13, 14] rfl rfl (by decide) (by decide) rfl (fun _ => rfl) (fun _ => rfl) (ci := 1) rfl rfl rfl hl.1 rfl (Nat.le_of_ble_eq_true rfl) d_C_writeDown_21 ⟨Nat.zero_le _, Nat.zero_le _⟩ (fun u_21 H locs hw_21 hP hD hS => ?_)
    have hP : va_P D vwCl (wC cI cZ g (x.1, x.2.1, x.2.2.1, u_21, x.2.2.2.2.1, x.2.2.2.2.2)) H := hP
    have hD : va_D _ (wC cI cZ g (x.1, x.2.1, x.2.2.1, u_21, x.2.2.2.2.1, x.2.2.2.2.2)) := hD
    have hF := hF.trans (bnd_eq hw_21)
    refine lv_goto (tgt := 36) hx hb d_C_writeDown_24 (by decide) ?_
    exact W.vret hx hb hr (fun t ht hW => ⟨⟨(x.1, x.2.1, x.2.2.1, u_21, x.2.2.2.2.1, x.2.2.2.2.2), rfl, hF.symm, by dsimp only; rw [ht]; exact hP⟩, hS.F ht⟩) hS.2.2 d_C_writeDown_36

def M_C_handOver (g : GC) (x : Cs) (p0 : Int32) : Cs := (bnd (M_C_writtenInFirst g x p0) (fun r_2 => (if r_2 = (-1 : Int32) then x else (bnd (M_B_clean g.2.2.2.1 x.2.1 r_2) (fun u_26 => (bnd (M_B_versionAt g.2.2.2.1 u_26 r_2) (fun r_36 => (bnd (M_C_writeDown g ((x.1.1, x.1.2.1, (x.1.2.2 + (1 : Int32))), u_26, x.2.2.1, x.2.2.2.1, x.2.2.2.2.1, x.2.2.2.2.2) p0 r_36) (fun u_39 => u_39)))))))))
theorem M_C_handOver_eq (g : GC) (x : Cs) (p0 : Int32) : M_C_handOver g x p0 = (bnd (M_C_writtenInFirst g x p0) (fun r_2 => (if r_2 = (-1 : Int32) then x else (bnd (M_B_clean g.2.2.2.1 x.2.1 r_2) (fun u_26 => (bnd (M_B_versionAt g.2.2.2.1 u_26 r_2) (fun r_36 => (bnd (M_C_writeDown g ((x.1.1, x.1.2.1, (x.1.2.2 + (1 : Int32))), u_26, x.2.2.1, x.2.2.2.1, x.2.2.2.2.1, x.2.2.2.2.2) p0 r_36) (fun u_39 => u_39))))))))) := rfl
abbrev w_C_handOver : List Cond := .code y_C_handOver b_C_handOver 3 none :: tbW
abbrev rm_C_handOver : Room := { frames := 4, cells := 0, slots := 0, locals := 91 }
set_option maxHeartbeats 4000000 in
set_option maxRecDepth 100000 in
theorem c_C_handOver (l : Launch) (D : va_G) (cI cZ : ClassId) (g : GC) (hg : okC g) (x : Cs) (p0 : Int32) : Met l y_C_handOver w_C_handOver rm_C_handOver (PcW D vwCl (tyK cI cZ) [.ref g.1.1, .int p0] (wC cI cZ g x)) (va_Qv (fun (u : Cs) => u = M_C_handOver g x p0) (fun (u : Cs) (t : State) => va_P D vwCl (wC cI cZ g u) t.heap) (Aw (wC cI cZ g x))) 0 0 (Aw (wC cI cZ g x)) := by
  refine Met.ofW (cc := b_C_handOver) (maxL := 3) (ret := none) (by decide) rfl ?_
  intro p e s m args below meth c s₁ B hml hv
  obtain ⟨rfl, hP, hK, hD0⟩ := hv
  have hx := B.exec
  have hb := B.bytes
  have hr := B.returns
  have htb : ∀ w ∈ tbW, w.before _ s = true := fun w h => atoms_spec (ws := w_C_handOver) B.pre w (List.mem_cons_of_mem _ h)
  have hown : s.vm.findClass R_C = some m.cls := findClass_of_methodNamed B.named
  have hlocks := B.notSynchronized
  have hD : va_D (Aw (wC cI cZ g x)) (wC cI cZ g x) := ⟨hD0.1, fun k q hk => ⟨k, q.2, hk⟩⟩
  have hS : va_S (Aw (wC cI cZ g x)) s.heap s.heap [] := va_S.rf
  have hl := lv_entry ([.ref g.1.1, .int p0]) (n := 3) (Nat.le_of_ble_eq_true rfl)
  rw [lg_entry_eq]
  generalize (lg_sl ([.ref g.1.1, .int p0]) ++ List.replicate (3 - (lg_sl ([.ref g.1.1, .int p0])).length) Slot.unset).toArray = ls at hl ⊢
  have hl : lv_has ls 3 [(0, .ref g.1.1), (1, .int p0)] := hl
  have hF := M_C_handOver_eq g x p0
  refine lv_aload_n hx hb d_C_handOver_0 rfl (lv_at hl 0 rfl) ?_
  refine lv_iload_n hx hb d_C_handOver_1 rfl (lv_at hl 1 rfl) ?_
  refine cpi (As := [.int p0]) (rest := []) ⟨hx, hb, hml, hown, htb⟩ (c_C_writtenInFirst l D cI cZ g hg x p0) (cwv (n := 1) htb cd_C_writtenInFirst k_C_104 in_C_writtenInFirst se_C_writtenInFirst ini_C hd_C_writtenInFirst ⟨Nat.le_of_ble_eq_true rfl, Nat.le_of_ble_eq_true rfl⟩) hK hP [0, 1, 2, 3, 4, 5, 6, 7, 8, 9, 10, 11, 12, 13, 14, 15, 16, 17, 18] rfl (ci := 2) rfl rfl rfl hl.1 rfl (Nat.le_of_ble_eq_true rfl) d_C_handOver_2 ⟨Nat.zero_le _, Nat.zero_le _⟩ (fun r_2 hw_2 => ?_)
  have hF := hF.trans (bnd_eq hw_2)
  refine lv_istore_n (lv' := [(2, .int r_2), (0, .ref g.1.1), (1, .int p0)]) hx hb d_C_handOver_5 rfl hl (by decide) rfl (fun ls hl => ?_)
  refine lv_iload_n hx hb d_C_handOver_6 rfl (lv_at hl 0 rfl) ?_
  refine lv_iconst (v := -1) hx hb d_C_handOver_7 (by decide) ?_
  refine lv_icmp_eq (tgt := 42) hx hb d_C_handOver_8 (by decide) (fun c_8 => ?_) (fun c_8 => ?_)
  · have hF := hF.trans (if_pos c_8)
    exact W.vret hx hb hr (fun t ht hW => ⟨⟨x, rfl, hF.symm, by dsimp only; rw [ht]; exact hP⟩, hS.F ht⟩) hS.2.2 d_C_handOver_42
  · have hF := hF.trans (if_neg c_8)
    refine lv_aload_n hx hb d_C_handOver_11 rfl (lv_at hl 1 rfl) ?_
    refine lv_dup hx hb d_C_handOver_12 rfl ?_
    refine va_get (D := D) (ci := 2) (v := .int x.1.2.2) (C := R_C) (T := T_C) (N := 10) hx hb htb i_C hown hK hP 0 rfl rfl 9 (by decide) (htb _ k_C_54) (fun _ h9 => h9) rfl d_C_handOver_13 ?_
    refine lv_iconst (v := 1) hx hb d_C_handOver_16 (by decide) ?_
    refine lv_iadd hx hb d_C_handOver_17 ?_
    refine va_put (D := D) (ci := 2) (v := .int (x.1.2.2 + (1 : Int32))) (ty := .int) (C := R_C) (T := T_C) (N := 10) hx hb htb i_C ty_C tyo_C nm_C hown hK hP hD hS 0 rfl rfl 9 (by decide) (htb _ k_C_54) (fun _ h9 => h9) rfl (by decide +kernel) rfl rfl (Nat.le_of_ble_eq_true rfl) d_C_handOver_18 (fun H locs hP hD hS => ?_)
    have hP : va_P D vwCl (wC cI cZ g ((x.1.1, x.1.2.1, (x.1.2.2 + (1 : Int32))), x.2.1, x.2.2.1, x.2.2.2.1, x.2.2.2.2.1, x.2.2.2.2.2)) H := hP
    have hD : va_D _ (wC cI cZ g ((x.1.1, x.1.2.1, (x.1.2.2 + (1 : Int32))), x.2.1, x.2.2.1, x.2.2.2.1, x.2.2.2.2.1, x.2.2.2.2.2)) := hD
    refine lv_aload_n hx hb d_C_handOver_21 rfl (lv_at hl 1 rfl) ?_
    refine va_get (D := D) (ci := 2) (v := .ref g.2.2.2.1.1.1) (C := R_C) (T := T_C) (N := 10) hx hb htb i_C hown hK hP 0 rfl rfl 2 (by decide) (htb _ k_C_27) (fun _ h9 => h9) rfl d_C_handOver_22 ?_
    refine lv_iload_n hx hb d_C_handOver_25 rfl (lv_at hl 0 rfl) ?_
    refine cwv_ (As := [.int r_2]) (rest := []) (wldC := fun u => (wC cI cZ g ((x.1.1, x.1.2.1, (x.1.2.2 + (1 : Int32))), u, x.2.2.1, x.2.2.2.1, x.2.2.2.2.1, x.2.2.2.2.2))) ⟨hx, hb, hml, hown, htb⟩ (c_B_clean l D cI cZ g.2.2.2.1 hg.2.1 x.2.1 r_2) (cwv (n := 1) htb cd_B_clean k_C_158 in_B_clean se_B_clean ini_B hd_B_clean ⟨Nat.le_of_ble_eq_true rfl, Nat.le_of_ble_eq_true rfl⟩) hK hP hD hS [1, 2, 3, 4, 5, 6] [0, 7, 8, 9, 10, 11, 12, 13, 14, 15, 16, 17, 18] [0, 13, 14, 15, 16, 17, 18, 1, 2, 3, 4, 5, 6, 7, 8, 9, 10, 11, 12] rfl rfl (by decide) (by decide) rfl (fun _ => rfl) (fun _ => rfl) (ci := 0) rfl rfl rfl hl.1 rfl (Nat.le_of_ble_eq_true rfl) d_C_handOver_26 ⟨Nat.zero_le _, Nat.zero_le _⟩ (fun u_26 H locs hw_26 hP hD hS => ?_)
    have hP : va_P D vwCl (wC cI cZ g ((x.1.1, x.1.2.1, (x.1.2.2 + (1 : Int32))), u_26, x.2.2.1, x.2.2.2.1, x.2.2.2.2.1, x.2.2.2.2.2)) H := hP
    have hD : va_D _ (wC cI cZ g ((x.1.1, x.1.2.1, (x.1.2.2 + (1 : Int32))), u_26, x.2.2.1, x.2.2.2.1, x.2.2.2.2.1, x.2.2.2.2.2)) := hD
    have hF := hF.trans (bnd_eq hw_26)
    refine lv_aload_n hx hb d_C_handOver_29 rfl (lv_at hl 1 rfl) ?_
    refine lv_iload_n hx hb d_C_handOver_30 rfl (lv_at hl 2 rfl) ?_
    refine lv_aload_n hx hb d_C_handOver_31 rfl (lv_at hl 1 rfl) ?_
    refine va_get (D := D) (ci := 2) (v := .ref g.2.2.2.1.1.1) (C := R_C) (T := T_C) (N := 10) hx hb htb i_C hown hK hP 0 rfl rfl 2 (by decide) (htb _ k_C_27) (fun _ h9 => h9) rfl d_C_handOver_32 ?_
    refine lv_iload_n hx hb d_C_handOver_35 rfl (lv_at hl 0 rfl) ?_
    refine cpi (As := [.int r_2]) (rest := [.int p0, .ref g.1.1]) ⟨hx, hb, hml, hown, htb⟩ (c_B_versionAt l D cI cZ g.2.2.2.1 hg.2.1 u_26 r_2) (cwv (n := 1) htb cd_B_versionAt k_C_107 in_B_versionAt se_B_versionAt ini_B hd_B_versionAt ⟨Nat.le_of_ble_eq_true rfl, Nat.le_of_ble_eq_true rfl⟩) hK hP [1, 2, 3, 4, 5, 6] rfl (ci := 0) rfl rfl rfl hl.1 rfl (Nat.le_of_ble_eq_true rfl) d_C_handOver_36 ⟨Nat.zero_le _, Nat.zero_le _⟩ (fun r_36 hw_36 => ?_)
    have hF := hF.trans (bnd_eq hw_36)
    refine cwv_ (As := [.int p0, .int r_36]) (rest := []) (wldC := fun u => (wC cI cZ g u)) ⟨hx, hb, hml, hown, htb⟩ (c_C_writeDown l D cI cZ g hg ((x.1.1, x.1.2.1, (x.1.2.2 + (1 : Int32))), u_26, x.2.2.1, x.2.2.2.1, x.2.2.2.2.1, x.2.2.2.2.2) p0 r_36) (cwv (n := 2) htb cd_C_writeDown k_C_161 in_C_writeDown se_C_writeDown ini_C hd_C_writeDown ⟨Nat.le_of_ble_eq_true rfl, Nat.le_of_ble_eq_true rfl⟩) hK hP hD hS [0, 1, 2, 3, 4, 5, 6, 7, 8, 9, 10, 11, 12, 13, 14, 15, 16, 17, 18] [] [0, 1, 2, 3, 4, 5, 6, 7, 8, 9, 10, 11, 12, 13, 14, 15, 16, 17, 18] rfl rfl (by decide) (by decide) rfl (fun _ => rfl) (fun _ => rfl) (ci := 2) rfl rfl rfl hl.1 rfl (Nat.le_of_ble_eq_true rfl) d_C_handOver_39 ⟨Nat.zero_le _, Nat.zero_le _⟩ (fun u_39 H locs hw_39 hP hD hS => ?_)
    have hP : va_P D vwCl (wC cI cZ g u_39) H := hP
    have hD : va_D _ (wC cI cZ g u_39) := hD
    have hF := hF.trans (bnd_eq hw_39)
    exact W.vret hx hb hr (fun t ht hW => ⟨⟨u_39, rfl, hF.symm, by dsimp only; rw [ht]; exact hP⟩, hS.F ht⟩) hS.2.2 d_C_handOver_42

def L_C_leaveSecond_122 (g : GC) (p0 : Int32) (v2 v3 v4 : Int32) (z : Cs) : Cs := (if v4 = 0 then z else (bnd (M_V_writeBack g.2.2.2.2.2 z.2.2.2.1 v2 v3) (fun u_133 => (z.1, z.2.1, z.2.2.1, u_133, z.2.2.2.2.1, z.2.2.2.2.2))))
theorem L_C_leaveSecond_122_eq (g : GC) (p0 : Int32) (v2 v3 v4 : Int32) (z : Cs) : L_C_leaveSecond_122 g p0 v2 v3 v4 z = (if v4 = 0 then z else (bnd (M_V_writeBack g.2.2.2.2.2 z.2.2.2.1 v2 v3) (fun u_133 => (z.1, z.2.1, z.2.2.1, u_133, z.2.2.2.2.1, z.2.2.2.2.2)))) := rfl
def L_C_leaveSecond_39 (g : GC) (p0 : Int32) : Nat → Int32 → Int32 → Int32 → Int32 → Cs → Cs
  | 0, _, _, _, _, z => z
  | n + 1, v2, v3, v4, v5, z => (if g.2.1.2 = (1 : Int32) then (if g.2.1.1 ≤ v5 then L_C_leaveSecond_122 g p0 v2 v3 v4 z else (bnd (M_B_find g.2.2.2.1 z.2.1 v5 v2) (fun r_63 => (bnd (M_B_isWritten g.2.2.2.1 z.2.1 r_63) (fun r_74 => (if r_74 = 0 then (if r_63 = (-1 : Int32) then L_C_leaveSecond_39 g p0 n v2 v3 v4 (v5 + 1) z else (bnd (M_B_drop g.2.2.2.1 z.2.1 r_63) (fun u_105 => (bnd (M_C_tally g (z.1, u_105, z.2.2.1, z.2.2.2.1, z.2.2.2.2.1, z.2.2.2.2.2) v5 (6 : Int32)) (fun u_113 => L_C_leaveSecond_39 g p0 n v2 v3 v4 (v5 + 1) u_113))))) else (bnd (M_B_versionAt g.2.2.2.1 z.2.1 r_63) (fun r_86 => (if r_63 = (-1 : Int32) then L_C_leaveSecond_39 g p0 n v2 r_86 (1 : Int32) (v5 + 1) z else (bnd (M_B_drop g.2.2.2.1 z.2.1 r_63) (fun u_105 => (bnd (M_C_tally g (z.1, u_105, z.2.2.1, z.2.2.2.1, z.2.2.2.2.1, z.2.2.2.2.2) v5 (6 : Int32)) (fun u_113 => L_C_leaveSecond_39 g p0 n v2 r_86 (1 : Int32) (v5 + 1) u_113))))))))))))) else L_C_leaveSecond_122 g p0 v2 v3 v4 z)
theorem L_C_leaveSecond_39_eq (g : GC) (p0 : Int32) (n : Nat) (v2 v3 v4 v5 : Int32) (z : Cs) : L_C_leaveSecond_39 g p0 (n + 1) v2 v3 v4 v5 z = (if g.2.1.2 = (1 : Int32) then (if g.2.1.1 ≤ v5 then L_C_leaveSecond_122 g p0 v2 v3 v4 z else (bnd (M_B_find g.2.2.2.1 z.2.1 v5 v2) (fun r_63 => (bnd (M_B_isWritten g.2.2.2.1 z.2.1 r_63) (fun r_74 => (if r_74 = 0 then (if r_63 = (-1 : Int32) then L_C_leaveSecond_39 g p0 n v2 v3 v4 (v5 + 1) z else (bnd (M_B_drop g.2.2.2.1 z.2.1 r_63) (fun u_105 => (bnd (M_C_tally g (z.1, u_105, z.2.2.1, z.2.2.2.1, z.2.2.2.2.1, z.2.2.2.2.2) v5 (6 : Int32)) (fun u_113 => L_C_leaveSecond_39 g p0 n v2 v3 v4 (v5 + 1) u_113))))) else (bnd (M_B_versionAt g.2.2.2.1 z.2.1 r_63) (fun r_86 => (if r_63 = (-1 : Int32) then L_C_leaveSecond_39 g p0 n v2 r_86 (1 : Int32) (v5 + 1) z else (bnd (M_B_drop g.2.2.2.1 z.2.1 r_63) (fun u_105 => (bnd (M_C_tally g (z.1, u_105, z.2.2.1, z.2.2.2.1, z.2.2.2.2.1, z.2.2.2.2.2) v5 (6 : Int32)) (fun u_113 => L_C_leaveSecond_39 g p0 n v2 r_86 (1 : Int32) (v5 + 1) u_113))))))))))))) else L_C_leaveSecond_122 g p0 v2 v3 v4 z) := by first | rfl | rw [L_C_leaveSecond_39]
def M_C_leaveSecond (g : GC) (x : Cs) (p0 : Int32) : Cs := (bnd (M_B_lineAt g.2.2.2.2.1 x.2.2.1 p0) (fun r_5 => (bnd (M_B_versionAt g.2.2.2.2.1 x.2.2.1 p0) (fun r_14 => (bnd (M_B_isWritten g.2.2.2.2.1 x.2.2.1 p0) (fun r_23 => (bnd (M_B_drop g.2.2.2.2.1 x.2.2.1 p0) (fun u_33 => L_C_leaveSecond_39 g p0 (mu (0 : Int32) g.2.1.1 + 1) r_5 r_14 r_23 (0 : Int32) (x.1, x.2.1, u_33, x.2.2.2.1, x.2.2.2.2.1, x.2.2.2.2.2)))))))))
theorem M_C_leaveSecond_eq (g : GC) (x : Cs) (p0 : Int32) : M_C_leaveSecond g x p0 = (bnd (M_B_lineAt g.2.2.2.2.1 x.2.2.1 p0) (fun r_5 => (bnd (M_B_versionAt g.2.2.2.2.1 x.2.2.1 p0) (fun r_14 => (bnd (M_B_isWritten g.2.2.2.2.1 x.2.2.1 p0) (fun r_23 => (bnd (M_B_drop g.2.2.2.2.1 x.2.2.1 p0) (fun u_33 => L_C_leaveSecond_39 g p0 (mu (0 : Int32) g.2.1.1 + 1) r_5 r_14 r_23 (0 : Int32) (x.1, x.2.1, u_33, x.2.2.2.1, x.2.2.2.2.1, x.2.2.2.2.2))))))))) := rfl
abbrev w_C_leaveSecond : List Cond := .code y_C_leaveSecond b_C_leaveSecond 7 none :: tbW
abbrev rm_C_leaveSecond : Room := { frames := 3, cells := 0, slots := 0, locals := 71 }
set_option maxHeartbeats 4000000 in
set_option maxRecDepth 100000 in
theorem c_C_leaveSecond (l : Launch) (D : va_G) (cI cZ : ClassId) (g : GC) (hg : okC g) (x : Cs) (p0 : Int32) : Met l y_C_leaveSecond w_C_leaveSecond rm_C_leaveSecond (PcW D vwCl (tyK cI cZ) [.ref g.1.1, .int p0] (wC cI cZ g x)) (va_Qv (fun (u : Cs) => u = M_C_leaveSecond g x p0) (fun (u : Cs) (t : State) => va_P D vwCl (wC cI cZ g u) t.heap) (Aw (wC cI cZ g x))) 0 0 (Aw (wC cI cZ g x)) := by
  refine Met.ofW (cc := b_C_leaveSecond) (maxL := 7) (ret := none) (by decide) rfl ?_
  intro p e s m args below meth c s₁ B hml hv
  obtain ⟨rfl, hP, hK, hD0⟩ := hv
  have hx := B.exec
  have hb := B.bytes
  have hr := B.returns
  have htb : ∀ w ∈ tbW, w.before _ s = true := fun w h => atoms_spec (ws := w_C_leaveSecond) B.pre w (List.mem_cons_of_mem _ h)
  have hown : s.vm.findClass R_C = some m.cls := findClass_of_methodNamed B.named
  have hlocks := B.notSynchronized
  have hD : va_D (Aw (wC cI cZ g x)) (wC cI cZ g x) := ⟨hD0.1, fun k q hk => ⟨k, q.2, hk⟩⟩
  have hS : va_S (Aw (wC cI cZ g x)) s.heap s.heap [] := va_S.rf
  have cut_122 : ∀ (v2 v3 v4 : Int32) (z : Cs) (H : Heap) (locs : List Loc) (ls : Array Slot), M_C_leaveSecond g x p0 = L_C_leaveSecond_122 g p0 v2 v3 v4 z → va_P D vwCl (wC cI cZ g z) H → va_D (Aw (wC cI cZ g x)) (wC cI cZ g z) → va_S (Aw (wC cI cZ g x)) s.heap H locs → lv_has ls 7 [(0, .ref g.1.1), (1, .int p0), (2, .int v2), (3, .int v3), (4, .int v4)] → W p l e (headSpec w_C_leaveSecond rm_C_leaveSecond).room s m ([.ref g.1.1, .int p0] : List Value).toArray below meth c H locs 0 0 (MQ below (va_Qv (fun (u : Cs) => u = M_C_leaveSecond g x p0) (fun (u : Cs) (t : State) => va_P D vwCl (wC cI cZ g u) t.heap) (Aw (wC cI cZ g x))) ([.ref g.1.1, .int p0] : List Value).toArray s 0 0 (Aw (wC cI cZ g x))) (F0 m 122 ls []) := by
    intro v2 v3 v4 z H locs ls hF hP hD hS hl
    have hF := hF.trans (L_C_leaveSecond_122_eq g p0 v2 v3 v4 z)
    refine lv_iload hx hb d_C_leaveSecond_122 (lv_at hl 4 rfl) ?_
    refine lv_if_eq (tgt := 136) hx hb d_C_leaveSecond_124 (by decide) (fun c_124 => ?_) (fun c_124 => ?_)
    · have hF := hF.trans (if_pos c_124)
      exact W.vret hx hb hr (fun t ht hW => ⟨⟨z, rfl, hF.symm, by dsimp only; rw [ht]; exact hP⟩, hS.F ht⟩) hS.2.2 d_C_leaveSecond_136
    · have hF := hF.trans (if_neg c_124)
      refine lv_aload_n hx hb d_C_leaveSecond_127 rfl (lv_at hl 0 rfl) ?_
      refine va_get (D := D) (ci := 2) (v := .ref g.2.2.2.2.2.1.1) (C := R_C) (T := T_C) (N := 10) hx hb htb i_C hown hK hP 0 rfl rfl 4 (by decide) (htb _ k_C_37) (fun _ h9 => h9) rfl d_C_leaveSecond_128 ?_
      refine lv_iload_n hx hb d_C_leaveSecond_131 rfl (lv_at hl 2 rfl) ?_
      refine lv_iload_n hx hb d_C_leaveSecond_132 rfl (lv_at hl 3 rfl) ?_
      refine cwv_ (As := [.int v2, .int v3]) (rest := []) (wldC := fun u => (wC cI cZ g (z.1, z.2.1, z.2.2.1, u, z.2.2.2.2.1, z.2.2.2.2.2))) ⟨hx, hb, hml, hown, htb⟩ (c_V_writeBack l D cI cZ g.2.2.2.2.2 hg.2.2.2 z.2.2.2.1 v2 v3) (cwv (n := 2) htb cd_V_writeBack k_C_110 in_V_writeBack se_V_writeBack ini_V hd_V_writeBack ⟨Nat.le_of_ble_eq_true rfl, Nat.le_of_ble_eq_true rfl⟩) hK hP hD hS [13, 14, 15, 16] [0, 1, 2, 3, 4, 5, 6, 7, 8, 9, 10, 11, 12, 17, 18] [0, 1, 2, 3, 4, 5, 6, 7, 8, 9, 10, 11, 12, 15, 16, 17, 18, 13, 14] rfl rfl (by decide) (by decide) rfl (fun _ => rfl) (fun _ => rfl) (ci := 1) rfl rfl rfl hl.1 rfl (Nat.le_of_ble_eq_true rfl) d_C_leaveSecond_133 ⟨Nat.zero_le _, Nat.zero_le _⟩ (fun u_133 H locs hw_133 hP hD hS => ?_)
      have hP : va_P D vwCl (wC cI cZ g (z.1, z.2.1, z.2.2.1, u_133, z.2.2.2.2.1, z.2.2.2.2.2)) H := hP
      have hD : va_D _ (wC cI cZ g (z.1, z.2.1, z.2.2.1, u_133, z.2.2.2.2.1, z.2.2.2.2.2)) := hD
      have hF := hF.trans (bnd_eq hw_133)
      exact W.vret hx hb hr (fun t ht hW => ⟨⟨(z.1, z.2.1, z.2.2.1, u_133, z.2.2.2.2.1, z.2.2.2.2.2), rfl, hF.symm, by dsimp only; rw [ht]; exact hP⟩, hS.F ht⟩) hS.2.2 d_C_leaveSecond_136
  have cut_39 : ∀ (n : Nat) (v2 v3 v4 v5 : Int32) (z : Cs) (H : Heap) (locs : List Loc) (ls : Array Slot), mu v5 g.2.1.1 < n → M_C_leaveSecond g x p0 = L_C_leaveSecond_39 g p0 n v2 v3 v4 v5 z → va_P D vwCl (wC cI cZ g z) H → va_D (Aw (wC cI cZ g x)) (wC cI cZ g z) → va_S (Aw (wC cI cZ g x)) s.heap H locs → lv_has ls 7 [(0, .ref g.1.1), (1, .int p0), (2, .int v2), (3, .int v3), (4, .int v4), (5, .int v5)] → W p l e (headSpec w_C_leaveSecond rm_C_leaveSecond).room s m ([.ref g.1.1, .int p0] : List Value).toArray below meth c H locs 0 0 (MQ below (va_Qv (fun (u : Cs) => u = M_C_leaveSecond g x p0) (fun (u : Cs) (t : State) => va_P D vwCl (wC cI cZ g u) t.heap) (Aw (wC cI cZ g x))) ([.ref g.1.1, .int p0] : List Value).toArray s 0 0 (Aw (wC cI cZ g x))) (F0 m 39 ls []) := by
    intro n
    induction n with
    | zero => intro v2 v3 v4 v5 z H locs ls hm _ _ _ _ _; exact absurd hm (Nat.not_lt_zero _)
    | succ n ih =>
      intro v2 v3 v4 v5 z H locs ls hm hF hP hD hS hl
      have hF := hF.trans (L_C_leaveSecond_39_eq g p0 n v2 v3 v4 v5 z)
      refine lv_aload_n hx hb d_C_leaveSecond_39 rfl (lv_at hl 0 rfl) ?_
      refine va_get (D := D) (ci := 2) (v := .int g.2.1.2) (C := R_C) (T := T_C) (N := 10) hx hb htb i_C hown hK hP 0 rfl rfl 1 (by decide) (htb _ k_C_19) (fun _ h9 => h9) rfl d_C_leaveSecond_40 ?_
      refine lv_iconst (v := 1) hx hb d_C_leaveSecond_43 (by decide) ?_
      refine lv_icmp_ne (tgt := 122) hx hb d_C_leaveSecond_44 (by decide) (fun c_44 => ?_) (fun c_44 => ?_)
      · have hF := hF.trans (if_neg c_44)
        have hl := lv_sub (l' := [(0, .ref g.1.1), (1, .int p0), (2, .int v2), (3, .int v3), (4, .int v4)]) hl [0, 1, 2, 3, 4] rfl
        exact cut_122 v2 v3 v4 z _ _ _ hF hP hD hS hl
      · have hF := hF.trans (if_pos c_44)
        refine lv_iload hx hb d_C_leaveSecond_47 (lv_at hl 5 rfl) ?_
        refine lv_aload_n hx hb d_C_leaveSecond_49 rfl (lv_at hl 0 rfl) ?_
        refine va_get (D := D) (ci := 2) (v := .int g.2.1.1) (C := R_C) (T := T_C) (N := 10) hx hb htb i_C hown hK hP 0 rfl rfl 0 (by decide) (htb _ k_C_15) (fun _ h9 => h9) rfl d_C_leaveSecond_50 ?_
        refine lv_icmp_ge (tgt := 122) hx hb d_C_leaveSecond_53 (by decide) (fun c_53 => ?_) (fun c_53 => ?_)
        · have hF := hF.trans (if_pos c_53)
          have hl := lv_sub (l' := [(0, .ref g.1.1), (1, .int p0), (2, .int v2), (3, .int v3), (4, .int v4)]) hl [0, 1, 2, 3, 4] rfl
          exact cut_122 v2 v3 v4 z _ _ _ hF hP hD hS hl
        · have hF := hF.trans (if_neg c_53)
          refine lv_aload_n hx hb d_C_leaveSecond_56 rfl (lv_at hl 0 rfl) ?_
          refine va_get (D := D) (ci := 2) (v := .ref g.2.2.2.1.1.1) (C := R_C) (T := T_C) (N := 10) hx hb htb i_C hown hK hP 0 rfl rfl 2 (by decide) (htb _ k_C_27) (fun _ h9 => h9) rfl d_C_leaveSecond_57 ?_
          refine lv_iload hx hb d_C_leaveSecond_60 (lv_at hl 5 rfl) ?_
          refine lv_iload_n hx hb d_C_leaveSecond_62 rfl (lv_at hl 2 rfl) ?_
          refine cpi (As := [.int v5, .int v2]) (rest := []) ⟨hx, hb, hml, hown, htb⟩ (c_B_find l D cI cZ g.2.2.2.1 hg.2.1 z.2.1 v5 v2) (cwv (n := 2) htb cd_B_find k_C_72 in_B_find se_B_find ini_B hd_B_find ⟨Nat.le_of_ble_eq_true rfl, Nat.le_of_ble_eq_true rfl⟩) hK hP [1, 2, 3, 4, 5, 6] rfl (ci := 0) rfl rfl rfl hl.1 rfl (Nat.le_of_ble_eq_true rfl) d_C_leaveSecond_63 ⟨Nat.zero_le _, Nat.zero_le _⟩ (fun r_63 hw_63 => ?_)
          have hF := hF.trans (bnd_eq hw_63)
          refine lv_istore (lv' := [(6, .int r_63), (0, .ref g.1.1), (1, .int p0), (2, .int v2), (3, .int v3), (4, .int v4), (5, .int v5)]) hx hb d_C_leaveSecond_66 hl (by decide) rfl (fun ls hl => ?_)
          refine lv_aload_n hx hb d_C_leaveSecond_68 rfl (lv_at hl 1 rfl) ?_
          refine va_get (D := D) (ci := 2) (v := .ref g.2.2.2.1.1.1) (C := R_C) (T := T_C) (N := 10) hx hb htb i_C hown hK hP 0 rfl rfl 2 (by decide) (htb _ k_C_27) (fun _ h9 => h9) rfl d_C_leaveSecond_69 ?_
          refine lv_iload hx hb d_C_leaveSecond_72 (lv_at hl 0 rfl) ?_
          refine cpi (As := [.int r_63]) (rest := []) ⟨hx, hb, hml, hown, htb⟩ (c_B_isWritten l D cI cZ g.2.2.2.1 hg.2.1 z.2.1 r_63) (cwv (n := 1) htb cd_B_isWritten k_C_96 in_B_isWritten se_B_isWritten ini_B hd_B_isWritten ⟨Nat.le_of_ble_eq_true rfl, Nat.le_of_ble_eq_true rfl⟩) hK hP [1, 2, 3, 4, 5, 6] rfl (ci := 0) rfl rfl rfl hl.1 rfl (Nat.le_of_ble_eq_true rfl) d_C_leaveSecond_74 ⟨Nat.zero_le _, Nat.zero_le _⟩ (fun r_74 hw_74 => ?_)
          have hF := hF.trans (bnd_eq hw_74)
          refine lv_if_eq (tgt := 93) hx hb d_C_leaveSecond_77 (by decide) (fun c_77 => ?_) (fun c_77 => ?_)
          · have hF := hF.trans (if_pos c_77)
            refine lv_iload hx hb d_C_leaveSecond_93 (lv_at hl 0 rfl) ?_
            refine lv_iconst (v := -1) hx hb d_C_leaveSecond_95 (by decide) ?_
            refine lv_icmp_eq (tgt := 116) hx hb d_C_leaveSecond_96 (by decide) (fun c_96 => ?_) (fun c_96 => ?_)
            · have hF := hF.trans (if_pos c_96)
              refine lv_iinc (v := (v5 + 1)) (lv' := [(5, .int (v5 + 1)), (6, .int r_63), (0, .ref g.1.1), (1, .int p0), (2, .int v2), (3, .int v3), (4, .int v4)]) hx hb d_C_leaveSecond_116 hl (k := 6) rfl rfl (by decide) rfl (fun ls hl => ?_)
              refine lv_goto (tgt := 39) hx hb d_C_leaveSecond_119 (by decide) ?_
              have hl := lv_sub (l' := [(0, .ref g.1.1), (1, .int p0), (2, .int v2), (3, .int v3), (4, .int v4), (5, .int (v5 + 1))]) hl [2, 3, 4, 5, 6, 0] rfl
              exact ih v2 v3 v4 (v5 + 1) z _ _ _ (Nat.lt_of_lt_of_le (mu_dec c_53) (Nat.le_of_lt_succ hm)) hF hP hD hS hl
            · have hF := hF.trans (if_neg c_96)
              refine lv_aload_n hx hb d_C_leaveSecond_99 rfl (lv_at hl 1 rfl) ?_
              refine va_get (D := D) (ci := 2) (v := .ref g.2.2.2.1.1.1) (C := R_C) (T := T_C) (N := 10) hx hb htb i_C hown hK hP 0 rfl rfl 2 (by decide) (htb _ k_C_27) (fun _ h9 => h9) rfl d_C_leaveSecond_100 ?_
              refine lv_iload hx hb d_C_leaveSecond_103 (lv_at hl 0 rfl) ?_
              refine cwv_ (As := [.int r_63]) (rest := []) (wldC := fun u => (wC cI cZ g (z.1, u, z.2.2.1, z.2.2.2.1, z.2.2.2.2.1, z.2.2.2.2.2))) ⟨hx, hb, hml, hown, htb⟩ (c_B_drop l D cI cZ g.2.2.2.1 hg.2.1 z.2.1 r_63) (cwv (n := 1) htb cd_B_drop k_C_174 in_B_drop se_B_drop ini_B hd_B_drop ⟨Nat.le_of_ble_eq_true rfl, Nat.le_of_ble_eq_true rfl⟩) hK hP hD hS [1, 2, 3, 4, 5, 6] [0, 7, 8, 9, 10, 11, 12, 13, 14, 15, 16, 17, 18] [0, 13, 14, 15, 16, 17, 18, 1, 2, 3, 4, 5, 6, 7, 8, 9, 10, 11, 12] rfl rfl (by decide) (by decide) rfl (fun _ => rfl) (fun _ => rfl) (ci := 0) rfl rfl rfl hl.1 rfl (Nat.le_of_ble_eq_true rfl) d_C_leaveSecond_105 ⟨Nat.zero_le _, Nat.zero_le _⟩ (fun u_105 H locs hw_105 hP hD hS => ?_)
              have hP : va_P D vwCl (wC cI cZ g (z.1, u_105, z.2.2.1, z.2.2.2.1, z.2.2.2.2.1, z.2.2.2.2.2)) H := hP
              have hD : va_D _ (wC cI cZ g (z.1, u_105, z.2.2.1, z.2.2.2.1, z.2.2.2.2.1, z.2.2.2.2.2)) := hD
              have hF := hF.trans (bnd_eq hw_105)
              refine lv_aload_n hx hb d_C_leaveSecond_108 rfl (lv_at hl 1 rfl) ?_
              refine lv_iload hx hb d_C_leaveSecond_109 (lv_at hl 6 rfl) ?_
              refine lv_bipush (v := 6) hx hb d_C_leaveSecond_111 (by decide) ?_
              refine cwv_ (As := [.int v5, .int (6 : Int32)]) (rest := []) (wldC := fun u => (wC cI cZ g u)) ⟨hx, hb, hml, hown, htb⟩ (c_C_tally l D cI cZ g hg (z.1, u_105, z.2.2.1, z.2.2.2.1, z.2.2.2.2.1, z.2.2.2.2.2) v5 (6 : Int32)) (cwv (n := 2) htb cd_C_tally k_C_68 in_C_tally se_C_tally ini_C hd_C_tally ⟨Nat.le_of_ble_eq_true rfl, Nat.le_of_ble_eq_true rfl⟩) hK hP hD hS [0, 1, 2, 3, 4, 5, 6, 7, 8, 9, 10, 11, 12, 13, 14, 15, 16, 17, 18] [] [0, 1, 2, 3, 4, 5, 6, 7, 8, 9, 10, 11, 12, 13, 14, 15, 16, 17, 18] rfl rfl (by decide) (by decide) rfl (fun _ => rfl) (fun _ => rfl) (ci := 2) rfl rfl rfl hl.1 rfl (Nat.le_of_ble_eq_true rfl) d_C_leaveSecond_113 ⟨Nat.zero_le _, Nat.zero_le _⟩ (fun u_113 H locs hw_113 hP hD hS => ?_)
              have hP : va_P D vwCl (wC cI cZ g u_113) H := hP
              have hD : va_D _ (wC cI cZ g u_113) := hD
              have hF := hF.trans (bnd_eq hw_113)
              refine lv_iinc (v := (v5 + 1)) (lv' := [(5, .int (v5 + 1)), (6, .int r_63), (0, .ref g.1.1), (1, .int p0), (2, .int v2), (3, .int v3), (4, .int v4)]) hx hb d_C_leaveSecond_116 hl (k := 6) rfl rfl (by decide) rfl (fun ls hl => ?_)
              refine lv_goto (tgt := 39) hx hb d_C_leaveSecond_119 (by decide) ?_
              have hl := lv_sub (l' := [(0, .ref g.1.1), (1, .int p0), (2, .int v2), (3, .int v3), (4, .int v4), (5, .int (v5 + 1))]) hl [2, 3, 4, 5, 6, 0] rfl
              exact ih v2 v3 v4 (v5 + 1) u_113 _ _ _ (Nat.lt_of_lt_of_le (mu_dec c_53) (Nat.le_of_lt_succ hm)) hF hP hD hS hl
          · have hF := hF.trans (if_neg c_77)
            refine lv_aload_n hx hb d_C_leaveSecond_80 rfl (lv_at hl 1 rfl) ?_
            refine va_get (D := D) (ci := 2) (v := .ref g.2.2.2.1.1.1) (C := R_C) (T := T_C) (N := 10) hx hb htb i_C hown hK hP 0 rfl rfl 2 (by decide) (htb _ k_C_27) (fun _ h9 => h9) rfl d_C_leaveSecond_81 ?_
            refine lv_iload hx hb d_C_leaveSecond_84 (lv_at hl 0 rfl) ?_
            refine cpi (As := [.int r_63]) (rest := []) ⟨hx, hb, hml, hown, htb⟩ (c_B_versionAt l D cI cZ g.2.2.2.1 hg.2.1 z.2.1 r_63) (cwv (n := 1) htb cd_B_versionAt k_C_107 in_B_versionAt se_B_versionAt ini_B hd_B_versionAt ⟨Nat.le_of_ble_eq_true rfl, Nat.le_of_ble_eq_true rfl⟩) hK hP [1, 2, 3, 4, 5, 6] rfl (ci := 0) rfl rfl rfl hl.1 rfl (Nat.le_of_ble_eq_true rfl) d_C_leaveSecond_86 ⟨Nat.zero_le _, Nat.zero_le _⟩ (fun r_86 hw_86 => ?_)
            have hF := hF.trans (bnd_eq hw_86)
            refine lv_istore_n (lv' := [(3, .int r_86), (6, .int r_63), (0, .ref g.1.1), (1, .int p0), (2, .int v2), (4, .int v4), (5, .int v5)]) hx hb d_C_leaveSecond_89 rfl hl (by decide) rfl (fun ls hl => ?_)
            refine lv_iconst (v := 1) hx hb d_C_leaveSecond_90 (by decide) ?_
            refine lv_istore (lv' := [(4, .int (1 : Int32)), (3, .int r_86), (6, .int r_63), (0, .ref g.1.1), (1, .int p0), (2, .int v2), (5, .int v5)]) hx hb d_C_leaveSecond_91 hl (by decide) rfl (fun ls hl => ?_)
            refine lv_iload hx hb d_C_leaveSecond_93 (lv_at hl 2 rfl) ?_
            refine lv_iconst (v := -1) hx hb d_C_leaveSecond_95 (by decide) ?_
            refine lv_icmp_eq (tgt := 116) hx hb d_C_leaveSecond_96 (by decide) (fun c_96 => ?_) (fun c_96 => ?_)
            · have hF := hF.trans (if_pos c_96)
              refine lv_iinc (v := (v5 + 1)) (lv' := [(5, .int (v5 + 1)), (4, .int (1 : Int32)), (3, .int r_86), (6, .int r_63), (0, .ref g.1.1), (1, .int p0), (2, .int v2)]) hx hb d_C_leaveSecond_116 hl (k := 6) rfl rfl (by decide) rfl (fun ls hl => ?_)
              refine lv_goto (tgt := 39) hx hb d_C_leaveSecond_119 (by decide) ?_
              have hl := lv_sub (l' := [(0, .ref g.1.1), (1, .int p0), (2, .int v2), (3, .int r_86), (4, .int (1 : Int32)), (5, .int (v5 + 1))]) hl [4, 5, 6, 2, 1, 0] rfl
              exact ih v2 r_86 (1 : Int32) (v5 + 1) z _ _ _ (Nat.lt_of_lt_of_le (mu_dec c_53) (Nat.le_of_lt_succ hm)) hF hP hD hS hl
            · have hF := hF.trans (if_neg c_96)
              refine lv_aload_n hx hb d_C_leaveSecond_99 rfl (lv_at hl 3 rfl) ?_
              refine va_get (D := D) (ci := 2) (v := .ref g.2.2.2.1.1.1) (C := R_C) (T := T_C) (N := 10) hx hb htb i_C hown hK hP 0 rfl rfl 2 (by decide) (htb _ k_C_27) (fun _ h9 => h9) rfl d_C_leaveSecond_100 ?_
              refine lv_iload hx hb d_C_leaveSecond_103 (lv_at hl 2 rfl) ?_
              refine cwv_ (As := [.int r_63]) (rest := []) (wldC := fun u => (wC cI cZ g (z.1, u, z.2.2.1, z.2.2.2.1, z.2.2.2.2.1, z.2.2.2.2.2))) ⟨hx, hb, hml, hown, htb⟩ (c_B_drop l D cI cZ g.2.2.2.1 hg.2.1 z.2.1 r_63) (cwv (n := 1) htb cd_B_drop k_C_174 in_B_drop se_B_drop ini_B hd_B_drop ⟨Nat.le_of_ble_eq_true rfl, Nat.le_of_ble_eq_true rfl⟩) hK hP hD hS [1, 2, 3, 4, 5, 6] [0, 7, 8, 9, 10, 11, 12, 13, 14, 15, 16, 17, 18] [0, 13, 14, 15, 16, 17, 18, 1, 2, 3, 4, 5, 6, 7, 8, 9, 10, 11, 12] rfl rfl (by decide) (by decide) rfl (fun _ => rfl) (fun _ => rfl) (ci := 0) rfl rfl rfl hl.1 rfl (Nat.le_of_ble_eq_true rfl) d_C_leaveSecond_105 ⟨Nat.zero_le _, Nat.zero_le _⟩ (fun u_105 H locs hw_105 hP hD hS => ?_)
              have hP : va_P D vwCl (wC cI cZ g (z.1, u_105, z.2.2.1, z.2.2.2.1, z.2.2.2.2.1, z.2.2.2.2.2)) H := hP
              have hD : va_D _ (wC cI cZ g (z.1, u_105, z.2.2.1, z.2.2.2.1, z.2.2.2.2.1, z.2.2.2.2.2)) := hD
              have hF := hF.trans (bnd_eq hw_105)
              refine lv_aload_n hx hb d_C_leaveSecond_108 rfl (lv_at hl 3 rfl) ?_
              refine lv_iload hx hb d_C_leaveSecond_109 (lv_at hl 6 rfl) ?_
              refine lv_bipush (v := 6) hx hb d_C_leaveSecond_111 (by decide) ?_
              refine cwv_ (As := [.int v5, .int (6 : Int32)]) (rest := []) (wldC := fun u => (wC cI cZ g u)) ⟨hx, hb, hml, hown, htb⟩ (c_C_tally l D cI cZ g hg (z.1, u_105, z.2.2.1, z.2.2.2.1, z.2.2.2.2.1, z.2.2.2.2.2) v5 (6 : Int32)) (cwv (n := 2) htb cd_C_tally k_C_68 in_C_tally se_C_tally ini_C hd_C_tally ⟨Nat.le_of_ble_eq_true rfl, Nat.le_of_ble_eq_true rfl⟩) hK hP hD hS [0, 1, 2, 3, 4, 5, 6, 7, 8, 9, 10, 11, 12, 13, 14, 15, 16, 17, 18] [] [0, 1, 2, 3, 4, 5, 6, 7, 8, 9, 10, 11, 12, 13, 14, 15, 16, 17, 18] rfl rfl (by decide) (by decide) rfl (fun _ => rfl) (fun _ => rfl) (ci := 2) rfl rfl rfl hl.1 rfl (Nat.le_of_ble_eq_true rfl) d_C_leaveSecond_113 ⟨Nat.zero_le _, Nat.zero_le _⟩ (fun u_113 H locs hw_113 hP hD hS => ?_)
              have hP : va_P D vwCl (wC cI cZ g u_113) H := hP
              have hD : va_D _ (wC cI cZ g u_113) := hD
              have hF := hF.trans (bnd_eq hw_113)
              refine lv_iinc (v := (v5 + 1)) (lv' := [(5, .int (v5 + 1)), (4, .int (1 : Int32)), (3, .int r_86), (6, .int r_63), (0, .ref g.1.1), (1, .int p0), (2, .int v2)]) hx hb d_C_leaveSecond_116 hl (k := 6) rfl rfl (by decide) rfl (fun ls hl => ?_)
              refine lv_goto (tgt := 39) hx hb d_C_leaveSecond_119 (by decide) ?_
              have hl := lv_sub (l' := [(0, .ref g.1.1), (1, .int p0), (2, .int v2), (3, .int r_86), (4, .int (1 : Int32)), (5, .int (v5 + 1))]) hl [4, 5, 6, 2, 1, 0] rfl
              exact ih v2 r_86 (1 : Int32) (v5 + 1) u_113 _ _ _ (Nat.lt_of_lt_of_le (mu_dec c_53) (Nat.le_of_lt_succ hm)) hF hP hD hS hl
  have hl := lv_entry ([.ref g.1.1, .int p0]) (n := 7) (Nat.le_of_ble_eq_true rfl)
  rw [lg_entry_eq]
  generalize (lg_sl ([.ref g.1.1, .int p0]) ++ List.replicate (7 - (lg_sl ([.ref g.1.1, .int p0])).length) Slot.unset).toArray = ls at hl ⊢
  have hl : lv_has ls 7 [(0, .ref g.1.1), (1, .int p0)] := hl
  have hF := M_C_leaveSecond_eq g x p0
  refine lv_aload_n hx hb d_C_leaveSecond_0 rfl (lv_at hl 0 rfl) ?_
  refine va_get (D := D) (ci := 2) (v := .ref g.2.2.2.2.1.1.1) (C := R_C) (T := T_C) (N := 10) hx hb htb i_C hown hK hP 0 rfl rfl 3 (by decide) (htb _ k_C_31) (fun _ h9 => h9) rfl d_C_leaveSecond_1 ?_
  refine lv_iload_n hx hb d_C_leaveSecond_4 rfl (lv_at hl 1 rfl) ?_
  refine cpi (As := [.int p0]) (rest := []) ⟨hx, hb, hml, hown, htb⟩ (c_B_lineAt l D cI cZ g.2.2.2.2.1 hg.2.2.1 x.2.2.1 p0) (cwv (n := 1) htb cd_B_lineAt k_C_100 in_B_lineAt se_B_lineAt ini_B hd_B_lineAt ⟨Nat.le_of_ble_eq_true rfl, Nat.le_of_ble_eq_true rfl⟩) hK hP [7, 8, 9, 10, 11, 12] rfl (ci := 0) rfl rfl rfl hl.1 rfl (Nat.le_of_ble_eq_true rfl) d_C_leaveSecond_5 ⟨Nat.zero_le _, Nat.zero_le _⟩ (fun r_5 hw_5 => ?_)
  have hF := hF.trans (bnd_eq hw_5)
  refine lv_istore_n (lv' := [(2, .int r_5), (0, .ref g.1.1), (1, .int p0)]) hx hb d_C_leaveSecond_8 rfl hl (by decide) rfl (fun ls hl => ?_)
  refine lv_aload_n hx hb d_C_leaveSecond_9 rfl (lv_at hl 1 rfl) ?_
  refine va_get (D := D) (ci := 2) (v := .ref g.2.2.2.2.1.1.1) (C := R_C) (T := T_C) (N := 10) hx hb htb i_C hown hK hP 0 rfl rfl 3 (by decide) (htb _ k_C_31) (fun _ h9 => h9) rfl d_C_leaveSecond_10 ?_
  refine lv_iload_n hx hb d_C_leaveSecond_13 rfl (lv_at hl 2 rfl) ?_
  refine cpi (As := [.int p0]) (rest := []) ⟨hx, hb, hml, hown, htb⟩ (c_B_versionAt l D cI cZ g.2.2.2.2.1 hg.2.2.1 x.2.2.1 p0) (cwv (n := 1) htb cd_B_versionAt k_C_107 in_B_versionAt se_B_versionAt ini_B hd_B_versionAt ⟨Nat.le_of_ble_eq_true rfl, Nat.le_of_ble_eq_true rfl⟩) hK hP [7, 8, 9, 10, 11, 12] rfl (ci := 0) rfl rfl rfl hl.1 rfl (Nat.le_of_ble_eq_true rfl) d_C_leaveSecond_14 ⟨Nat.zero_le _, Nat.zero_le _⟩ (fun r_14 hw_14 => ?_)
  have hF := hF.trans (bnd_eq hw_14)
  refine lv_istore_n (lv' := [(3, .int r_14), (2, .int r_5), (0, .ref g.1.1), (1, .int p0)]) hx hb d_C_leaveSecond_17 rfl hl (by decide) rfl (fun ls hl => ?_)
  refine lv_aload_n hx hb d_C_leaveSecond_18 rfl (lv_at hl 2 rfl) ?_
  refine va_get (D := D) (ci := 2) (v := .ref g.2.2.2.2.1.1.1) (C := R_C) (T := T_C) (N := 10) hx hb htb i_C hown hK hP 0 rfl rfl 3 (by decide) (htb _ k_C_31) (fun _ h9 => h9) rfl d_C_leaveSecond_19 ?_
  refine lv_iload_n hx hb d_C_leaveSecond_22 rfl (lv_at hl 3 rfl) ?_
  refine cpi (As := [.int p0]) (rest := []) ⟨hx, hb, hml, hown, htb⟩ (c_B_isWritten l D cI cZ g.2.2.2.2.1 hg.2.2.1 x.2.2.1 p0) (cwv (n := 1) htb cd_B_isWritten k_C_96 in_B_isWritten se_B_isWritten ini_B hd_B_isWritten ⟨Nat.le_of_ble_eq_true rfl, Nat.le_of_ble_eq_true rfl⟩) hK hP [7, 8, 9, 10, 11, 12] rfl (ci := 0) rfl rfl rfl hl.1 rfl (Nat.le_of_ble_eq_true rfl) d_C_leaveSecond_23 ⟨Nat.zero_le _, Nat.zero_le _⟩ (fun r_23 hw_23 => ?_)
  have hF := hF.trans (bnd_eq hw_23)
  refine lv_istore (lv' := [(4, .int r_23), (3, .int r_14), (2, .int r_5), (0, .ref g.1.1), (1, .int p0)]) hx hb d_C_leaveSecond_26 hl (by decide) rfl (fun ls hl => ?_)
  refine lv_aload_n hx hb d_C_leaveSecond_28 rfl (lv_at hl 3 rfl) ?_
  refine va_get (D := D) (ci := 2) (v := .ref g.2.2.2.2.1.1.1) (C := R_C) (T := T_C) (N := 10) hx hb htb i_C hown hK hP 0 rfl rfl 3 (by decide) (htb _ k_C_31) (fun _ h9 => h9) rfl d_C_leaveSecond_29 ?_
  refine lv_iload_n hx hb d_C_leaveSecond_32 rfl (lv_at hl 4 rfl) ?_
  refine cwv_ (As := [.int p0]) (rest := []) (wldC := fun u => (wC cI cZ g (x.1, x.2.1, u, x.2.2.2.1, x.2.2.2.2.1, x.2.2.2.2.2))) ⟨hx, hb, hml, hown, htb⟩ (c_B_drop l D cI cZ g.2.2.2.2.1 hg.2.2.1 x.2.2.1 p0) (cwv (n := 1) htb cd_B_drop k_C_174 in_B_drop se_B_drop ini_B hd_B_drop ⟨Nat.le_of_ble_eq_true rfl, Nat.le_of_ble_eq_true rfl⟩) hK hP hD hS [7, 8, 9, 10, 11, 12] [0, 1, 2, 3, 4, 5, 6, 13, 14, 15, 16, 17, 18] [0, 1, 2, 3, 4, 5, 6, 13, 14, 15, 16, 17, 18, 7, 8, 9, 10, 11, 12] rfl rfl (by decide) (by decide) rfl (fun _ => rfl) (fun _ => rfl) (ci := 0) rfl rfl rfl hl.1 rfl (Nat.le_of_ble_eq_true rfl) d_C_leaveSecond_33 ⟨Nat.zero_le _, Nat.zero_le _⟩ (fun u_33 H locs hw_33 hP hD hS => ?_)
  have hP : va_P D vwCl (wC cI cZ g (x.1, x.2.1, u_33, x.2.2.2.1, x.2.2.2.2.1, x.2.2.2.2.2)) H := hP
  have hD : va_D _ (wC cI cZ g (x.1, x.2.1, u_33, x.2.2.2.1, x.2.2.2.2.1, x.2.2.2.2.2)) := hD
  have hF := hF.trans (bnd_eq hw_33)
  refine lv_iconst (v := 0) hx hb d_C_leaveSecond_36 (by decide) ?_
  refine lv_istore (lv' := [(5, .int (0 : Int32)), (4, .int r_23), (3, .int r_14), (2, .int r_5), (0, .ref g.1.1), (1, .int p0)]) hx hb d_C_leaveSecond_37 hl (by decide) rfl (fun ls hl => ?_)
  have hl := lv_sub (l' := [(0, .ref g.1.1), (1, .int p0), (2, .int r_5), (3, .int r_14), (4, .int r_23), (5, .int (0 : Int32))]) hl [4, 5, 3, 2, 1, 0] rfl
  exact cut_39 (mu (0 : Int32) g.2.1.1 + 1) r_5 r_14 r_23 (0 : Int32) (x.1, x.2.1, u_33, x.2.2.2.1, x.2.2.2.2.1, x.2.2.2.2.2) _ _ _ (Nat.lt_succ_self _) hF hP hD hS hl

def L_C_comeIntoSecond_113 (g : GC) (p0 p1 p2 p3 : Int32) (v6 : Int32) (z : Cs) : Cs := (bnd (M_B_put g.2.2.2.2.1 z.2.2.1 v6 p1 p2 p3 p0) (fun u_124 => (z.1, z.2.1, u_124, z.2.2.2.1, z.2.2.2.2.1, z.2.2.2.2.2)))
theorem L_C_comeIntoSecond_113_eq (g : GC) (p0 p1 p2 p3 : Int32) (v6 : Int32) (z : Cs) : L_C_comeIntoSecond_113 g p0 p1 p2 p3 v6 z = (bnd (M_B_put g.2.2.2.2.1 z.2.2.1 v6 p1 p2 p3 p0) (fun u_124 => (z.1, z.2.1, u_124, z.2.2.2.1, z.2.2.2.2.1, z.2.2.2.2.2))) := rfl
def L_C_comeIntoSecond_25 (g : GC) (p0 p1 p2 p3 : Int32) (v5 : Int32) (z : Cs) : Cs := (if v5 = 0 then (if p3 = 0 then z else (bnd (M_V_writeBack g.2.2.2.2.2 z.2.2.2.1 p1 p2) (fun u_41 => (z.1, z.2.1, z.2.2.1, u_41, z.2.2.2.2.1, z.2.2.2.2.2)))) else (bnd (M_B_placeOf g.2.2.2.2.1 z.2.2.1 (0 : Int32) p1) (fun r_51 => (bnd (M_B_ownedAt g.2.2.2.2.1 z.2.2.1 r_51 p0) (fun r_63 => (if r_63 < v5 then (bnd (M_B_isFull g.2.2.2.2.1 z.2.2.1 r_51) (fun r_94 => (if r_94 = 0 then L_C_comeIntoSecond_113 g p0 p1 p2 p3 r_51 z else (bnd (M_B_oldest g.2.2.2.2.1 z.2.2.1 r_51) (fun r_107 => (bnd (M_C_leaveSecond g z r_107) (fun u_110 => L_C_comeIntoSecond_113 g p0 p1 p2 p3 r_51 u_110))))))) else (bnd (M_B_oldestOwned g.2.2.2.2.1 z.2.2.1 r_51 p0) (fun r_79 => (bnd (M_C_leaveSecond g z r_79) (fun u_82 => L_C_comeIntoSecond_113 g p0 p1 p2 p3 r_51 u_82))))))))))
theorem L_C_comeIntoSecond_25_eq (g : GC) (p0 p1 p2 p3 : Int32) (v5 : Int32) (z : Cs) : L_C_comeIntoSecond_25 g p0 p1 p2 p3 v5 z = (if v5 = 0 then (if p3 = 0 then z else (bnd (M_V_writeBack g.2.2.2.2.2 z.2.2.2.1 p1 p2) (fun u_41 => (z.1, z.2.1, z.2.2.1, u_41, z.2.2.2.2.1, z.2.2.2.2.2)))) else (bnd (M_B_placeOf g.2.2.2.2.1 z.2.2.1 (0 : Int32) p1) (fun r_51 => (bnd (M_B_ownedAt g.2.2.2.2.1 z.2.2.1 r_51 p0) (fun r_63 => (if r_63 < v5 then (bnd (M_B_isFull g.2.2.2.2.1 z.2.2.1 r_51) (fun r_94 => (if r_94 = 0 then L_C_comeIntoSecond_113 g p0 p1 p2 p3 r_51 z else (bnd (M_B_oldest g.2.2.2.2.1 z.2.2.1 r_51) (fun r_107 => (bnd (M_C_leaveSecond g z r_107) (fun u_110 => L_C_comeIntoSecond_113 g p0 p1 p2 p3 r_51 u_110))))))) else (bnd (M_B_oldestOwned g.2.2.2.2.1 z.2.2.1 r_51 p0) (fun r_79 => (bnd (M_C_leaveSecond g z r_79) (fun u_82 => L_C_comeIntoSecond_113 g p0 p1 p2 p3 r_51 u_82)))))))))) := rfl
def M_C_comeIntoSecond (g : GC) (x : Cs) (p0 p1 p2 p3 : Int32) : Cs := (if p0 < 0 then L_C_comeIntoSecond_25 g p0 p1 p2 p3 (0 : Int32) x else (if (nI g.2.2.1.1) ≤ p0 then L_C_comeIntoSecond_25 g p0 p1 p2 p3 (0 : Int32) x else L_C_comeIntoSecond_25 g p0 p1 p2 p3 (x.2.2.2.2.1 p0.toNatClampNeg) x))
theorem M_C_comeIntoSecond_eq (g : GC) (x : Cs) (p0 p1 p2 p3 : Int32) : M_C_comeIntoSecond g x p0 p1 p2 p3 = (if p0 < 0 then L_C_comeIntoSecond_25 g p0 p1 p2 p3 (0 : Int32) x else (if (nI g.2.2.1.1) ≤ p0 then L_C_comeIntoSecond_25 g p0 p1 p2 p3 (0 : Int32) x else L_C_comeIntoSecond_25 g p0 p1 p2 p3 (x.2.2.2.2.1 p0.toNatClampNeg) x)) := rfl
abbrev w_C_comeIntoSecond : List Cond := .code y_C_comeIntoSecond b_C_comeIntoSecond 7 none :: tbW
abbrev rm_C_comeIntoSecond : Room := { frames := 4, cells := 0, slots := 0, locals := 97 }
set_option maxHeartbeats 4000000 in
set_option maxRecDepth 100000 in
theorem c_C_comeIntoSecond (l : Launch) (D : va_G) (cI cZ : ClassId) (g : GC) (hg : okC g) (x : Cs) (p0 p1 p2 p3 : Int32) : Met l y_C_comeIntoSecond w_C_comeIntoSecond rm_C_comeIntoSecond (PcW D vwCl (tyK cI cZ) [.ref g.1.1, .int p0, .int p1, .int p2, .int p3] (wC cI cZ g x)) (va_Qv (fun (u : Cs) => u = M_C_comeIntoSecond g x p0 p1 p2 p3) (fun (u : Cs) (t : State) => va_P D vwCl (wC cI cZ g u) t.heap) (Aw (wC cI cZ g x))) 0 0 (Aw (wC cI cZ g x)) := by
  refine Met.ofW (cc := b_C_comeIntoSecond) (maxL := 7) (ret := none) (by decide) rfl ?_
  intro p e s m args below meth c s₁ B hml hv
  obtain ⟨rfl, hP, hK, hD0⟩ := hv
  have hx := B.exec
  have hb := B.bytes
  have hr := B.returns
  have htb : ∀ w ∈ tbW, w.before _ s = true := fun w h => atoms_spec (ws := w_C_comeIntoSecond) B.pre w (List.mem_cons_of_mem _ h)
  have hown : s.vm.findClass R_C = some m.cls := findClass_of_methodNamed B.named
  have hlocks := B.notSynchronized
  have hD : va_D (Aw (wC cI cZ g x)) (wC cI cZ g x) := ⟨hD0.1, fun k q hk => ⟨k, q.2, hk⟩⟩
  have hS : va_S (Aw (wC cI cZ g x)) s.heap s.heap [] := va_S.rf
  have cut_113 : ∀ (v6 : Int32) (z : Cs) (H : Heap) (locs : List Loc) (ls : Array Slot), M_C_comeIntoSecond g x p0 p1 p2 p3 = L_C_comeIntoSecond_113 g p0 p1 p2 p3 v6 z → va_P D vwCl (wC cI cZ g z) H → va_D (Aw (wC cI cZ g x)) (wC cI cZ g z) → va_S (Aw (wC cI cZ g x)) s.heap H locs → lv_has ls 7 [(0, .ref g.1.1), (1, .int p0), (2, .int p1), (3, .int p2), (4, .int p3), (6, .int v6)] → W p l e (headSpec w_C_comeIntoSecond rm_C_comeIntoSecond).room s m ([.ref g.1.1, .int p0, .int p1, .int p2, .int p3] : List Value).toArray below meth c H locs 0 0 (MQ below (va_Qv (fun (u : Cs) => u = M_C_comeIntoSecond g x p0 p1 p2 p3) (fun (u : Cs) (t : State) => va_P D vwCl (wC cI cZ g u) t.heap) (Aw (wC cI cZ g x))) ([.ref g.1.1, .int p0, .int p1, .int p2, .int p3] : List Value).toArray s 0 0 (Aw (wC cI cZ g x))) (F0 m 113 ls []) := by
    intro v6 z H locs ls hF hP hD hS hl
    have hF := hF.trans (L_C_comeIntoSecond_113_eq g p0 p1 p2 p3 v6 z)
    refine lv_aload_n hx hb d_C_comeIntoSecond_113 rfl (lv_at hl 0 rfl) ?_
    refine va_get (D := D) (ci := 2) (v := .ref g.2.2.2.2.1.1.1) (C := R_C) (T := T_C) (N := 10) hx hb htb i_C hown hK hP 0 rfl rfl 3 (by decide) (htb _ k_C_31) (fun _ h9 => h9) rfl d_C_comeIntoSecond_114 ?_
    refine lv_iload hx hb d_C_comeIntoSecond_117 (lv_at hl 5 rfl) ?_
    refine lv_iload_n hx hb d_C_comeIntoSecond_119 rfl (lv_at hl 2 rfl) ?_
    refine lv_iload_n hx hb d_C_comeIntoSecond_120 rfl (lv_at hl 3 rfl) ?_
    refine lv_iload hx hb d_C_comeIntoSecond_121 (lv_at hl 4 rfl) ?_
    refine lv_iload_n hx hb d_C_comeIntoSecond_123 rfl (lv_at hl 1 rfl) ?_
    refine cwv_ (As := [.int v6, .int p1, .int p2, .int p3, .int p0]) (rest := []) (wldC := fun u => (wC cI cZ g (z.1, z.2.1, u, z.2.2.2.1, z.2.2.2.2.1, z.2.2.2.2.2))) ⟨hx, hb, hml, hown, htb⟩ (c_B_put l D cI cZ g.2.2.2.2.1 hg.2.2.1 z.2.2.1 v6 p1 p2 p3 p0) (cwv (n := 5) htb cd_B_put k_C_183 in_B_put se_B_put ini_B hd_B_put ⟨Nat.le_of_ble_eq_true rfl, Nat.le_of_ble_eq_true rfl⟩) hK hP hD hS [7, 8, 9, 10, 11, 12] [0, 1, 2, 3, 4, 5, 6, 13, 14, 15, 16, 17, 18] [0, 1, 2, 3, 4, 5, 6, 13, 14, 15, 16, 17, 18, 7, 8, 9, 10, 11, 12] rfl rfl (by decide) (by decide) rfl (fun _ => rfl) (fun _ => rfl) (ci := 0) rfl rfl rfl hl.1 rfl (Nat.le_of_ble_eq_true rfl) d_C_comeIntoSecond_124 ⟨Nat.zero_le _, Nat.zero_le _⟩ (fun u_124 H locs hw_124 hP hD hS => ?_)
    have hP : va_P D vwCl (wC cI cZ g (z.1, z.2.1, u_124, z.2.2.2.1, z.2.2.2.2.1, z.2.2.2.2.2)) H := hP
    have hD : va_D _ (wC cI cZ g (z.1, z.2.1, u_124, z.2.2.2.1, z.2.2.2.2.1, z.2.2.2.2.2)) := hD
    have hF := hF.trans (bnd_eq hw_124)
    exact W.vret hx hb hr (fun t ht hW => ⟨⟨(z.1, z.2.1, u_124, z.2.2.2.1, z.2.2.2.2.1, z.2.2.2.2.2), rfl, hF.symm, by dsimp only; rw [ht]; exact hP⟩, hS.F ht⟩) hS.2.2 d_C_comeIntoSecond_127
  have cut_25 : ∀ (v5 : Int32) (z : Cs) (H : Heap) (locs : List Loc) (ls : Array Slot), M_C_comeIntoSecond g x p0 p1 p2 p3 = L_C_comeIntoSecond_25 g p0 p1 p2 p3 v5 z → va_P D vwCl (wC cI cZ g z) H → va_D (Aw (wC cI cZ g x)) (wC cI cZ g z) → va_S (Aw (wC cI cZ g x)) s.heap H locs → lv_has ls 7 [(0, .ref g.1.1), (1, .int p0), (2, .int p1), (3, .int p2), (4, .int p3), (5, .int v5)] → W p l e (headSpec w_C_comeIntoSecond rm_C_comeIntoSecond).room s m ([.ref g.1.1, .int p0, .int p1, .int p2, .int p3] : List Value).toArray below meth c H locs 0 0 (MQ below (va_Qv (fun (u : Cs) => u = M_C_comeIntoSecond g x p0 p1 p2 p3) (fun (u : Cs) (t : State) => va_P D vwCl (wC cI cZ g u) t.heap) (Aw (wC cI cZ g x))) ([.ref g.1.1, .int p0, .int p1, .int p2, .int p3] : List Value).toArray s 0 0 (Aw (wC cI cZ g x))) (F0 m 25 ls []) := by
    intro v5 z H locs ls hF hP hD hS hl
    have hF := hF.trans (L_C_comeIntoSecond_25_eq g p0 p1 p2 p3 v5 z)
    refine lv_iload hx hb d_C_comeIntoSecond_25 (lv_at hl 5 rfl) ?_
    refine lv_if_ne (tgt := 45) hx hb d_C_comeIntoSecond_27 (by decide) (fun c_27 => ?_) (fun c_27 => ?_)
    · have hF := hF.trans (if_neg c_27)
      refine lv_aload_n hx hb d_C_comeIntoSecond_45 rfl (lv_at hl 0 rfl) ?_
      refine va_get (D := D) (ci := 2) (v := .ref g.2.2.2.2.1.1.1) (C := R_C) (T := T_C) (N := 10) hx hb htb i_C hown hK hP 0 rfl rfl 3 (by decide) (htb _ k_C_31) (fun _ h9 => h9) rfl d_C_comeIntoSecond_46 ?_
      refine lv_iconst (v := 0) hx hb d_C_comeIntoSecond_49 (by decide) ?_
      refine lv_iload_n hx hb d_C_comeIntoSecond_50 rfl (lv_at hl 2 rfl) ?_
      refine cpi (As := [.int (0 : Int32), .int p1]) (rest := []) ⟨hx, hb, hml, hown, htb⟩ (c_B_placeOf l D cI cZ g.2.2.2.2.1 hg.2.2.1 z.2.2.1 (0 : Int32) p1) (cwv (n := 2) htb cd_B_placeOf k_C_180 in_B_placeOf se_B_placeOf ini_B hd_B_placeOf ⟨Nat.le_of_ble_eq_true rfl, Nat.le_of_ble_eq_true rfl⟩) hK hP [7, 8, 9, 10, 11, 12] rfl (ci := 0) rfl rfl rfl hl.1 rfl (Nat.le_of_ble_eq_true rfl) d_C_comeIntoSecond_51 ⟨Nat.zero_le _, Nat.zero_le _⟩ (fun r_51 hw_51 => ?_)
      have hF := hF.trans (bnd_eq hw_51)
      refine lv_istore (lv' := [(6, .int r_51), (0, .ref g.1.1), (1, .int p0), (2, .int p1), (3, .int p2), (4, .int p3), (5, .int v5)]) hx hb d_C_comeIntoSecond_54 hl (by decide) rfl (fun ls hl => ?_)
      refine lv_aload_n hx hb d_C_comeIntoSecond_56 rfl (lv_at hl 1 rfl) ?_
      refine va_get (D := D) (ci := 2) (v := .ref g.2.2.2.2.1.1.1) (C := R_C) (T := T_C) (N := 10) hx hb htb i_C hown hK hP 0 rfl rfl 3 (by decide) (htb _ k_C_31) (fun _ h9 => h9) rfl d_C_comeIntoSecond_57 ?_
      refine lv_iload hx hb d_C_comeIntoSecond_60 (lv_at hl 0 rfl) ?_
      refine lv_iload_n hx hb d_C_comeIntoSecond_62 rfl (lv_at hl 2 rfl) ?_
      refine cpi (As := [.int r_51, .int p0]) (rest := []) ⟨hx, hb, hml, hown, htb⟩ (c_B_ownedAt l D cI cZ g.2.2.2.2.1 hg.2.2.1 z.2.2.1 r_51 p0) (cwv (n := 2) htb cd_B_ownedAt k_C_199 in_B_ownedAt se_B_ownedAt ini_B hd_B_ownedAt ⟨Nat.le_of_ble_eq_true rfl, Nat.le_of_ble_eq_true rfl⟩) hK hP [7, 8, 9, 10, 11, 12] rfl (ci := 0) rfl rfl rfl hl.1 rfl (Nat.le_of_ble_eq_true rfl) d_C_comeIntoSecond_63 ⟨Nat.zero_le _, Nat.zero_le _⟩ (fun r_63 hw_63 => ?_)
      have hF := hF.trans (bnd_eq hw_63)
      refine lv_iload hx hb d_C_comeIntoSecond_66 (lv_at hl 6 rfl) ?_
      refine lv_icmp_lt (tgt := 88) hx hb d_C_comeIntoSecond_68 (by decide) (fun c_68 => ?_) (fun c_68 => ?_)
      · have hF := hF.trans (if_pos c_68)
        refine lv_aload_n hx hb d_C_comeIntoSecond_88 rfl (lv_at hl 1 rfl) ?_
        refine va_get (D := D) (ci := 2) (v := .ref g.2.2.2.2.1.1.1) (C := R_C) (T := T_C) (N := 10) hx hb htb i_C hown hK hP 0 rfl rfl 3 (by decide) (htb _ k_C_31) (fun _ h9 => h9) rfl d_C_comeIntoSecond_89 ?_
        refine lv_iload hx hb d_C_comeIntoSecond_92 (lv_at hl 0 rfl) ?_
        refine cpi (As := [.int r_51]) (rest := []) ⟨hx, hb, hml, hown, htb⟩ (c_B_isFull l D cI cZ g.2.2.2.2.1 hg.2.2.1 z.2.2.1 r_51) (cwv (n := 1) htb cd_B_isFull k_C_190 in_B_isFull se_B_isFull ini_B hd_B_isFull ⟨Nat.le_of_ble_eq_true rfl, Nat.le_of_ble_eq_true rfl⟩) hK hP [7, 8, 9, 10, 11, 12] rfl (ci := 0) rfl rfl rfl hl.1 rfl (Nat.le_of_ble_eq_true rfl) d_C_comeIntoSecond_94 ⟨Nat.zero_le _, Nat.zero_le _⟩ (fun r_94 hw_94 => ?_)
        have hF := hF.trans (bnd_eq hw_94)
        refine lv_if_eq (tgt := 113) hx hb d_C_comeIntoSecond_97 (by decide) (fun c_97 => ?_) (fun c_97 => ?_)
        · have hF := hF.trans (if_pos c_97)
          have hl := lv_sub (l' := [(0, .ref g.1.1), (1, .int p0), (2, .int p1), (3, .int p2), (4, .int p3), (6, .int r_51)]) hl [1, 2, 3, 4, 5, 0] rfl
          exact cut_113 r_51 z _ _ _ hF hP hD hS hl
        · have hF := hF.trans (if_neg c_97)
          refine lv_aload_n hx hb d_C_comeIntoSecond_100 rfl (lv_at hl 1 rfl) ?_
          refine lv_aload_n hx hb d_C_comeIntoSecond_101 rfl (lv_at hl 1 rfl) ?_
          refine va_get (D := D) (ci := 2) (v := .ref g.2.2.2.2.1.1.1) (C := R_C) (T := T_C) (N := 10) hx hb htb i_C hown hK hP 0 rfl rfl 3 (by decide) (htb _ k_C_31) (fun _ h9 => h9) rfl d_C_comeIntoSecond_102 ?_
          refine lv_iload hx hb d_C_comeIntoSecond_105 (lv_at hl 0 rfl) ?_
          refine cpi (As := [.int r_51]) (rest := [.ref g.1.1]) ⟨hx, hb, hml, hown, htb⟩ (c_B_oldest l D cI cZ g.2.2.2.2.1 hg.2.2.1 z.2.2.1 r_51) (cwv (n := 1) htb cd_B_oldest k_C_193 in_B_oldest se_B_oldest ini_B hd_B_oldest ⟨Nat.le_of_ble_eq_true rfl, Nat.le_of_ble_eq_true rfl⟩) hK hP [7, 8, 9, 10, 11, 12] rfl (ci := 0) rfl rfl rfl hl.1 rfl (Nat.le_of_ble_eq_true rfl) d_C_comeIntoSecond_107 ⟨Nat.zero_le _, Nat.zero_le _⟩ (fun r_107 hw_107 => ?_)
          have hF := hF.trans (bnd_eq hw_107)
          refine cwv_ (As := [.int r_107]) (rest := []) (wldC := fun u => (wC cI cZ g u)) ⟨hx, hb, hml, hown, htb⟩ (c_C_leaveSecond l D cI cZ g hg z r_107) (cwv (n := 1) htb cd_C_leaveSecond k_C_205 in_C_leaveSecond se_C_leaveSecond ini_C hd_C_leaveSecond ⟨Nat.le_of_ble_eq_true rfl, Nat.le_of_ble_eq_true rfl⟩) hK hP hD hS [0, 1, 2, 3, 4, 5, 6, 7, 8, 9, 10, 11, 12, 13, 14, 15, 16, 17, 18] [] [0, 1, 2, 3, 4, 5, 6, 7, 8, 9, 10, 11, 12, 13, 14, 15, 16, 17, 18] rfl rfl (by decide) (by decide) rfl (fun _ => rfl) (fun _ => rfl) (ci := 2) rfl rfl rfl hl.1 rfl (Nat.le_of_ble_eq_true rfl) d_C_comeIntoSecond_110 ⟨Nat.zero_le _, Nat.zero_le _⟩ (fun u_110 H locs hw_110 hP hD hS => ?_)
          have hP : va_P D vwCl (wC cI cZ g u_110) H := hP
          have hD : va_D _ (wC cI cZ g u_110) := hD
          have hF := hF.trans (bnd_eq hw_110)
          have hl := lv_sub (l' := [(0, .ref g.1.1), (1, .int p0), (2, .int p1), (3, .int p2), (4, .int p3), (6, .int r_51)]) hl [1, 2, 3, 4, 5, 0] rfl
          exact cut_113 r_51 u_110 _ _ _ hF hP hD hS hl
      · have hF := hF.trans (if_neg c_68)
        refine lv_aload_n hx hb d_C_comeIntoSecond_71 rfl (lv_at hl 1 rfl) ?_
        refine lv_aload_n hx hb d_C_comeIntoSecond_72 rfl (lv_at hl 1 rfl) ?_
        refine va_get (D := D) (ci := 2) (v := .ref g.2.2.2.2.1.1.1) (C := R_C) (T := T_C) (N := 10) hx hb htb i_C hown hK hP 0 rfl rfl 3 (by decide) (htb _ k_C_31) (fun _ h9 => h9) rfl d_C_comeIntoSecond_73 ?_
        refine lv_iload hx hb d_C_comeIntoSecond_76 (lv_at hl 0 rfl) ?_
        refine lv_iload_n hx hb d_C_comeIntoSecond_78 rfl (lv_at hl 2 rfl) ?_
        refine cpi (As := [.int r_51, .int p0]) (rest := [.ref g.1.1]) ⟨hx, hb, hml, hown, htb⟩ (c_B_oldestOwned l D cI cZ g.2.2.2.2.1 hg.2.2.1 z.2.2.1 r_51 p0) (cwv (n := 2) htb cd_B_oldestOwned k_C_202 in_B_oldestOwned se_B_oldestOwned ini_B hd_B_oldestOwned ⟨Nat.le_of_ble_eq_true rfl, Nat.le_of_ble_eq_true rfl⟩) hK hP [7, 8, 9, 10, 11, 12] rfl (ci := 0) rfl rfl rfl hl.1 rfl (Nat.le_of_ble_eq_true rfl) d_C_comeIntoSecond_79 ⟨Nat.zero_le _, Nat.zero_le _⟩ (fun r_79 hw_79 => ?_)
        have hF := hF.trans (bnd_eq hw_79)
        refine cwv_ (As := [.int r_79]) (rest := []) (wldC := fun u => (wC cI cZ g u)) ⟨hx, hb, hml, hown, htb⟩ (c_C_leaveSecond l D cI cZ g hg z r_79) (cwv (n := 1) htb cd_C_leaveSecond k_C_205 in_C_leaveSecond se_C_leaveSecond ini_C hd_C_leaveSecond ⟨Nat.le_of_ble_eq_true rfl, Nat.le_of_ble_eq_true rfl⟩) hK hP hD hS [0, 1, 2, 3, 4, 5, 6, 7, 8, 9, 10, 11, 12, 13, 14, 15, 16, 17, 18] [] [0, 1, 2, 3, 4, 5, 6, 7, 8, 9, 10, 11, 12, 13, 14, 15, 16, 17, 18] rfl rfl (by decide) (by decide) rfl (fun _ => rfl) (fun _ => rfl) (ci := 2) rfl rfl rfl hl.1 rfl (Nat.le_of_ble_eq_true rfl) d_C_comeIntoSecond_82 ⟨Nat.zero_le _, Nat.zero_le _⟩ (fun u_82 H locs hw_82 hP hD hS => ?_)
        have hP : va_P D vwCl (wC cI cZ g u_82) H := hP
        have hD : va_D _ (wC cI cZ g u_82) := hD
        have hF := hF.trans (bnd_eq hw_82)
        refine lv_goto (tgt := 113) hx hb d_C_comeIntoSecond_85 (by decide) ?_
        have hl := lv_sub (l' := [(0, .ref g.1.1), (1, .int p0), (2, .int p1), (3, .int p2), (4, .int p3), (6, .int r_51)]) hl [1, 2, 3, 4, 5, 0] rfl
        exact cut_113 r_51 u_82 _ _ _ hF hP hD hS hl
    · have hF := hF.trans (if_pos c_27)
      refine lv_iload hx hb d_C_comeIntoSecond_30 (lv_at hl 4 rfl) ?_
      refine lv_if_eq (tgt := 44) hx hb d_C_comeIntoSecond_32 (by decide) (fun c_32 => ?_) (fun c_32 => ?_)
      · have hF := hF.trans (if_pos c_32)
        exact W.vret hx hb hr (fun t ht hW => ⟨⟨z, rfl, hF.symm, by dsimp only; rw [ht]; exact hP⟩, hS.F ht⟩) hS.2.2 d_C_comeIntoSecond_44
      · have hF := hF.trans (if_neg c_32)
        refine lv_aload_n hx hb d_C_comeIntoSecond_35 rfl (lv_at hl 0 rfl) ?_
        refine va_get (D := D) (ci := 2) (v := .ref g.2.2.2.2.2.1.1) (C := R_C) (T := T_C) (N := 10) hx hb htb i_C hown hK hP 0 rfl rfl 4 (by decide) (htb _ k_C_37) (fun _ h9 => h9) rfl d_C_comeIntoSecond_36 ?_
        refine lv_iload_n hx hb d_C_comeIntoSecond_39 rfl (lv_at hl 2 rfl) ?_
        refine lv_iload_n hx hb d_C_comeIntoSecond_40 rfl (lv_at hl 3 rfl) ?_
        refine cwv_ (As := [.int p1, .int p2]) (rest := []) (wldC := fun u => (wC cI cZ g (z.1, z.2.1, z.2.2.1, u, z.2.2.2.2.1, z.2.2.2.2.2))) ⟨hx, hb, hml, hown, htb⟩ (c_V_writeBack l D cI cZ g.2.2.2.2.2 hg.2.2.2 z.2.2.2.1 p1 p2) (cwv (n := 2) htb cd_V_writeBack k_C_110 in_V_writeBack se_V_writeBack ini_V hd_V_writeBack ⟨Nat.le_of_ble_eq_true rfl, Nat.le_of_ble_eq_true rfl⟩) hK hP hD hS [13, 14, 15, 16] [0, 1, 2, 3, 4, 5, 6, 7, 8, 9, 10, 11, 12, 17, 18] [0, 1, 2, 3, 4, 5, 6, 7, 8, 9, 10, 11, 12, 15, 16, 17, 18, 13, 14] rfl rfl (by decide) (by decide) rfl (fun _ => rfl) (fun _ => rfl) (ci := 1) rfl rfl rfl hl.1 rfl (Nat.le_of_ble_eq_true rfl) d_C_comeIntoSecond_41 ⟨Nat.zero_le _, Nat.zero_le _⟩ (fun u_41 H locs hw_41 hP hD hS => ?_)
        have hP : va_P D vwCl (wC cI cZ g (z.1, z.2.1, z.2.2.1, u_41, z.2.2.2.2.1, z.2.2.2.2.2)) H := hP
        have hD : va_D _ (wC cI cZ g (z.1, z.2.1, z.2.2.1, u_41, z.2.2.2.2.1, z.2.2.2.2.2)) := hD
        have hF := hF.trans (bnd_eq hw_41)
        exact W.vret hx hb hr (fun t ht hW => ⟨⟨(z.1, z.2.1, z.2.2.1, u_41, z.2.2.2.2.1, z.2.2.2.2.2), rfl, hF.symm, by dsimp only; rw [ht]; exact hP⟩, hS.F ht⟩) hS.2.2 d_C_comeIntoSecond_44
  have hl := lv_entry ([.ref g.1.1, .int p0, .int p1, .int p2, .int p3]) (n := 7) (Nat.le_of_ble_eq_true rfl)
  rw [lg_entry_eq]
  generalize (lg_sl ([.ref g.1.1, .int p0, .int p1, .int p2, .int p3]) ++ List.replicate (7 - (lg_sl ([.ref g.1.1, .int p0, .int p1, .int p2, .int p3])).length) Slot.unset).toArray = ls at hl ⊢
  have hl : lv_has ls 7 [(0, .ref g.1.1), (1, .int p0), (2, .int p1), (3, .int p2), (4, .int p3)] := hl
  have hF := M_C_comeIntoSecond_eq g x p0 p1 p2 p3
  refine lv_iload_n hx hb d_C_comeIntoSecond_0 rfl (lv_at hl 1 rfl) ?_
  refine lv_if_lt (tgt := 22) hx hb d_C_comeIntoSecond_1 (by decide) (fun c_1 => ?_) (fun c_1 => ?_)
  · have hF := hF.trans (if_pos c_1)
    refine lv_iconst (v := 0) hx hb d_C_comeIntoSecond_22 (by decide) ?_
    refine lv_istore (lv' := [(5, .int (0 : Int32)), (0, .ref g.1.1), (1, .int p0), (2, .int p1), (3, .int p2), (4, .int p3)]) hx hb d_C_comeIntoSecond_23 hl (by decide) rfl (fun ls hl => ?_)
    have hl := lv_sub (l' := [(0, .ref g.1.1), (1, .int p0), (2, .int p1), (3, .int p2), (4, .int p3), (5, .int (0 : Int32))]) hl [1, 2, 3, 4, 5, 0] rfl
    exact cut_25 (0 : Int32) x _ _ _ hF hP hD hS hl
  · have hF := hF.trans (if_neg c_1)
    refine lv_iload_n hx hb d_C_comeIntoSecond_4 rfl (lv_at hl 1 rfl) ?_
    refine lv_aload_n hx hb d_C_comeIntoSecond_5 rfl (lv_at hl 0 rfl) ?_
    refine va_get (D := D) (ci := 2) (v := .ref g.1.2.1) (C := R_C) (T := T_C) (N := 10) hx hb htb i_C hown hK hP 0 rfl rfl 5 (by decide) (htb _ k_C_41) (fun _ h9 => h9) rfl d_C_comeIntoSecond_6 ?_
    refine va_alen hx hb hK hP 17 0 rfl rfl (v := nI g.2.2.1.1) rfl d_C_comeIntoSecond_9 ?_
    refine lv_icmp_ge (tgt := 22) hx hb d_C_comeIntoSecond_10 (by decide) (fun c_10 => ?_) (fun c_10 => ?_)
    · have hF := hF.trans (if_pos c_10)
      refine lv_iconst (v := 0) hx hb d_C_comeIntoSecond_22 (by decide) ?_
      refine lv_istore (lv' := [(5, .int (0 : Int32)), (0, .ref g.1.1), (1, .int p0), (2, .int p1), (3, .int p2), (4, .int p3)]) hx hb d_C_comeIntoSecond_23 hl (by decide) rfl (fun ls hl => ?_)
      have hl := lv_sub (l' := [(0, .ref g.1.1), (1, .int p0), (2, .int p1), (3, .int p2), (4, .int p3), (5, .int (0 : Int32))]) hl [1, 2, 3, 4, 5, 0] rfl
      exact cut_25 (0 : Int32) x _ _ _ hF hP hD hS hl
    · have hF := hF.trans (if_neg c_10)
      refine lv_aload_n hx hb d_C_comeIntoSecond_13 rfl (lv_at hl 0 rfl) ?_
      refine va_get (D := D) (ci := 2) (v := .ref g.1.2.1) (C := R_C) (T := T_C) (N := 10) hx hb htb i_C hown hK hP 0 rfl rfl 5 (by decide) (htb _ k_C_41) (fun _ h9 => h9) rfl d_C_comeIntoSecond_14 ?_
      refine lv_iload_n hx hb d_C_comeIntoSecond_17 rfl (lv_at hl 1 rfl) ?_
      refine va_iald hx hb hK hP 17 0 rfl rfl (in_ok hg.1.1 c_1 c_10) d_C_comeIntoSecond_18 ?_
      refine lv_goto (tgt := 23) hx hb d_C_comeIntoSecond_19 (by decide) ?_
      refine lv_istore (lv' := [(5, .int (x.2.2.2.2.1 p0.toNatClampNeg)), (0, .ref g.1.1), (1, .int p0), (2, .int p1), (3, .int p2), (4, .int p3)]) hx hb d_C_comeIntoSecond_23 hl (by decide) rfl (fun ls hl => ?_)
      have hl := lv_sub (l' := [(0, .ref g.1.1), (1, .int p0), (2, .int p1), (3, .int p2), (4, .int p3), (5, .int (x.2.2.2.2.1 p0.toNatClampNeg))]) hl [1, 2, 3, 4, 5, 0] rfl
      exact cut_25 (x.2.2.2.2.1 p0.toNatClampNeg) x _ _ _ hF hP hD hS hl

def L_C_makeRoomInFirst_114 (g : GC) (p0 p1 : Int32) (v5 v6 v7 : Int32) (z : Cs) : Cs := (if v7 = 0 then z else (bnd (M_C_writeDown g z v5 v6) (fun u_124 => u_124)))
theorem L_C_makeRoomInFirst_114_eq (g : GC) (p0 p1 : Int32) (v5 v6 v7 : Int32) (z : Cs) : L_C_makeRoomInFirst_114 g p0 p1 v5 v6 v7 z = (if v7 = 0 then z else (bnd (M_C_writeDown g z v5 v6) (fun u_124 => u_124))) := rfl
def M_C_makeRoomInFirst (g : GC) (x : Cs) (p0 p1 : Int32) : Cs := (bnd (M_B_placeOf g.2.2.2.1 x.2.1 p0 p1) (fun r_6 => (bnd (M_B_isFull g.2.2.2.1 x.2.1 r_6) (fun r_15 => (if r_15 = 0 then x else (bnd (M_B_oldest g.2.2.2.1 x.2.1 r_6) (fun r_27 => (bnd (M_B_lineAt g.2.2.2.1 x.2.1 r_27) (fun r_38 => (bnd (M_B_versionAt g.2.2.2.1 x.2.1 r_27) (fun r_49 => (bnd (M_B_isWritten g.2.2.2.1 x.2.1 r_27) (fun r_60 => (bnd (M_B_drop g.2.2.2.1 x.2.1 r_27) (fun u_71 => (if g.2.1.2 = (2 : Int32) then (bnd (M_C_passesBy g (x.1, u_71, x.2.2.1, x.2.2.2.1, x.2.2.2.2.1, x.2.2.2.2.2) r_38) (fun r_85 => (if r_85 = 0 then (bnd (M_C_directory g (x.1, u_71, x.2.2.1, x.2.2.2.1, x.2.2.2.2.1, x.2.2.2.2.2) r_38) (fun r_94 => (if r_94 = 0 then (bnd (M_C_comeIntoSecond g (x.1, u_71, x.2.2.1, x.2.2.2.1, x.2.2.2.2.1, x.2.2.2.2.2) p0 r_38 r_49 r_60) (fun u_108 => u_108)) else L_C_makeRoomInFirst_114 g p0 p1 r_38 r_49 r_60 (x.1, u_71, x.2.2.1, x.2.2.2.1, x.2.2.2.2.1, x.2.2.2.2.2)))) else L_C_makeRoomInFirst_114 g p0 p1 r_38 r_49 r_60 (x.1, u_71, x.2.2.1, x.2.2.2.1, x.2.2.2.2.1, x.2.2.2.2.2)))) else L_C_makeRoomInFirst_114 g p0 p1 r_38 r_49 r_60 (x.1, u_71, x.2.2.1, x.2.2.2.1, x.2.2.2.2.1, x.2.2.2.2.2)))))))))))))))))
theorem M_C_makeRoomInFirst_eq (g : GC) (x : Cs) (p0 p1 : Int32) : M_C_makeRoomInFirst g x p0 p1 = (bnd (M_B_placeOf g.2.2.2.1 x.2.1 p0 p1) (fun r_6 => (bnd (M_B_isFull g.2.2.2.1 x.2.1 r_6) (fun r_15 => (if r_15 = 0 then x else (bnd (M_B_oldest g.2.2.2.1 x.2.1 r_6) (fun r_27 => (bnd (M_B_lineAt g.2.2.2.1 x.2.1 r_27) (fun r_38 => (bnd (M_B_versionAt g.2.2.2.1 x.2.1 r_27) (fun r_49 => (bnd (M_B_isWritten g.2.2.2.1 x.2.1 r_27) (fun r_60 => (bnd (M_B_drop g.2.2.2.1 x.2.1 r_27) (fun u_71 => (if g.2.1.2 = (2 : Int32) then (bnd (M_C_passesBy g (x.1, u_71, x.2.2.1, x.2.2.2.1, x.2.2.2.2.1, x.2.2.2.2.2) r_38) (fun r_85 => (if r_85 = 0 then (bnd (M_C_directory g (x.1, u_71, x.2.2.1, x.2.2.2.1, x.2.2.2.2.1, x.2.2.2.2.2) r_38) (fun r_94 => (if r_94 = 0 then (bnd (M_C_comeIntoSecond g (x.1, u_71, x.2.2.1, x.2.2.2.1, x.2.2.2.2.1, x.2.2.2.2.2) p0 r_38 r_49 r_60) (fun u_108 => u_108)) else L_C_makeRoomInFirst_114 g p0 p1 r_38 r_49 r_60 (x.1, u_71, x.2.2.1, x.2.2.2.1, x.2.2.2.2.1, x.2.2.2.2.2)))) else L_C_makeRoomInFirst_114 g p0 p1 r_38 r_49 r_60 (x.1, u_71, x.2.2.1, x.2.2.2.1, x.2.2.2.2.1, x.2.2.2.2.2)))) else L_C_makeRoomInFirst_114 g p0 p1 r_38 r_49 r_60 (x.1, u_71, x.2.2.1, x.2.2.2.1, x.2.2.2.2.1, x.2.2.2.2.2))))))))))))))))) := rfl
abbrev w_C_makeRoomInFirst : List Cond := .code y_C_makeRoomInFirst b_C_makeRoomInFirst 8 none :: tbW
abbrev rm_C_makeRoomInFirst : Room := { frames := 5, cells := 0, slots := 0, locals := 123 }
set_option maxHeartbeats 4000000 in
set_option maxRecDepth 100000 in
theorem c_C_makeRoomInFirst (l : Launch) (D : va_G) (cI cZ : ClassId) (g : GC) (hg : okC g) (x : Cs) (p0 p1 : Int32) : Met l y_C_makeRoomInFirst w_C_makeRoomInFirst rm_C_makeRoomInFirst (PcW D vwCl (tyK cI cZ) [.ref g.1.1, .int p0, .int p1] (wC cI cZ g x)) (va_Qv (fun (u : Cs) => u = M_C_makeRoomInFirst g x p0 p1) (fun (u : Cs) (t : State) => va_P D vwCl (wC cI cZ g u) t.heap) (Aw (wC cI cZ g x))) 0 0 (Aw (wC cI cZ g x)) := by
  refine Met.ofW (cc := b_C_makeRoomInFirst) (maxL := 8) (ret := none) (by decide) rfl ?_
  intro p e s m args below meth c s₁ B hml hv
  obtain ⟨rfl, hP, hK, hD0⟩ := hv
  have hx := B.exec
  have hb := B.bytes
  have hr := B.returns
  have htb : ∀ w ∈ tbW, w.before _ s = true := fun w h => atoms_spec (ws := w_C_makeRoomInFirst) B.pre w (List.mem_cons_of_mem _ h)
  have hown : s.vm.findClass R_C = some m.cls := findClass_of_methodNamed B.named
  have hlocks := B.notSynchronized
  have hD : va_D (Aw (wC cI cZ g x)) (wC cI cZ g x) := ⟨hD0.1, fun k q hk => ⟨k, q.2, hk⟩⟩
  have hS : va_S (Aw (wC cI cZ g x)) s.heap s.heap [] := va_S.rf
  have cut_114 : ∀ (v5 v6 v7 : Int32) (z : Cs) (H : Heap) (locs : List Loc) (ls : Array Slot), M_C_makeRoomInFirst g x p0 p1 = L_C_makeRoomInFirst_114 g p0 p1 v5 v6 v7 z → va_P D vwCl (wC cI cZ g z) H → va_D (Aw (wC cI cZ g x)) (wC cI cZ g z) → va_S (Aw (wC cI cZ g x)) s.heap H locs → lv_has ls 8 [(0, .ref g.1.1), (1, .int p0), (2, .int p1), (5, .int v5), (6, .int v6), (7, .int v7)] → W p l e (headSpec w_C_makeRoomInFirst rm_C_makeRoomInFirst).room s m ([.ref g.1.1, .int p0, .int p1] : List Value).toArray below meth c H locs 0 0 (MQ below (va_Qv (fun (u : Cs) => u = M_C_makeRoomInFirst g x p0 p1) (fun (u : Cs) (t : State) => va_P D vwCl (wC cI cZ g u) t.heap) (Aw (wC cI cZ g x))) ([.ref g.1.1, .int p0, .int p1] : List Value).toArray s 0 0 (Aw (wC cI cZ g x))) (F0 m 114 ls []) := by
    intro v5 v6 v7 z H locs ls hF hP hD hS hl
    have hF := hF.trans (L_C_makeRoomInFirst_114_eq g p0 p1 v5 v6 v7 z)
    refine lv_iload hx hb d_C_makeRoomInFirst_114 (lv_at hl 5 rfl) ?_
    refine lv_if_eq (tgt := 127) hx hb d_C_makeRoomInFirst_116 (by decide) (fun c_116 => ?_) (fun c_116 => ?_)
    · have hF := hF.trans (if_pos c_116)
      exact W.vret hx hb hr (fun t ht hW => ⟨⟨z, rfl, hF.symm, by dsimp only; rw [ht]; exact hP⟩, hS.F ht⟩) hS.2.2 d_C_makeRoomInFirst_127
    · have hF := hF.trans (if_neg c_116)
      refine lv_aload_n hx hb d_C_makeRoomInFirst_119 rfl (lv_at hl 0 rfl) ?_
      refine lv_iload hx hb d_C_makeRoomInFirst_120 (lv_at hl 3 rfl) ?_
      refine lv_iload hx hb d_C_makeRoomInFirst_122 (lv_at hl 4 rfl) ?_
      refine cwv_ (As := [.int v5, .int v6]) (rest := []) (wldC := fun u => (wC cI cZ g u)) ⟨hx, hb, hml, hown, htb⟩ (c_C_writeDown l D cI cZ g hg z v5 v6) (cwv (n := 2) htb cd_C_writeDown k_C_161 in_C_writeDown se_C_writeDown ini_C hd_C_writeDown ⟨Nat.le_of_ble_eq_true rfl, Nat.le_of_ble_eq_true rfl⟩) hK hP hD hS [0, 1, 2, 3, 4, 5, 6, 7, 8, 9, 10, 11, 12, 13, 14, 15, 16, 17, 18] [] [0, 1, 2, 3, 4, 5, 6, 7, 8, 9, 10, 11, 12, 13, 14, 15, 16, 17, 18] rfl rfl (by decide) (by decide) rfl (fun _ => rfl) (fun _ => rfl) (ci := 2) rfl rfl rfl hl.1 rfl (Nat.le_of_ble_eq_true rfl) d_C_makeRoomInFirst_124 ⟨Nat.zero_le _, Nat.zero_le _⟩ (fun u_124 H locs hw_124 hP hD hS => ?_)
      have hP : va_P D vwCl (wC cI cZ g u_124) H := hP
      have hD : va_D _ (wC cI cZ g u_124) := hD
      have hF := hF.trans (bnd_eq hw_124)
      exact W.vret hx hb hr (fun t ht hW => ⟨⟨u_124, rfl, hF.symm, by dsimp only; rw [ht]; exact hP⟩, hS.F ht⟩) hS.2.2 d_C_makeRoomInFirst_127
  have hl := lv_entry ([.ref g.1.1, .int p0, .int p1]) (n := 8) (Nat.le_of_ble_eq_true rfl)
  rw [lg_entry_eq]
  generalize (lg_sl ([.ref g.1.1, .int p0, .int p1]) ++ List.replicate (8 - (lg_sl ([.ref g.1.1, .int p0, .int p1])).length) Slot.unset).toArray = ls at hl ⊢
  have hl : lv_has ls 8 [(0, .ref g.1.1), (1, .int p0), (2, .int p1)] := hl
  have hF := M_C_makeRoomInFirst_eq g x p0 p1
  refine lv_aload_n hx hb d_C_makeRoomInFirst_0 rfl (lv_at hl 0 rfl) ?_
  refine va_get (D := D) (ci := 2) (v := .ref g.2.2.2.1.1.1) (C := R_C) (T := T_C) (N := 10) hx hb htb i_C hown hK hP 0 rfl rfl 2 (by decide) (htb _ k_C_27) (fun _ h9 => h9) rfl d_C_makeRoomInFirst_1 ?_
  refine lv_iload_n hx hb d_C_makeRoomInFirst_4 rfl (lv_at hl 1 rfl) ?_
  refine lv_iload_n hx hb d_C_makeRoomInFirst_5 rfl (lv_at hl 2 rfl) ?_
  refine cpi (As := [.int p0, .int p1]) (rest := []) ⟨hx, hb, hml, hown, htb⟩ (c_B_placeOf l D cI cZ g.2.2.2.1 hg.2.1 x.2.1 p0 p1) (cwv (n := 2) htb cd_B_placeOf k_C_180 in_B_placeOf se_B_placeOf ini_B hd_B_placeOf ⟨Nat.le_of_ble_eq_true rfl, Nat.le_of_ble_eq_true rfl⟩) hK hP [1, 2, 3, 4, 5, 6] rfl (ci := 0) rfl rfl rfl hl.1 rfl (Nat.le_of_ble_eq_true rfl) d_C_makeRoomInFirst_6 ⟨Nat.zero_le _, Nat.zero_le _⟩ (fun r_6 hw_6 => ?_)
  have hF := hF.trans (bnd_eq hw_6)
  refine lv_istore_n (lv' := [(3, .int r_6), (0, .ref g.1.1), (1, .int p0), (2, .int p1)]) hx hb d_C_makeRoomInFirst_9 rfl hl (by decide) rfl (fun ls hl => ?_)
  refine lv_aload_n hx hb d_C_makeRoomInFirst_10 rfl (lv_at hl 1 rfl) ?_
  refine va_get (D := D) (ci := 2) (v := .ref g.2.2.2.1.1.1) (C := R_C) (T := T_C) (N := 10) hx hb htb i_C hown hK hP 0 rfl rfl 2 (by decide) (htb _ k_C_27) (fun _ h9 => h9) rfl d_C_makeRoomInFirst_11 ?_
  refine lv_iload_n hx hb d_C_makeRoomInFirst_14 rfl (lv_at hl 0 rfl) ?_
  refine cpi (As := [.int r_6]) (rest := []) ⟨hx, hb, hml, hown, htb⟩ (c_B_isFull l D cI cZ g.2.2.2.1 hg.2.1 x.2.1 r_6) (cwv (n := 1) htb cd_B_isFull k_C_190 in_B_isFull se_B_isFull ini_B hd_B_isFull ⟨Nat.le_of_ble_eq_true rfl, Nat.le_of_ble_eq_true rfl⟩) hK hP [1, 2, 3, 4, 5, 6] rfl (ci := 0) rfl rfl rfl hl.1 rfl (Nat.le_of_ble_eq_true rfl) d_C_makeRoomInFirst_15 ⟨Nat.zero_le _, Nat.zero_le _⟩ (fun r_15 hw_15 => ?_)
  have hF := hF.trans (bnd_eq hw_15)
  refine lv_if_ne (tgt := 22) hx hb d_C_makeRoomInFirst_18 (by decide) (fun c_18 => ?_) (fun c_18 => ?_)
  · have hF := hF.trans (if_neg c_18)
    refine lv_aload_n hx hb d_C_makeRoomInFirst_22 rfl (lv_at hl 1 rfl) ?_
    refine va_get (D := D) (ci := 2) (v := .ref g.2.2.2.1.1.1) (C := R_C) (T := T_C) (N := 10) hx hb htb i_C hown hK hP 0 rfl rfl 2 (by decide) (htb _ k_C_27) (fun _ h9 => h9) rfl d_C_makeRoomInFirst_23 ?_
    refine lv_iload_n hx hb d_C_makeRoomInFirst_26 rfl (lv_at hl 0 rfl) ?_
    refine cpi (As := [.int r_6]) (rest := []) ⟨hx, hb, hml, hown, htb⟩ (c_B_oldest l D cI cZ g.2.2.2.1 hg.2.1 x.2.1 r_6) (cwv (n := 1) htb cd_B_oldest k_C_193 in_B_oldest se_B_oldest ini_B hd_B_oldest ⟨Nat.le_of_ble_eq_true rfl, Nat.le_of_ble_eq_true rfl⟩) hK hP [1, 2, 3, 4, 5, 6] rfl (ci := 0) rfl rfl rfl hl.1 rfl (Nat.le_of_ble_eq_true rfl) d_C_makeRoomInFirst_27 ⟨Nat.zero_le _, Nat.zero_le _⟩ (fun r_27 hw_27 => ?_)
    have hF := hF.trans (bnd_eq hw_27)
    refine lv_istore (lv' := [(4, .int r_27), (3, .int r_6), (0, .ref g.1.1), (1, .int p0), (2, .int p1)]) hx hb d_C_makeRoomInFirst_30 hl (by decide) rfl (fun ls hl => ?_)
    refine lv_aload_n hx hb d_C_makeRoomInFirst_32 rfl (lv_at hl 2 rfl) ?_
    refine va_get (D := D) (ci := 2) (v := .ref g.2.2.2.1.1.1) (C := R_C) (T := T_C) (N := 10) hx hb htb i_C hown hK hP 0 rfl rfl 2 (by decide) (htb _ k_C_27) (fun _ h9 => h9) rfl d_C_makeRoomInFirst_33 ?_
    refine lv_iload hx hb d_C_makeRoomInFirst_36 (lv_at hl 0 rfl) ?_
    refine cpi (As := [.int r_27]) (rest := []) ⟨hx, hb, hml, hown, htb⟩ (c_B_lineAt l D cI cZ g.2.2.2.1 hg.2.1 x.2.1 r_27) (cwv (n := 1) htb cd_B_lineAt k_C_100 in_B_lineAt se_B_lineAt ini_B hd_B_lineAt ⟨Nat.le_of_ble_eq_true rfl, Nat.le_of_ble_eq_true rfl⟩) hK hP [1, 2, 3, 4, 5, 6] rfl (ci := 0) rfl rfl rfl hl.1 rfl (Nat.le_of_ble_eq_true rfl) d_C_makeRoomInFirst_38 ⟨Nat.zero_le _, Nat.zero_le _⟩ (fun r_38 hw_38 => ?_)
    have hF := hF.trans (bnd_eq hw_38)
    refine lv_istore (lv' := [(5, .int r_38), (4, .int r_27), (3, .int r_6), (0, .ref g.1.1), (1, .int p0), (2, .int p1)]) hx hb d_C_makeRoomInFirst_41 hl (by decide) rfl (fun ls hl => ?_)
    refine lv_aload_n hx hb d_C_makeRoomInFirst_43 rfl (lv_at hl 3 rfl) ?_
    refine va_get (D := D) (ci := 2) (v := .ref g.2.2.2.1.1.1) (C := R_C) (T := T_C) (N := 10) hx hb htb i_C hown hK hP 0 rfl rfl 2 (by decide) (htb _ k_C_27) (fun _ h9 => h9) rfl d_C_makeRoomInFirst_44 ?_
    refine lv_iload hx hb d_C_makeRoomInFirst_47 (lv_at hl 1 rfl) ?_
    refine cpi (As := [.int r_27]) (rest := []) ⟨hx, hb, hml, hown, htb⟩ (c_B_versionAt l D cI cZ g.2.2.2.1 hg.2.1 x.2.1 r_27) (cwv (n := 1) htb cd_B_versionAt k_C_107 in_B_versionAt se_B_versionAt ini_B hd_B_versionAt ⟨Nat.le_of_ble_eq_true rfl, Nat.le_of_ble_eq_true rfl⟩) hK hP [1, 2, 3, 4, 5, 6] rfl (ci := 0) rfl rfl rfl hl.1 rfl (Nat.le_of_ble_eq_true rfl) d_C_makeRoomInFirst_49 ⟨Nat.zero_le _, Nat.zero_le _⟩ (fun r_49 hw_49 => ?_)
    have hF := hF.trans (bnd_eq hw_49)
    refine lv_istore (lv' := [(6, .int r_49), (5, .int r_38), (4, .int r_27), (3, .int r_6), (0, .ref g.1.1), (1, .int p0), (2, .int p1)]) hx hb d_C_makeRoomInFirst_52 hl (by decide) rfl (fun ls hl => ?_)
    refine lv_aload_n hx hb d_C_makeRoomInFirst_54 rfl (lv_at hl 4 rfl) ?_
    refine va_get (D := D) (ci := 2) (v := .ref g.2.2.2.1.1.1) (C := R_C) (T := T_C) (N := 10) hx hb htb i_C hown hK hP 0 rfl rfl 2 (by decide) (htb _ k_C_27) (fun _ h9 => h9) rfl d_C_makeRoomInFirst_55 ?_
    refine lv_iload hx hb d_C_makeRoomInFirst_58 (lv_at hl 2 rfl) ?_
    refine cpi (As := [.int r_27]) (rest := []) ⟨hx, hb, hml, hown, htb⟩ (c_B_isWritten l D cI cZ g.2.2.2.1 hg.2.1 x.2.1 r_27) (cwv (n := 1) htb cd_B_isWritten k_C_96 in_B_isWritten se_B_isWritten ini_B hd_B_isWritten ⟨Nat.le_of_ble_eq_true rfl, Nat.le_of_ble_eq_true rfl⟩) hK hP [1, 2, 3, 4, 5, 6] rfl (ci := 0) rfl rfl rfl hl.1 rfl (Nat.le_of_ble_eq_true rfl) d_C_makeRoomInFirst_60 ⟨Nat.zero_le _, Nat.zero_le _⟩ (fun r_60 hw_60 => ?_)
    have hF := hF.trans (bnd_eq hw_60)
    refine lv_istore (lv' := [(7, .int r_60), (6, .int r_49), (5, .int r_38), (4, .int r_27), (3, .int r_6), (0, .ref g.1.1), (1, .int p0), (2, .int p1)]) hx hb d_C_makeRoomInFirst_63 hl (by decide) rfl (fun ls hl => ?_)
    refine lv_aload_n hx hb d_C_makeRoomInFirst_65 rfl (lv_at hl 5 rfl) ?_
    refine va_get (D := D) (ci := 2) (v := .ref g.2.2.2.1.1.1) (C := R_C) (T := T_C) (N := 10) hx hb htb i_C hown hK hP 0 rfl rfl 2 (by decide) (htb _ k_C_27) (fun _ h9 => h9) rfl d_C_makeRoomInFirst_66 ?_
    refine lv_iload hx hb d_C_makeRoomInFirst_69 (lv_at hl 3 rfl) ?_
    refine cwv_ (As := [.int r_27]) (rest := []) (wldC := fun u => (wC cI cZ g (x.1, u, x.2.2.1, x.2.2.2.1, x.2.2.2.2.1, x.2.2.2.2.2))) ⟨hx, hb, hml, hown, htb⟩ (c_B_drop l D cI cZ g.2.2.2.1 hg.2.1 x.2.1 r_27) (cwv (n := 1) htb cd_B_drop k_C_174 in_B_drop se_B_drop ini_B hd_B_drop ⟨Nat.le_of_ble_eq_true rfl, Nat.le_of_ble_eq_true rfl⟩) hK hP hD hS [1, 2, 3, 4, 5, 6] [0, 7, 8, 9, 10, 11, 12, 13, 14, 15, 16, 17, 18] [0, 13, 14, 15, 16, 17, 18, 1, 2, 3, 4, 5, 6, 7, 8, 9, 10, 11, 12] rfl rfl (by decide) (by decide) rfl (fun _ => rfl) (fun _ => rfl) (ci := 0) rfl rfl rfl hl.1 rfl (Nat.le_of_ble_eq_true rfl) d_C_makeRoomInFirst_71 ⟨Nat.zero_le _, Nat.zero_le _⟩ (fun u_71 H locs hw_71 hP hD hS => ?_)
    have hP : va_P D vwCl (wC cI cZ g (x.1, u_71, x.2.2.1, x.2.2.2.1, x.2.2.2.2.1, x.2.2.2.2.2)) H := hP
    have hD : va_D _ (wC cI cZ g (x.1, u_71, x.2.2.1, x.2.2.2.1, x.2.2.2.2.1, x.2.2.2.2.2)) := hD
    have hF := hF.trans (bnd_eq hw_71)
    refine lv_aload_n hx hb d_C_makeRoomInFirst_74 rfl (lv_at hl 5 rfl) ?_
    refine va_get (D := D) (ci := 2) (v := .int g.2.1.2) (C := R_C) (T := T_C) (N := 10) hx hb htb i_C hown hK hP 0 rfl rfl 1 (by decide) (htb _ k_C_19) (fun _ h9 => h9) rfl d_C_makeRoomInFirst_75 ?_
    refine lv_iconst (v := 2) hx hb d_C_makeRoomInFirst_78 (by decide) ?_
    refine lv_icmp_ne (tgt := 114) hx hb d_C_makeRoomInFirst_79 (by decide) (fun c_79 => ?_) (fun c_79 => ?_)
    · have hF := hF.trans (if_neg c_79)
      have hl := lv_sub (l' := [(0, .ref g.1.1), (1, .int p0), (2, .int p1), (5, .int r_38), (6, .int r_49), (7, .int r_60)]) hl [5, 6, 7, 2, 1, 0] rfl
      exact cut_114 r_38 r_49 r_60 (x.1, u_71, x.2.2.1, x.2.2.2.1, x.2.2.2.2.1, x.2.2.2.2.2) _ _ _ hF hP hD hS hl
    · have hF := hF.trans (if_pos c_79)
      refine lv_aload_n hx hb d_C_makeRoomInFirst_82 rfl (lv_at hl 5 rfl) ?_
      refine lv_iload hx hb d_C_makeRoomInFirst_83 (lv_at hl 2 rfl) ?_
      refine cpi (As := [.int r_38]) (rest := []) ⟨hx, hb, hml, hown, htb⟩ (c_C_passesBy l D cI cZ g hg (x.1, u_71, x.2.2.1, x.2.2.2.1, x.2.2.2.2.1, x.2.2.2.2.2) r_38) (cwv (n := 1) htb cd_C_passesBy k_C_167 in_C_passesBy se_C_passesBy ini_C hd_C_passesBy ⟨Nat.le_of_ble_eq_true rfl, Nat.le_of_ble_eq_true rfl⟩) hK hP [0, 1, 2, 3, 4, 5, 6, 7, 8, 9, 10, 11, 12, 13, 14, 15, 16, 17, 18] rfl (ci := 2) rfl rfl rfl hl.1 rfl (Nat.le_of_ble_eq_true rfl) d_C_makeRoomInFirst_85 ⟨Nat.zero_le _, Nat.zero_le _⟩ (fun r_85 hw_85 => ?_)
      have hF := hF.trans (bnd_eq hw_85)
      refine lv_if_ne (tgt := 114) hx hb d_C_makeRoomInFirst_88 (by decide) (fun c_88 => ?_) (fun c_88 => ?_)
      · have hF := hF.trans (if_neg c_88)
        have hl := lv_sub (l' := [(0, .ref g.1.1), (1, .int p0), (2, .int p1), (5, .int r_38), (6, .int r_49), (7, .int r_60)]) hl [5, 6, 7, 2, 1, 0] rfl
        exact cut_114 r_38 r_49 r_60 (x.1, u_71, x.2.2.1, x.2.2.2.1, x.2.2.2.2.1, x.2.2.2.2.2) _ _ _ hF hP hD hS hl
      · have hF := hF.trans (if_pos c_88)
        refine lv_aload_n hx hb d_C_makeRoomInFirst_91 rfl (lv_at hl 5 rfl) ?_
        refine lv_iload hx hb d_C_makeRoomInFirst_92 (lv_at hl 2 rfl) ?_
        refine cpi (As := [.int r_38]) (rest := []) ⟨hx, hb, hml, hown, htb⟩ (c_C_directory l D cI cZ g hg (x.1, u_71, x.2.2.1, x.2.2.2.1, x.2.2.2.2.1, x.2.2.2.2.2) r_38) (cwv (n := 1) htb cd_C_directory k_C_196 in_C_directory se_C_directory ini_C hd_C_directory ⟨Nat.le_of_ble_eq_true rfl, Nat.le_of_ble_eq_true rfl⟩) hK hP [0, 1, 2, 3, 4, 5, 6, 7, 8, 9, 10, 11, 12, 13, 14, 15, 16, 17, 18] rfl (ci := 2) rfl rfl rfl hl.1 rfl (Nat.le_of_ble_eq_true rfl) d_C_makeRoomInFirst_94 ⟨Nat.zero_le _, Nat.zero_le _⟩ (fun r_94 hw_94 => ?_)
        have hF := hF.trans (bnd_eq hw_94)
        refine lv_if_ne (tgt := 114) hx hb d_C_makeRoomInFirst_97 (by decide) (fun c_97 => ?_) (fun c_97 => ?_)
        · have hF := hF.trans (if_neg c_97)
          have hl := lv_sub (l' := [(0, .ref g.1.1), (1, .int p0), (2, .int p1), (5, .int r_38), (6, .int r_49), (7, .int r_60)]) hl [5, 6, 7, 2, 1, 0] rfl
          exact cut_114 r_38 r_49 r_60 (x.1, u_71, x.2.2.1, x.2.2.2.1, x.2.2.2.2.1, x.2.2.2.2.2) _ _ _ hF hP hD hS hl
        · have hF := hF.trans (if_pos c_97)
          refine lv_aload_n hx hb d_C_makeRoomInFirst_100 rfl (lv_at hl 5 rfl) ?_
          refine lv_iload_n hx hb d_C_makeRoomInFirst_101 rfl (lv_at hl 6 rfl) ?_
          refine lv_iload hx hb d_C_makeRoomInFirst_102 (lv_at hl 2 rfl) ?_
          refine lv_iload hx hb d_C_makeRoomInFirst_104 (lv_at hl 1 rfl) ?_
          refine lv_iload hx hb d_C_makeRoomInFirst_106 (lv_at hl 0 rfl) ?_
          refine cwv_ (As := [.int p0, .int r_38, .int r_49, .int r_60]) (rest := []) (wldC := fun u => (wC cI cZ g u)) ⟨hx, hb, hml, hown, htb⟩ (c_C_comeIntoSecond l D cI cZ g hg (x.1, u_71, x.2.2.1, x.2.2.2.1, x.2.2.2.2.1, x.2.2.2.2.2) p0 r_38 r_49 r_60) (cwv (n := 4) htb cd_C_comeIntoSecond k_C_170 in_C_comeIntoSecond se_C_comeIntoSecond ini_C hd_C_comeIntoSecond ⟨Nat.le_of_ble_eq_true rfl, Nat.le_of_ble_eq_true rfl⟩) hK hP hD hS [0, 1, 2, 3, 4, 5, 6, 7, 8, 9, 10, 11, 12, 13, 14, 15, 16, 17, 18] [] [0, 1, 2, 3, 4, 5, 6, 7, 8, 9, 10, 11, 12, 13, 14, 15, 16, 17, 18] rfl rfl (by decide) (by decide) rfl (fun _ => rfl) (fun _ => rfl) (ci := 2) rfl rfl rfl hl.1 rfl (Nat.le_of_ble_eq_true rfl) d_C_makeRoomInFirst_108 ⟨Nat.zero_le _, Nat.zero_le _⟩ (fun u_108 H locs hw_108 hP hD hS => ?_)
          have hP : va_P D vwCl (wC cI cZ g u_108) H := hP
          have hD : va_D _ (wC cI cZ g u_108) := hD
          have hF := hF.trans (bnd_eq hw_108)
          refine lv_goto (tgt := 127) hx hb d_C_makeRoomInFirst_111 (by decide) ?_
          exact W.vret hx hb hr (fun t ht hW => ⟨⟨u_108, rfl, hF.symm, by dsimp only; rw [ht]; exact hP⟩, hS.F ht⟩) hS.2.2 d_C_makeRoomInFirst_127
  · have hF := hF.trans (if_pos c_18)
    exact W.vret hx hb hr (fun t ht hW => ⟨⟨x, rfl, hF.symm, by dsimp only; rw [ht]; exact hP⟩, hS.F ht⟩) hS.2.2 d_C_makeRoomInFirst_21

def L_C_bring_158 (g : GC) (p0 p1 : Int32) (v3 : Int32) (z : Cs) : Int32 × Cs := (if v3 = (-1 : Int32) then (bnd (M_C_tally g z p0 (3 : Int32)) (fun u_170 => (if v3 = (-1 : Int32) then ((3 : Int32), u_170) else ((2 : Int32), u_170)))) else (bnd (M_C_tally g z p0 (2 : Int32)) (fun u_170 => (if v3 = (-1 : Int32) then ((3 : Int32), u_170) else ((2 : Int32), u_170)))))
theorem L_C_bring_158_eq (g : GC) (p0 p1 : Int32) (v3 : Int32) (z : Cs) : L_C_bring_158 g p0 p1 v3 z = (if v3 = (-1 : Int32) then (bnd (M_C_tally g z p0 (3 : Int32)) (fun u_170 => (if v3 = (-1 : Int32) then ((3 : Int32), u_170) else ((2 : Int32), u_170)))) else (bnd (M_C_tally g z p0 (2 : Int32)) (fun u_170 => (if v3 = (-1 : Int32) then ((3 : Int32), u_170) else ((2 : Int32), u_170))))) := rfl
def L_C_bring_130 (g : GC) (p0 p1 : Int32) (v3 v4 v5 : Int32) (z : Cs) : Int32 × Cs := (bnd (M_C_makeRoomInFirst g z p0 p1) (fun u_133 => (bnd (M_B_placeOf g.2.2.2.1 u_133.2.1 p0 p1) (fun r_146 => (bnd (M_B_put g.2.2.2.1 u_133.2.1 r_146 p1 v4 v5 p0) (fun u_155 => L_C_bring_158 g p0 p1 v3 (u_133.1, u_155, u_133.2.2.1, u_133.2.2.2.1, u_133.2.2.2.2.1, u_133.2.2.2.2.2)))))))
theorem L_C_bring_130_eq (g : GC) (p0 p1 : Int32) (v3 v4 v5 : Int32) (z : Cs) : L_C_bring_130 g p0 p1 v3 v4 v5 z = (bnd (M_C_makeRoomInFirst g z p0 p1) (fun u_133 => (bnd (M_B_placeOf g.2.2.2.1 u_133.2.1 p0 p1) (fun r_146 => (bnd (M_B_put g.2.2.2.1 u_133.2.1 r_146 p1 v4 v5 p0) (fun u_155 => L_C_bring_158 g p0 p1 v3 (u_133.1, u_155, u_133.2.2.1, u_133.2.2.2.1, u_133.2.2.2.2.1, u_133.2.2.2.2.2))))))) := rfl
def L_C_bring_109 (g : GC) (p0 p1 : Int32) (v3 v4 v5 : Int32) (z : Cs) : Int32 × Cs := (if g.2.1.2 = (1 : Int32) then (bnd (M_B_find g.2.2.2.2.1 z.2.2.1 (0 : Int32) p1) (fun r_123 => (if r_123 = (-1 : Int32) then L_C_bring_158 g p0 p1 v3 z else L_C_bring_130 g p0 p1 v3 v4 v5 z))) else L_C_bring_130 g p0 p1 v3 v4 v5 z)
theorem L_C_bring_109_eq (g : GC) (p0 p1 : Int32) (v3 v4 v5 : Int32) (z : Cs) : L_C_bring_109 g p0 p1 v3 v4 v5 z = (if g.2.1.2 = (1 : Int32) then (bnd (M_B_find g.2.2.2.2.1 z.2.2.1 (0 : Int32) p1) (fun r_123 => (if r_123 = (-1 : Int32) then L_C_bring_158 g p0 p1 v3 z else L_C_bring_130 g p0 p1 v3 v4 v5 z))) else L_C_bring_130 g p0 p1 v3 v4 v5 z) := rfl
def L_C_bring_36 (g : GC) (p0 p1 : Int32) (v3 v4 : Int32) (z : Cs) : Int32 × Cs := (if v3 = (-1 : Int32) then (if g.2.1.2 = (2 : Int32) then L_C_bring_109 g p0 p1 v3 v4 (0 : Int32) z else (bnd (M_C_passesBy g z p1) (fun r_54 => (if r_54 = 0 then (bnd (M_C_comeIntoSecond g z p0 p1 v4 (0 : Int32)) (fun u_66 => L_C_bring_109 g p0 p1 v3 v4 (0 : Int32) u_66)) else L_C_bring_109 g p0 p1 v3 v4 (0 : Int32) z)))) else (if g.2.1.2 = (2 : Int32) then (bnd (M_B_isWritten g.2.2.2.2.1 z.2.2.1 v3) (fun r_85 => (bnd (M_B_drop g.2.2.2.2.1 z.2.2.1 v3) (fun u_95 => L_C_bring_109 g p0 p1 v3 v4 r_85 (z.1, z.2.1, u_95, z.2.2.2.1, z.2.2.2.2.1, z.2.2.2.2.2))))) else (bnd (M_B_useLast g.2.2.2.2.1 z.2.2.1 v3) (fun u_106 => L_C_bring_109 g p0 p1 v3 v4 (0 : Int32) (z.1, z.2.1, u_106, z.2.2.2.1, z.2.2.2.2.1, z.2.2.2.2.2)))))
theorem L_C_bring_36_eq (g : GC) (p0 p1 : Int32) (v3 v4 : Int32) (z : Cs) : L_C_bring_36 g p0 p1 v3 v4 z = (if v3 = (-1 : Int32) then (if g.2.1.2 = (2 : Int32) then L_C_bring_109 g p0 p1 v3 v4 (0 : Int32) z else (bnd (M_C_passesBy g z p1) (fun r_54 => (if r_54 = 0 then (bnd (M_C_comeIntoSecond g z p0 p1 v4 (0 : Int32)) (fun u_66 => L_C_bring_109 g p0 p1 v3 v4 (0 : Int32) u_66)) else L_C_bring_109 g p0 p1 v3 v4 (0 : Int32) z)))) else (if g.2.1.2 = (2 : Int32) then (bnd (M_B_isWritten g.2.2.2.2.1 z.2.2.1 v3) (fun r_85 => (bnd (M_B_drop g.2.2.2.2.1 z.2.2.1 v3) (fun u_95 => L_C_bring_109 g p0 p1 v3 v4 r_85 (z.1, z.2.1, u_95, z.2.2.2.1, z.2.2.2.2.1, z.2.2.2.2.2))))) else (bnd (M_B_useLast g.2.2.2.2.1 z.2.2.1 v3) (fun u_106 => L_C_bring_109 g p0 p1 v3 v4 (0 : Int32) (z.1, z.2.1, u_106, z.2.2.2.1, z.2.2.2.2.1, z.2.2.2.2.2))))) := rfl
def M_C_bring (g : GC) (x : Cs) (p0 p1 : Int32) : Int32 × Cs := (bnd (M_B_find g.2.2.2.2.1 x.2.2.1 (0 : Int32) p1) (fun r_6 => (if r_6 = (-1 : Int32) then (bnd (M_V_inMemory g.2.2.2.2.2 x.2.2.2.1 p1) (fun r_31 => L_C_bring_36 g p0 p1 r_6 r_31 x)) else (bnd (M_B_versionAt g.2.2.2.2.1 x.2.2.1 r_6) (fun r_20 => L_C_bring_36 g p0 p1 r_6 r_20 x)))))
theorem M_C_bring_eq (g : GC) (x : Cs) (p0 p1 : Int32) : M_C_bring g x p0 p1 = (bnd (M_B_find g.2.2.2.2.1 x.2.2.1 (0 : Int32) p1) (fun r_6 => (if r_6 = (-1 : Int32) then (bnd (M_V_inMemory g.2.2.2.2.2 x.2.2.2.1 p1) (fun r_31 => L_C_bring_36 g p0 p1 r_6 r_31 x)) else (bnd (M_B_versionAt g.2.2.2.2.1 x.2.2.1 r_6) (fun r_20 => L_C_bring_36 g p0 p1 r_6 r_20 x))))) := rfl
abbrev w_C_bring : List Cond := .code y_C_bring b_C_bring 6 (some .int) :: tbW
abbrev rm_C_bring : Room := { frames := 6, cells := 0, slots := 0, locals := 150 }
set_option maxHeartbeats 4000000 in
set_option maxRecDepth 100000 in
theorem c_C_bring (l : Launch) (D : va_G) (cI cZ : ClassId) (g : GC) (hg : okC g) (x : Cs) (p0 p1 : Int32) : Met l y_C_bring w_C_bring rm_C_bring (PcW D vwCl (tyK cI cZ) [.ref g.1.1, .int p0, .int p1] (wC cI cZ g x)) (va_Qi (fun (r : Int32) (u : Cs) => (r, u) = M_C_bring g x p0 p1) (fun (u : Cs) (t : State) => va_P D vwCl (wC cI cZ g u) t.heap) (Aw (wC cI cZ g x))) 0 0 (Aw (wC cI cZ g x)) := by
  refine Met.ofW (cc := b_C_bring) (maxL := 6) (ret := (some .int)) (by decide) rfl ?_
  intro p e s m args below meth c s₁ B hml hv
  obtain ⟨rfl, hP, hK, hD0⟩ := hv
  have hx := B.exec
  have hb := B.bytes
  have hr := B.returns
  have htb : ∀ w ∈ tbW, w.before _ s = true := fun w h => atoms_spec (ws := w_C_bring) B.pre w (List.mem_cons_of_mem _ h)
  have hown : s.vm.findClass R_C = some m.cls := findClass_of_methodNamed B.named
  have hlocks := B.notSynchronized
  have hD : va_D (Aw (wC cI cZ g x)) (wC cI cZ g x) := ⟨hD0.1, fun k q hk => ⟨k, q.2, hk⟩⟩
  have hS : va_S (Aw (wC cI cZ g x)) s.heap s.heap [] := va_S.rf
  have cut_158 : ∀ (v3 : Int32) (z : Cs) (H : Heap) (locs : List Loc) (ls : Array Slot), M_C_bring g x p0 p1 = L_C_bring_158 g p0 p1 v3 z → va_P D vwCl (wC cI cZ g z) H → va_D (Aw (wC cI cZ g x)) (wC cI cZ g z) → va_S (Aw (wC cI cZ g x)) s.heap H locs → lv_has ls 6 [(0, .ref g.1.1), (1, .int p0), (2, .int p1), (3, .int v3)] → W p l e (headSpec w_C_bring rm_C_bring).room s m ([.ref g.1.1, .int p0, .int p1] : List Value).toArray below meth c H locs 0 0 (MQ below (va_Qi (fun (r : Int32) (u : Cs) => (r, u) = M_C_bring g x p0 p1) (fun (u : Cs) (t : State) => va_P D vwCl (wC cI cZ g u) t.heap) (Aw (wC cI cZ g x))) ([.ref g.1.1, .int p0, .int p1] : List Value).toArray s 0 0 (Aw (wC cI cZ g x))) (F0 m 158 ls []) := by
    intro v3 z H locs ls hF hP hD hS hl
    have hF := hF.trans (L_C_bring_158_eq g p0 p1 v3 z)
    refine lv_aload_n hx hb d_C_bring_158 rfl (lv_at hl 0 rfl) ?_
    refine lv_iload_n hx hb d_C_bring_159 rfl (lv_at hl 1 rfl) ?_
    refine lv_iload_n hx hb d_C_bring_160 rfl (lv_at hl 3 rfl) ?_
    refine lv_iconst (v := -1) hx hb d_C_bring_161 (by decide) ?_
    refine lv_icmp_eq (tgt := 169) hx hb d_C_bring_162 (by decide) (fun c_162 => ?_) (fun c_162 => ?_)
    · have hF := hF.trans (if_pos c_162)
      refine lv_iconst (v := 3) hx hb d_C_bring_169 (by decide) ?_
      refine cwv_ (As := [.int p0, .int (3 : Int32)]) (rest := []) (wldC := fun u => (wC cI cZ g u)) ⟨hx, hb, hml, hown, htb⟩ (c_C_tally l D cI cZ g hg z p0 (3 : Int32)) (cwv (n := 2) htb cd_C_tally k_C_68 in_C_tally se_C_tally ini_C hd_C_tally ⟨Nat.le_of_ble_eq_true rfl, Nat.le_of_ble_eq_true rfl⟩) hK hP hD hS [0, 1, 2, 3, 4, 5, 6, 7, 8, 9, 10, 11, 12, 13, 14, 15, 16, 17, 18] [] [0, 1, 2, 3, 4, 5, 6, 7, 8, 9, 10, 11, 12, 13, 14, 15, 16, 17, 18] rfl rfl (by decide) (by decide) rfl (fun _ => rfl) (fun _ => rfl) (ci := 2) rfl rfl rfl hl.1 rfl (Nat.le_of_ble_eq_true rfl) d_C_bring_170 ⟨Nat.zero_le _, Nat.zero_le _⟩ (fun u_170 H locs hw_170 hP hD hS => ?_)
      have hP : va_P D vwCl (wC cI cZ g u_170) H := hP
      have hD : va_D _ (wC cI cZ g u_170) := hD
      have hF := hF.trans (bnd_eq hw_170)
      refine lv_iload_n hx hb d_C_bring_173 rfl (lv_at hl 3 rfl) ?_
      refine lv_iconst (v := -1) hx hb d_C_bring_174 (by decide) ?_
      refine lv_icmp_eq (tgt := 182) hx hb d_C_bring_175 (by decide) (fun c_175 => ?_) (fun c_175 => ?_)
      · have hF := hF.trans (if_pos c_175)
        refine lv_iconst (v := 3) hx hb d_C_bring_182 (by decide) ?_
        exact W.iret (v := (3 : Int32)) hx hb hr (fun t ht hW => ⟨⟨(3 : Int32), u_170, rfl, hF.symm, by dsimp only; rw [ht]; exact hP⟩, hS.F ht⟩) hS.2.2 d_C_bring_183
      · have hF := hF.trans (if_neg c_175)
        refine lv_iconst (v := 2) hx hb d_C_bring_178 (by decide) ?_
        refine lv_goto (tgt := 183) hx hb d_C_bring_179 (by decide) ?_
        exact W.iret (v := (2 : Int32)) hx hb hr (fun t ht hW => ⟨⟨(2 : Int32), u_170, rfl, hF.symm, by dsimp only; rw [ht]; exact hP⟩, hS.F ht⟩) hS.2.2 d_C_bring_183
    · have hF := hF.trans (if_neg c_162)
      refine lv_iconst (v := 2) hx hb d_C_bring_165 (by decide) ?_
      refine lv_goto (tgt := 170) hx hb d_C_bring_166 (by decide) ?_
      refine cwv_ (As := [.int p0, .int (2 : Int32)]) (rest := []) (wldC := fun u => (wC cI cZ g u)) ⟨hx, hb, hml, hown, htb⟩ (c_C_tally l D cI cZ g hg z p0 (2 : Int32)) (cwv (n := 2) htb cd_C_tally k_C_68 in_C_tally se_C_tally ini_C hd_C_tally ⟨Nat.le_of_ble_eq_true rfl, Nat.le_of_ble_eq_true rfl⟩) hK hP hD hS [0, 1, 2, 3, 4, 5, 6, 7, 8, 9, 10, 11, 12, 13, 14, 15, 16, 17, 18] [] [0, 1, 2, 3, 4, 5, 6, 7, 8, 9, 10, 11, 12, 13, 14, 15, 16, 17, 18] rfl rfl (by decide) (by decide) rfl (fun _ => rfl) (fun _ => rfl) (ci := 2) rfl rfl rfl hl.1 rfl (Nat.le_of_ble_eq_true rfl) d_C_bring_170 ⟨Nat.zero_le _, Nat.zero_le _⟩ (fun u_170 H locs hw_170 hP hD hS => ?_)
      have hP : va_P D vwCl (wC cI cZ g u_170) H := hP
      have hD : va_D _ (wC cI cZ g u_170) := hD
      have hF := hF.trans (bnd_eq hw_170)
      refine lv_iload_n hx hb d_C_bring_173 rfl (lv_at hl 3 rfl) ?_
      refine lv_iconst (v := -1) hx hb d_C_bring_174 (by decide) ?_
      refine lv_icmp_eq (tgt := 182) hx hb d_C_bring_175 (by decide) (fun c_175 => ?_) (fun c_175 => ?_)
      · have hF := hF.trans (if_pos c_175)
        refine lv_iconst (v := 3) hx hb d_C_bring_182 (by decide) ?_
        exact W.iret (v := (3 : Int32)) hx hb hr (fun t ht hW => ⟨⟨(3 : Int32), u_170, rfl, hF.symm, by dsimp only; rw [ht]; exact hP⟩, hS.F ht⟩) hS.2.2 d_C_bring_183
      · have hF := hF.trans (if_neg c_175)
        refine lv_iconst (v := 2) hx hb d_C_bring_178 (by decide) ?_
        refine lv_goto (tgt := 183) hx hb d_C_bring_179 (by decide) ?_
        exact W.iret (v := (2 : Int32)) hx hb hr (fun t ht hW => ⟨⟨(2 : Int32), u_170, rfl, hF.symm, by dsimp only; rw [ht]; exact hP⟩, hS.F ht⟩) hS.2.2 d_C_bring_183
  have cut_130 : ∀ (v3 v4 v5 : Int32) (z : Cs) (H : Heap) (locs : List Loc) (ls : Array Slot), M_C_bring g x p0 p1 = L_C_bring_130 g p0 p1 v3 v4 v5 z → va_P D vwCl (wC cI cZ g z) H → va_D (Aw (wC cI cZ g x)) (wC cI cZ g z) → va_S (Aw (wC cI cZ g x)) s.heap H locs → lv_has ls 6 [(0, .ref g.1.1), (1, .int p0), (2, .int p1), (3, .int v3), (4, .int v4), (5, .int v5)] → W p l e (headSpec w_C_bring rm_C_bring).room s m ([.ref g.1.1, .int p0, .int p1] : List Value).toArray below meth c H locs 0 0 (MQ below (va_Qi (fun (r : Int32) (u : Cs) => (r, u) = M_C_bring g x p0 p1) (fun (u : Cs) (t : State) => va_P D vwCl (wC cI cZ g u) t.heap) (Aw (wC cI cZ g x))) ([.ref g.1.1, .int p0, .int p1] : List Value).toArray s 0 0 (Aw (wC cI cZ g x))) (F0 m 130 ls []) := by
    intro v3 v4 v5 z H locs ls hF hP hD hS hl
    have hF := hF.trans (L_C_bring_130_eq g p0 p1 v3 v4 v5 z)
    refine lv_aload_n hx hb d_C_bring_130 rfl (lv_at hl 0 rfl) ?_
    refine lv_iload_n hx hb d_C_bring_131 rfl (lv_at hl 1 rfl) ?_
    refine lv_iload_n hx hb d_C_bring_132 rfl (lv_at hl 2 rfl) ?_
    refine cwv_ (As := [.int p0, .int p1]) (rest := []) (wldC := fun u => (wC cI cZ g u)) ⟨hx, hb, hml, hown, htb⟩ (c_C_makeRoomInFirst l D cI cZ g hg z p0 p1) (cwv (n := 2) htb cd_C_makeRoomInFirst k_C_177 in_C_makeRoomInFirst se_C_makeRoomInFirst ini_C hd_C_makeRoomInFirst ⟨Nat.le_of_ble_eq_true rfl, Nat.le_of_ble_eq_true rfl⟩) hK hP hD hS [0, 1, 2, 3, 4, 5, 6, 7, 8, 9, 10, 11, 12, 13, 14, 15, 16, 17, 18] [] [0, 1, 2, 3, 4, 5, 6, 7, 8, 9, 10, 11, 12, 13, 14, 15, 16, 17, 18] rfl rfl (by decide) (by decide) rfl (fun _ => rfl) (fun _ => rfl) (ci := 2) rfl rfl rfl hl.1 rfl (Nat.le_of_ble_eq_true rfl) d_C_bring_133 ⟨Nat.zero_le _, Nat.zero_le _⟩ (fun u_133 H locs hw_133 hP hD hS => ?_)
    have hP : va_P D vwCl (wC cI cZ g u_133) H := hP
    have hD : va_D _ (wC cI cZ g u_133) := hD
    have hF := hF.trans (bnd_eq hw_133)
    refine lv_aload_n hx hb d_C_bring_136 rfl (lv_at hl 0 rfl) ?_
    refine va_get (D := D) (ci := 2) (v := .ref g.2.2.2.1.1.1) (C := R_C) (T := T_C) (N := 10) hx hb htb i_C hown hK hP 0 rfl rfl 2 (by decide) (htb _ k_C_27) (fun _ h9 => h9) rfl d_C_bring_137 ?_
    refine lv_aload_n hx hb d_C_bring_140 rfl (lv_at hl 0 rfl) ?_
    refine va_get (D := D) (ci := 2) (v := .ref g.2.2.2.1.1.1) (C := R_C) (T := T_C) (N := 10) hx hb htb i_C hown hK hP 0 rfl rfl 2 (by decide) (htb _ k_C_27) (fun _ h9 => h9) rfl d_C_bring_141 ?_
    refine lv_iload_n hx hb d_C_bring_144 rfl (lv_at hl 1 rfl) ?_
    refine lv_iload_n hx hb d_C_bring_145 rfl (lv_at hl 2 rfl) ?_
    refine cpi (As := [.int p0, .int p1]) (rest := [.ref g.2.2.2.1.1.1]) ⟨hx, hb, hml, hown, htb⟩ (c_B_placeOf l D cI cZ g.2.2.2.1 hg.2.1 u_133.2.1 p0 p1) (cwv (n := 2) htb cd_B_placeOf k_C_180 in_B_placeOf se_B_placeOf ini_B hd_B_placeOf ⟨Nat.le_of_ble_eq_true rfl, Nat.le_of_ble_eq_true rfl⟩) hK hP [1, 2, 3, 4, 5, 6] rfl (ci := 0) rfl rfl rfl hl.1 rfl (Nat.le_of_ble_eq_true rfl) d_C_bring_146 ⟨Nat.zero_le _, Nat.zero_le _⟩ (fun r_146 hw_146 => ?_)
    have hF := hF.trans (bnd_eq hw_146)
    refine lv_iload_n hx hb d_C_bring_149 rfl (lv_at hl 2 rfl) ?_
    refine lv_iload hx hb d_C_bring_150 (lv_at hl 4 rfl) ?_
    refine lv_iload hx hb d_C_bring_152 (lv_at hl 5 rfl) ?_
    refine lv_iload_n hx hb d_C_bring_154 rfl (lv_at hl 1 rfl) ?_
    refine cwv_ (As := [.int r_146, .int p1, .int v4, .int v5, .int p0]) (rest := []) (wldC := fun u => (wC cI cZ g (u_133.1, u, u_133.2.2.1, u_133.2.2.2.1, u_133.2.2.2.2.1, u_133.2.2.2.2.2))) ⟨hx, hb, hml, hown, htb⟩ (c_B_put l D cI cZ g.2.2.2.1 hg.2.1 u_133.2.1 r_146 p1 v4 v5 p0) (cwv (n := 5) htb cd_B_put k_C_183 in_B_put se_B_put ini_B hd_B_put ⟨Nat.le_of_ble_eq_true rfl, Nat.le_of_ble_eq_true rfl⟩) hK hP hD hS [1, 2, 3, 4, 5, 6] [0, 7, 8, 9, 10, 11, 12, 13, 14, 15, 16, 17, 18] [0, 13, 14, 15, 16, 17, 18, 1, 2, 3, 4, 5, 6, 7, 8, 9, 10, 11, 12] rfl rfl (by decide) (by decide) rfl (fun _ => rfl) (fun _ => rfl) (ci := 0) rfl rfl rfl hl.1 rfl (Nat.le_of_ble_eq_true rfl) d_C_bring_155 ⟨Nat.zero_le _, Nat.zero_le _⟩ (fun u_155 H locs hw_155 hP hD hS => ?_)
    have hP : va_P D vwCl (wC cI cZ g (u_133.1, u_155, u_133.2.2.1, u_133.2.2.2.1, u_133.2.2.2.2.1, u_133.2.2.2.2.2)) H := hP
    have hD : va_D _ (wC cI cZ g (u_133.1, u_155, u_133.2.2.1, u_133.2.2.2.1, u_133.2.2.2.2.1, u_133.2.2.2.2.2)) := hD
    have hF := hF.trans (bnd_eq hw_155)
    have hl := lv_sub (l' := [(0, .ref g.1.1), (1, .int p0), (2, .int p1), (3, .int v3)]) hl [0, 1, 2, 3] rfl
    exact cut_158 v3 (u_133.1, u_155, u_133.2.2.1, u_133.2.2.2.1, u_133.2.2.2.2.1, u_133.2.2.2.2.2) _ _ _ hF hP hD hS hl
  have cut_109 : ∀ (v3 v4 v5 : Int32) (z : Cs) (H : Heap) (locs : List Loc) (ls : Array Slot), M_C_bring g x p0 p1 = L_C_bring_109 g p0 p1 v3 v4 v5 z → va_P D vwCl (wC cI cZ g z) H → va_D (Aw (wC cI cZ g x)) (wC cI cZ g z) → va_S (Aw (wC cI cZ g x)) s.heap H locs → lv_has ls 6 [(0, .ref g.1.1), (1, .int p0), (2, .int p1), (3, .int v3), (4, .int v4), (5, .int v5)] → W p l e (headSpec w_C_bring rm_C_bring).room s m ([.ref g.1.1, .int p0, .int p1] : List Value).toArray below meth c H locs 0 0 (MQ below (va_Qi (fun (r : Int32) (u : Cs) => (r, u) = M_C_bring g x p0 p1) (fun (u : Cs) (t : State) => va_P D vwCl (wC cI cZ g u) t.heap) (Aw (wC cI cZ g x))) ([.ref g.1.1, .int p0, .int p1] : List Value).toArray s 0 0 (Aw (wC cI cZ g x))) (F0 m 109 ls []) := by
    intro v3 v4 v5 z H locs ls hF hP hD hS hl
    have hF := hF.trans (L_C_bring_109_eq g p0 p1 v3 v4 v5 z)
    refine lv_aload_n hx hb d_C_bring_109 rfl (lv_at hl 0 rfl) ?_
    refine va_get (D := D) (ci := 2) (v := .int g.2.1.2) (C := R_C) (T := T_C) (N := 10) hx hb htb i_C hown hK hP 0 rfl rfl 1 (by decide) (htb _ k_C_19) (fun _ h9 => h9) rfl d_C_bring_110 ?_
    refine lv_iconst (v := 1) hx hb d_C_bring_113 (by decide) ?_
    refine lv_icmp_ne (tgt := 130) hx hb d_C_bring_114 (by decide) (fun c_114 => ?_) (fun c_114 => ?_)
    · have hF := hF.trans (if_neg c_114)
      have hl := lv_sub (l' := [(0, .ref g.1.1), (1, .int p0), (2, .int p1), (3, .int v3), (4, .int v4), (5, .int v5)]) hl [0, 1, 2, 3, 4, 5] rfl
      exact cut_130 v3 v4 v5 z _ _ _ hF hP hD hS hl
    · have hF := hF.trans (if_pos c_114)
      refine lv_aload_n hx hb d_C_bring_117 rfl (lv_at hl 0 rfl) ?_
      refine va_get (D := D) (ci := 2) (v := .ref g.2.2.2.2.1.1.1) (C := R_C) (T := T_C) (N := 10) hx hb htb i_C hown hK hP 0 rfl rfl 3 (by decide) (htb _ k_C_31) (fun _ h9 => h9) rfl d_C_bring_118 ?_
      refine lv_iconst (v := 0) hx hb d_C_bring_121 (by decide) ?_
      refine lv_iload_n hx hb d_C_bring_122 rfl (lv_at hl 2 rfl) ?_
      refine cpi (As := [.int (0 : Int32), .int p1]) (rest := []) ⟨hx, hb, hml, hown, htb⟩ (c_B_find l D cI cZ g.2.2.2.2.1 hg.2.2.1 z.2.2.1 (0 : Int32) p1) (cwv (n := 2) htb cd_B_find k_C_72 in_B_find se_B_find ini_B hd_B_find ⟨Nat.le_of_ble_eq_true rfl, Nat.le_of_ble_eq_true rfl⟩) hK hP [7, 8, 9, 10, 11, 12] rfl (ci := 0) rfl rfl rfl hl.1 rfl (Nat.le_of_ble_eq_true rfl) d_C_bring_123 ⟨Nat.zero_le _, Nat.zero_le _⟩ (fun r_123 hw_123 => ?_)
      have hF := hF.trans (bnd_eq hw_123)
      refine lv_iconst (v := -1) hx hb d_C_bring_126 (by decide) ?_
      refine lv_icmp_eq (tgt := 158) hx hb d_C_bring_127 (by decide) (fun c_127 => ?_) (fun c_127 => ?_)
      · have hF := hF.trans (if_pos c_127)
        have hl := lv_sub (l' := [(0, .ref g.1.1), (1, .int p0), (2, .int p1), (3, .int v3)]) hl [0, 1, 2, 3] rfl
        exact cut_158 v3 z _ _ _ hF hP hD hS hl
      · have hF := hF.trans (if_neg c_127)
        have hl := lv_sub (l' := [(0, .ref g.1.1), (1, .int p0), (2, .int p1), (3, .int v3), (4, .int v4), (5, .int v5)]) hl [0, 1, 2, 3, 4, 5] rfl
        exact cut_130 v3 v4 v5 z _ _ _ hF hP hD hS hl
  have cut_36 : ∀ (v3 v4 : Int32) (z : Cs) (H : Heap) (locs : List Loc) (ls : Array Slot), M_C_bring g x p0 p1 = L_C_bring_36 g p0 p1 v3 v4 z → va_P D vwCl (wC cI cZ g z) H → va_D (Aw (wC cI cZ g x)) (wC cI cZ g z) → va_S (Aw (wC cI cZ g x)) s.heap H locs → lv_has ls 6 [(0, .ref g.1.1), (1, .int p0), (2, .int p1), (3, .int v3), (4, .int v4)] → W p l e (headSpec w_C_bring rm_C_bring).room s m ([.ref g.1.1, .int p0, .int p1] : List Value).toArray below meth c H locs 0 0 (MQ below (va_Qi (fun (r : Int32) (u : Cs) => (r, u) = M_C_bring g x p0 p1) (fun (u : Cs) (t : State) => va_P D vwCl (wC cI cZ g u) t.heap) (Aw (wC cI cZ g x))) ([.ref g.1.1, .int p0, .int p1] : List Value).toArray s 0 0 (Aw (wC cI cZ g x))) (F0 m 36 ls []) := by
    intro v3 v4 z H locs ls hF hP hD hS hl
    have hF := hF.trans (L_C_bring_36_eq g p0 p1 v3 v4 z)
    refine lv_iconst (v := 0) hx hb d_C_bring_36 (by decide) ?_
    refine lv_istore (lv' := [(5, .int (0 : Int32)), (0, .ref g.1.1), (1, .int p0), (2, .int p1), (3, .int v3), (4, .int v4)]) hx hb d_C_bring_37 hl (by decide) rfl (fun ls hl => ?_)
    refine lv_iload_n hx hb d_C_bring_39 rfl (lv_at hl 4 rfl) ?_
    refine lv_iconst (v := -1) hx hb d_C_bring_40 (by decide) ?_
    refine lv_icmp_ne (tgt := 72) hx hb d_C_bring_41 (by decide) (fun c_41 => ?_) (fun c_41 => ?_)
    · have hF := hF.trans (if_neg c_41)
      refine lv_aload_n hx hb d_C_bring_72 rfl (lv_at hl 1 rfl) ?_
      refine va_get (D := D) (ci := 2) (v := .int g.2.1.2) (C := R_C) (T := T_C) (N := 10) hx hb htb i_C hown hK hP 0 rfl rfl 1 (by decide) (htb _ k_C_19) (fun _ h9 => h9) rfl d_C_bring_73 ?_
      refine lv_iconst (v := 2) hx hb d_C_bring_76 (by decide) ?_
      refine lv_icmp_ne (tgt := 101) hx hb d_C_bring_77 (by decide) (fun c_77 => ?_) (fun c_77 => ?_)
      · have hF := hF.trans (if_neg c_77)
        refine lv_aload_n hx hb d_C_bring_101 rfl (lv_at hl 1 rfl) ?_
        refine va_get (D := D) (ci := 2) (v := .ref g.2.2.2.2.1.1.1) (C := R_C) (T := T_C) (N := 10) hx hb htb i_C hown hK hP 0 rfl rfl 3 (by decide) (htb _ k_C_31) (fun _ h9 => h9) rfl d_C_bring_102 ?_
        refine lv_iload_n hx hb d_C_bring_105 rfl (lv_at hl 4 rfl) ?_
        refine cwv_ (As := [.int v3]) (rest := []) (wldC := fun u => (wC cI cZ g (z.1, z.2.1, u, z.2.2.2.1, z.2.2.2.2.1, z.2.2.2.2.2))) ⟨hx, hb, hml, hown, htb⟩ (c_B_useLast l D cI cZ g.2.2.2.2.1 hg.2.2.1 z.2.2.1 v3) (cwv (n := 1) htb cd_B_useLast k_C_75 in_B_useLast se_B_useLast ini_B hd_B_useLast ⟨Nat.le_of_ble_eq_true rfl, Nat.le_of_ble_eq_true rfl⟩) hK hP hD hS [7, 8, 9, 10, 11, 12] [0, 1, 2, 3, 4, 5, 6, 13, 14, 15, 16, 17, 18] [0, 1, 2, 3, 4, 5, 6, 13, 14, 15, 16, 17, 18, 7, 8, 9, 10, 11, 12] rfl rfl (by decide) (by decide) rfl (fun _ => rfl) (fun _ => rfl) (ci := 0) rfl rfl rfl hl.1 rfl (Nat.le_of_ble_eq_true rfl) d_C_bring_106 ⟨Nat.zero_le _, Nat.zero_le _⟩ (fun u_106 H locs hw_106 hP hD hS => ?_)
        have hP : va_P D vwCl (wC cI cZ g (z.1, z.2.1, u_106, z.2.2.2.1, z.2.2.2.2.1, z.2.2.2.2.2)) H := hP
        have hD : va_D _ (wC cI cZ g (z.1, z.2.1, u_106, z.2.2.2.1, z.2.2.2.2.1, z.2.2.2.2.2)) := hD
        have hF := hF.trans (bnd_eq hw_106)
        have hl := lv_sub (l' := [(0, .ref g.1.1), (1, .int p0), (2, .int p1), (3, .int v3), (4, .int v4), (5, .int (0 : Int32))]) hl [1, 2, 3, 4, 5, 0] rfl
        exact cut_109 v3 v4 (0 : Int32) (z.1, z.2.1, u_106, z.2.2.2.1, z.2.2.2.2.1, z.2.2.2.2.2) _ _ _ hF hP hD hS hl
      · have hF := hF.trans (if_pos c_77)
        refine lv_aload_n hx hb d_C_bring_80 rfl (lv_at hl 1 rfl) ?_
        refine va_get (D := D) (ci := 2) (v := .ref g.2.2.2.2.1.1.1) (C := R_C) (T := T_C) (N := 10) hx hb htb i_C hown hK hP 0 rfl rfl 3 (by decide) (htb _ k_C_31) (fun _ h9 => h9) rfl d_C_bring_81 ?_
        refine lv_iload_n hx hb d_C_bring_84 rfl (lv_at hl 4 rfl) ?_
        refine cpi (As := [.int v3]) (rest := []) ⟨hx, hb, hml, hown, htb⟩ (c_B_isWritten l D cI cZ g.2.2.2.2.1 hg.2.2.1 z.2.2.1 v3) (cwv (n := 1) htb cd_B_isWritten k_C_96 in_B_isWritten se_B_isWritten ini_B hd_B_isWritten ⟨Nat.le_of_ble_eq_true rfl, Nat.le_of_ble_eq_true rfl⟩) hK hP [7, 8, 9, 10, 11, 12] rfl (ci := 0) rfl rfl rfl hl.1 rfl (Nat.le_of_ble_eq_true rfl) d_C_bring_85 ⟨Nat.zero_le _, Nat.zero_le _⟩ (fun r_85 hw_85 => ?_)
        have hF := hF.trans (bnd_eq hw_85)
        refine lv_istore (lv' := [(5, .int r_85), (0, .ref g.1.1), (1, .int p0), (2, .int p1), (3, .int v3), (4, .int v4)]) hx hb d_C_bring_88 hl (by decide) rfl (fun ls hl => ?_)
        refine lv_aload_n hx hb d_C_bring_90 rfl (lv_at hl 1 rfl) ?_
        refine va_get (D := D) (ci := 2) (v := .ref g.2.2.2.2.1.1.1) (C := R_C) (T := T_C) (N := 10) hx hb htb i_C hown hK hP 0 rfl rfl 3 (by decide) (htb _ k_C_31) (fun _ h9 => h9) rfl d_C_bring_91 ?_
        refine lv_iload_n hx hb d_C_bring_94 rfl (lv_at hl 4 rfl) ?_
        refine cwv_ (As := [.int v3]) (rest := []) (wldC := fun u => (wC cI cZ g (z.1, z.2.1, u, z.2.2.2.1, z.2.2.2.2.1, z.2.2.2.2.2))) ⟨hx, hb, hml, hown, htb⟩ (c_B_drop l D cI cZ g.2.2.2.2.1 hg.2.2.1 z.2.2.1 v3) (cwv (n := 1) htb cd_B_drop k_C_174 in_B_drop se_B_drop ini_B hd_B_drop ⟨Nat.le_of_ble_eq_true rfl, Nat.le_of_ble_eq_true rfl⟩) hK hP hD hS [7, 8, 9, 10, 11, 12] [0, 1, 2, 3, 4, 5, 6, 13, 14, 15, 16, 17, 18] [0, 1, 2, 3, 4, 5, 6, 13, 14, 15, 16, 17, 18, 7, 8, 9, 10, 11, 12] rfl rfl (by decide) (by decide) rfl (fun _ => rfl) (fun _ => rfl) (ci := 0) rfl rfl rfl hl.1 rfl (Nat.le_of_ble_eq_true rfl) d_C_bring_95 ⟨Nat.zero_le _, Nat.zero_le _⟩ (fun u_95 H locs hw_95 hP hD hS => ?_)
        have hP : va_P D vwCl (wC cI cZ g (z.1, z.2.1, u_95, z.2.2.2.1, z.2.2.2.2.1, z.2.2.2.2.2)) H := hP
        have hD : va_D _ (wC cI cZ g (z.1, z.2.1, u_95, z.2.2.2.1, z.2.2.2.2.1, z.2.2.2.2.2)) := hD
        have hF := hF.trans (bnd_eq hw_95)
        refine lv_goto (tgt := 109) hx hb d_C_bring_98 (by decide) ?_
        have hl := lv_sub (l' := [(0, .ref g.1.1), (1, .int p0), (2, .int p1), (3, .int v3), (4, .int v4), (5, .int r_85)]) hl [1, 2, 3, 4, 5, 0] rfl
        exact cut_109 v3 v4 r_85 (z.1, z.2.1, u_95, z.2.2.2.1, z.2.2.2.2.1, z.2.2.2.2.2) _ _ _ hF hP hD hS hl
    · have hF := hF.trans (if_pos c_41)
      refine lv_aload_n hx hb d_C_bring_44 rfl (lv_at hl 1 rfl) ?_
      refine va_get (D := D) (ci := 2) (v := .int g.2.1.2) (C := R_C) (T := T_C) (N := 10) hx hb htb i_C hown hK hP 0 rfl rfl 1 (by decide) (htb _ k_C_19) (fun _ h9 => h9) rfl d_C_bring_45 ?_
      refine lv_iconst (v := 2) hx hb d_C_bring_48 (by decide) ?_
      refine lv_icmp_eq (tgt := 109) hx hb d_C_bring_49 (by decide) (fun c_49 => ?_) (fun c_49 => ?_)
      · have hF := hF.trans (if_pos c_49)
        have hl := lv_sub (l' := [(0, .ref g.1.1), (1, .int p0), (2, .int p1), (3, .int v3), (4, .int v4), (5, .int (0 : Int32))]) hl [1, 2, 3, 4, 5, 0] rfl
        exact cut_109 v3 v4 (0 : Int32) z _ _ _ hF hP hD hS hl
      · have hF := hF.trans (if_neg c_49)
        refine lv_aload_n hx hb d_C_bring_52 rfl (lv_at hl 1 rfl) ?_
        refine lv_iload_n hx hb d_C_bring_53 rfl (lv_at hl 3 rfl) ?_
        refine cpi (As := [.int p1]) (rest := []) ⟨hx, hb, hml, hown, htb⟩ (c_C_passesBy l D cI cZ g hg z p1) (cwv (n := 1) htb cd_C_passesBy k_C_167 in_C_passesBy se_C_passesBy ini_C hd_C_passesBy ⟨Nat.le_of_ble_eq_true rfl, Nat.le_of_ble_eq_true rfl⟩) hK hP [0, 1, 2, 3, 4, 5, 6, 7, 8, 9, 10, 11, 12, 13, 14, 15, 16, 17, 18] rfl (ci := 2) rfl rfl rfl hl.1 rfl (Nat.le_of_ble_eq_true rfl) d_C_bring_54 ⟨Nat.zero_le _, Nat.zero_le _⟩ (fun r_54 hw_54 => ?_)
        have hF := hF.trans (bnd_eq hw_54)
        refine lv_if_ne (tgt := 109) hx hb d_C_bring_57 (by decide) (fun c_57 => ?_) (fun c_57 => ?_)
        · have hF := hF.trans (if_neg c_57)
          have hl := lv_sub (l' := [(0, .ref g.1.1), (1, .int p0), (2, .int p1), (3, .int v3), (4, .int v4), (5, .int (0 : Int32))]) hl [1, 2, 3, 4, 5, 0] rfl
          exact cut_109 v3 v4 (0 : Int32) z _ _ _ hF hP hD hS hl
        · have hF := hF.trans (if_pos c_57)
          refine lv_aload_n hx hb d_C_bring_60 rfl (lv_at hl 1 rfl) ?_
          refine lv_iload_n hx hb d_C_bring_61 rfl (lv_at hl 2 rfl) ?_
          refine lv_iload_n hx hb d_C_bring_62 rfl (lv_at hl 3 rfl) ?_
          refine lv_iload hx hb d_C_bring_63 (lv_at hl 5 rfl) ?_
          refine lv_iconst (v := 0) hx hb d_C_bring_65 (by decide) ?_
          refine cwv_ (As := [.int p0, .int p1, .int v4, .int (0 : Int32)]) (rest := []) (wldC := fun u => (wC cI cZ g u)) ⟨hx, hb, hml, hown, htb⟩ (c_C_comeIntoSecond l D cI cZ g hg z p0 p1 v4 (0 : Int32)) (cwv (n := 4) htb cd_C_comeIntoSecond k_C_170 in_C_comeIntoSecond se_C_comeIntoSecond ini_C hd_C_comeIntoSecond ⟨Nat.le_of_ble_eq_true rfl, Nat.le_of_ble_eq_true rfl⟩) hK hP hD hS [0, 1, 2, 3, 4, 5, 6, 7, 8, 9, 10, 11, 12, 13, 14, 15, 16, 17, 18] [] [0, 1, 2, 3, 4, 5, 6, 7, 8, 9, 10, 11, 12, 13, 14, 15, 16, 17, 18] rfl rfl (by decide) (by decide) rfl (fun _ => rfl) (fun _ => rfl) (ci := 2) rfl rfl rfl hl.1 rfl (Nat.le_of_ble_eq_true rfl) d_C_bring_66 ⟨Nat.zero_le _, Nat.zero_le _⟩ (fun u_66 H locs hw_66 hP hD hS => ?_)
          have hP : va_P D vwCl (wC cI cZ g u_66) H := hP
          have hD : va_D _ (wC cI cZ g u_66) := hD
          have hF := hF.trans (bnd_eq hw_66)
          refine lv_goto (tgt := 109) hx hb d_C_bring_69 (by decide) ?_
          have hl := lv_sub (l' := [(0, .ref g.1.1), (1, .int p0), (2, .int p1), (3, .int v3), (4, .int v4), (5, .int (0 : Int32))]) hl [1, 2, 3, 4, 5, 0] rfl
          exact cut_109 v3 v4 (0 : Int32) u_66 _ _ _ hF hP hD hS hl
  have hl := lv_entry ([.ref g.1.1, .int p0, .int p1]) (n := 6) (Nat.le_of_ble_eq_true rfl)
  rw [lg_entry_eq]
  generalize (lg_sl ([.ref g.1.1, .int p0, .int p1]) ++ List.replicate (6 - (lg_sl ([.ref g.1.1, .int p0, .int p1])).length) Slot.unset).toArray = ls at hl ⊢
  have hl : lv_has ls 6 [(0, .ref g.1.1), (1, .int p0), (2, .int p1)] := hl
  have hF := M_C_bring_eq g x p0 p1
  refine lv_aload_n hx hb d_C_bring_0 rfl (lv_at hl 0 rfl) ?_
  refine va_get (D := D) (ci := 2) (v := .ref g.2.2.2.2.1.1.1) (C := R_C) (T := T_C) (N := 10) hx hb htb i_C hown hK hP 0 rfl rfl 3 (by decide) (htb _ k_C_31) (fun _ h9 => h9) rfl d_C_bring_1 ?_
  refine lv_iconst (v := 0) hx hb d_C_bring_4 (by decide) ?_
  refine lv_iload_n hx hb d_C_bring_5 rfl (lv_at hl 2 rfl) ?_
  refine cpi (As := [.int (0 : Int32), .int p1]) (rest := []) ⟨hx, hb, hml, hown, htb⟩ (c_B_find l D cI cZ g.2.2.2.2.1 hg.2.2.1 x.2.2.1 (0 : Int32) p1) (cwv (n := 2) htb cd_B_find k_C_72 in_B_find se_B_find ini_B hd_B_find ⟨Nat.le_of_ble_eq_true rfl, Nat.le_of_ble_eq_true rfl⟩) hK hP [7, 8, 9, 10, 11, 12] rfl (ci := 0) rfl rfl rfl hl.1 rfl (Nat.le_of_ble_eq_true rfl) d_C_bring_6 ⟨Nat.zero_le _, Nat.zero_le _⟩ (fun r_6 hw_6 => ?_)
  have hF := hF.trans (bnd_eq hw_6)
  refine lv_istore_n (lv' := [(3, .int r_6), (0, .ref g.1.1), (1, .int p0), (2, .int p1)]) hx hb d_C_bring_9 rfl hl (by decide) rfl (fun ls hl => ?_)
  refine lv_iload_n hx hb d_C_bring_10 rfl (lv_at hl 0 rfl) ?_
  refine lv_iconst (v := -1) hx hb d_C_bring_11 (by decide) ?_
  refine lv_icmp_eq (tgt := 26) hx hb d_C_bring_12 (by decide) (fun c_12 => ?_) (fun c_12 => ?_)
  · have hF := hF.trans (if_pos c_12)
    refine lv_aload_n hx hb d_C_bring_26 rfl (lv_at hl 1 rfl) ?_
    refine va_get (D := D) (ci := 2) (v := .ref g.2.2.2.2.2.1.1) (C := R_C) (T := T_C) (N := 10) hx hb htb i_C hown hK hP 0 rfl rfl 4 (by decide) (htb _ k_C_37) (fun _ h9 => h9) rfl d_C_bring_27 ?_
    refine lv_iload_n hx hb d_C_bring_30 rfl (lv_at hl 3 rfl) ?_
    refine cpi (As := [.int p1]) (rest := []) ⟨hx, hb, hml, hown, htb⟩ (c_V_inMemory l D cI cZ g.2.2.2.2.2 hg.2.2.2 x.2.2.2.1 p1) (cwv (n := 1) htb cd_V_inMemory k_C_126 in_V_inMemory se_V_inMemory ini_V hd_V_inMemory ⟨Nat.le_of_ble_eq_true rfl, Nat.le_of_ble_eq_true rfl⟩) hK hP [13, 14, 15, 16] rfl (ci := 1) rfl rfl rfl hl.1 rfl (Nat.le_of_ble_eq_true rfl) d_C_bring_31 ⟨Nat.zero_le _, Nat.zero_le _⟩ (fun r_31 hw_31 => ?_)
    have hF := hF.trans (bnd_eq hw_31)
    refine lv_istore (lv' := [(4, .int r_31), (3, .int r_6), (0, .ref g.1.1), (1, .int p0), (2, .int p1)]) hx hb d_C_bring_34 hl (by decide) rfl (fun ls hl => ?_)
    have hl := lv_sub (l' := [(0, .ref g.1.1), (1, .int p0), (2, .int p1), (3, .int r_6), (4, .int r_31)]) hl [2, 3, 4, 1, 0] rfl
    exact cut_36 r_6 r_31 x _ _ _ hF hP hD hS hl
  · have hF := hF.trans (if_neg c_12)
    refine lv_aload_n hx hb d_C_bring_15 rfl (lv_at hl 1 rfl) ?_
    refine va_get (D := D) (ci := 2) (v := .ref g.2.2.2.2.1.1.1) (C := R_C) (T := T_C) (N := 10) hx hb htb i_C hown hK hP 0 rfl rfl 3 (by decide) (htb _ k_C_31) (fun _ h9 => h9) rfl d_C_bring_16 ?_
    refine lv_iload_n hx hb d_C_bring_19 rfl (lv_at hl 0 rfl) ?_
    refine cpi (As := [.int r_6]) (rest := []) ⟨hx, hb, hml, hown, htb⟩ (c_B_versionAt l D cI cZ g.2.2.2.2.1 hg.2.2.1 x.2.2.1 r_6) (cwv (n := 1) htb cd_B_versionAt k_C_107 in_B_versionAt se_B_versionAt ini_B hd_B_versionAt ⟨Nat.le_of_ble_eq_true rfl, Nat.le_of_ble_eq_true rfl⟩) hK hP [7, 8, 9, 10, 11, 12] rfl (ci := 0) rfl rfl rfl hl.1 rfl (Nat.le_of_ble_eq_true rfl) d_C_bring_20 ⟨Nat.zero_le _, Nat.zero_le _⟩ (fun r_20 hw_20 => ?_)
    have hF := hF.trans (bnd_eq hw_20)
    refine lv_goto (tgt := 34) hx hb d_C_bring_23 (by decide) ?_
    refine lv_istore (lv' := [(4, .int r_20), (3, .int r_6), (0, .ref g.1.1), (1, .int p0), (2, .int p1)]) hx hb d_C_bring_34 hl (by decide) rfl (fun ls hl => ?_)
    have hl := lv_sub (l' := [(0, .ref g.1.1), (1, .int p0), (2, .int p1), (3, .int r_6), (4, .int r_20)]) hl [2, 3, 4, 1, 0] rfl
    exact cut_36 r_6 r_20 x _ _ _ hF hP hD hS hl

def L_C_write_81 (g : GC) (p0 p1 : Int32) (z : Cs) : Cs := (bnd2 (M_V_makeNext g.2.2.2.2.2 z.2.2.2.1 p1) (fun r_86 u_86 => (bnd (M_B_find g.2.2.2.1 z.2.1 p0 p1) (fun r_96 => (if r_96 = (-1 : Int32) then (bnd (M_V_writeBack g.2.2.2.2.2 u_86 p1 r_86) (fun u_113 => (z.1, z.2.1, z.2.2.1, u_113, z.2.2.2.2.1, z.2.2.2.2.2))) else (bnd (M_B_rewrite g.2.2.2.1 z.2.1 r_96 r_86) (fun u_126 => (z.1, u_126, z.2.2.1, u_86, z.2.2.2.2.1, z.2.2.2.2.2))))))))
theorem L_C_write_81_eq (g : GC) (p0 p1 : Int32) (z : Cs) : L_C_write_81 g p0 p1 z = (bnd2 (M_V_makeNext g.2.2.2.2.2 z.2.2.2.1 p1) (fun r_86 u_86 => (bnd (M_B_find g.2.2.2.1 z.2.1 p0 p1) (fun r_96 => (if r_96 = (-1 : Int32) then (bnd (M_V_writeBack g.2.2.2.2.2 u_86 p1 r_86) (fun u_113 => (z.1, z.2.1, z.2.2.1, u_113, z.2.2.2.2.1, z.2.2.2.2.2))) else (bnd (M_B_rewrite g.2.2.2.1 z.2.1 r_96 r_86) (fun u_126 => (z.1, u_126, z.2.2.1, u_86, z.2.2.2.2.1, z.2.2.2.2.2)))))))) := rfl
def L_C_write_2 (g : GC) (p0 p1 : Int32) : Nat → Int32 → Cs → Cs
  | 0, _, z => z
  | n + 1, v3, z => (if g.2.1.1 ≤ v3 then (if g.2.1.2 = (2 : Int32) then (bnd (M_B_find g.2.2.2.2.1 z.2.2.1 (0 : Int32) p1) (fun r_75 => (bnd (M_B_drop g.2.2.2.2.1 z.2.2.1 r_75) (fun u_78 => L_C_write_81 g p0 p1 (z.1, z.2.1, u_78, z.2.2.2.1, z.2.2.2.2.1, z.2.2.2.2.2))))) else L_C_write_81 g p0 p1 z) else (if v3 = p0 then (if (-1 : Int32) = (-1 : Int32) then L_C_write_2 g p0 p1 n (v3 + 1) z else (bnd (M_B_drop g.2.2.2.1 z.2.1 (-1 : Int32)) (fun u_42 => (bnd (M_C_tally g (z.1, u_42, z.2.2.1, z.2.2.2.1, z.2.2.2.2.1, z.2.2.2.2.2) v3 (5 : Int32)) (fun u_48 => L_C_write_2 g p0 p1 n (v3 + 1) u_48))))) else (bnd (M_B_find g.2.2.2.1 z.2.1 v3 p1) (fun r_25 => (if r_25 = (-1 : Int32) then L_C_write_2 g p0 p1 n (v3 + 1) z else (bnd (M_B_drop g.2.2.2.1 z.2.1 r_25) (fun u_42 => (bnd (M_C_tally g (z.1, u_42, z.2.2.1, z.2.2.2.1, z.2.2.2.2.1, z.2.2.2.2.2) v3 (5 : Int32)) (fun u_48 => L_C_write_2 g p0 p1 n (v3 + 1) u_48)))))))))
theorem L_C_write_2_eq (g : GC) (p0 p1 : Int32) (n : Nat) (v3 : Int32) (z : Cs) : L_C_write_2 g p0 p1 (n + 1) v3 z = (if g.2.1.1 ≤ v3 then (if g.2.1.2 = (2 : Int32) then (bnd (M_B_find g.2.2.2.2.1 z.2.2.1 (0 : Int32) p1) (fun r_75 => (bnd (M_B_drop g.2.2.2.2.1 z.2.2.1 r_75) (fun u_78 => L_C_write_81 g p0 p1 (z.1, z.2.1, u_78, z.2.2.2.1, z.2.2.2.2.1, z.2.2.2.2.2))))) else L_C_write_81 g p0 p1 z) else (if v3 = p0 then (if (-1 : Int32) = (-1 : Int32) then L_C_write_2 g p0 p1 n (v3 + 1) z else (bnd (M_B_drop g.2.2.2.1 z.2.1 (-1 : Int32)) (fun u_42 => (bnd (M_C_tally g (z.1, u_42, z.2.2.1, z.2.2.2.1, z.2.2.2.2.1, z.2.2.2.2.2) v3 (5 : Int32)) (fun u_48 => L_C_write_2 g p0 p1 n (v3 + 1) u_48))))) else (bnd (M_B_find g.2.2.2.1 z.2.1 v3 p1) (fun r_25 => (if r_25 = (-1 : Int32) then L_C_write_2 g p0 p1 n (v3 + 1) z else (bnd (M_B_drop g.2.2.2.1 z.2.1 r_25) (fun u_42 => (bnd (M_C_tally g (z.1, u_42, z.2.2.1, z.2.2.2.1, z.2.2.2.2.1, z.2.2.2.2.2) v3 (5 : Int32)) (fun u_48 => L_C_write_2 g p0 p1 n (v3 + 1) u_48))))))))) := by first | rfl | rw [L_C_write_2]
def M_C_write (g : GC) (x : Cs) (p0 p1 : Int32) : Cs := L_C_write_2 g p0 p1 (mu (0 : Int32) g.2.1.1 + 1) (0 : Int32) x
theorem M_C_write_eq (g : GC) (x : Cs) (p0 p1 : Int32) : M_C_write g x p0 p1 = L_C_write_2 g p0 p1 (mu (0 : Int32) g.2.1.1 + 1) (0 : Int32) x := rfl
abbrev w_C_write : List Cond := .code y_C_write b_C_write 5 none :: tbW
abbrev rm_C_write : Room := { frames := 3, cells := 0, slots := 0, locals := 71 }
set_option maxHeartbeats 4000000 in
set_option maxRecDepth 100000 in
theorem c_C_write (l : Launch) (D : va_G) (cI cZ : ClassId) (g : GC) (hg : okC g) (x : Cs) (p0 p1 : Int32) : Met l y_C_write w_C_write rm_C_write (PcW D vwCl (tyK cI cZ) [.ref g.1.1, .int p0, .int p1] (wC cI cZ g x)) (va_Qv (fun (u : Cs) => u = M_C_write g x p0 p1) (fun (u : Cs) (t : State) => va_P D vwCl (wC cI cZ g u) t.heap) (Aw (wC cI cZ g x))) 0 0 (Aw (wC cI cZ g x)) := by
  refine Met.ofW (cc := b_C_write) (maxL := 5) (ret := none) (by decide) rfl ?_
  intro p e s m args below meth c s₁ B hml hv
  obtain ⟨rfl, hP, hK, hD0⟩ := hv
  have hx := B.exec
  have hb := B.bytes
  have hr := B.returns
  have htb : ∀ w ∈ tbW, w.before _ s = true := fun w h => atoms_spec (ws := w_C_write) B.pre w (List.mem_cons_of_mem _ h)
  have hown : s.vm.findClass R_C = some m.cls := findClass_of_methodNamed B.named
  have hlocks := B.notSynchronized
  have hD : va_D (Aw (wC cI cZ g x)) (wC cI cZ g x) := ⟨hD0.1, fun k q hk => ⟨k, q.2, hk⟩⟩
  have hS : va_S (Aw (wC cI cZ g x)) s.heap s.heap [] := va_S.rf
  have cut_81 : ∀ (z : Cs) (H : Heap) (locs : List Loc) (ls : Array Slot), M_C_write g x p0 p1 = L_C_write_81 g p0 p1 z → va_P D vwCl (wC cI cZ g z) H → va_D (Aw (wC cI cZ g x)) (wC cI cZ g z) → va_S (Aw (wC cI cZ g x)) s.heap H locs → lv_has ls 5 [(0, .ref g.1.1), (1, .int p0), (2, .int p1)] → W p l e (headSpec w_C_write rm_C_write).room s m ([.ref g.1.1, .int p0, .int p1] : List Value).toArray below meth c H locs 0 0 (MQ below (va_Qv (fun (u : Cs) => u = M_C_write g x p0 p1) (fun (u : Cs) (t : State) => va_P D vwCl (wC cI cZ g u) t.heap) (Aw (wC cI cZ g x))) ([.ref g.1.1, .int p0, .int p1] : List Value).toArray s 0 0 (Aw (wC cI cZ g x))) (F0 m 81 ls []) := by
    intro z H locs ls hF hP hD hS hl
    have hF := hF.trans (L_C_write_81_eq g p0 p1 z)
    refine lv_aload_n hx hb d_C_write_81 rfl (lv_at hl 0 rfl) ?_
    refine va_get (D := D) (ci := 2) (v := .ref g.2.2.2.2.2.1.1) (C := R_C) (T := T_C) (N := 10) hx hb htb i_C hown hK hP 0 rfl rfl 4 (by decide) (htb _ k_C_37) (fun _ h9 => h9) rfl d_C_write_82 ?_
    refine lv_iload_n hx hb d_C_write_85 rfl (lv_at hl 2 rfl) ?_
    refine cwi (As := [.int p1]) (rest := []) (wldC := fun u => (wC cI cZ g (z.1, z.2.1, z.2.2.1, u, z.2.2.2.2.1, z.2.2.2.2.2))) ⟨hx, hb, hml, hown, htb⟩ (c_V_makeNext l D cI cZ g.2.2.2.2.2 hg.2.2.2 z.2.2.2.1 p1) (cwv (n := 1) htb cd_V_makeNext k_C_187 in_V_makeNext se_V_makeNext ini_V hd_V_makeNext ⟨Nat.le_of_ble_eq_true rfl, Nat.le_of_ble_eq_true rfl⟩) hK hP hD hS [13, 14, 15, 16] [0, 1, 2, 3, 4, 5, 6, 7, 8, 9, 10, 11, 12, 17, 18] [0, 1, 2, 3, 4, 5, 6, 7, 8, 9, 10, 11, 12, 15, 16, 17, 18, 13, 14] rfl rfl (by decide) (by decide) rfl (fun _ => rfl) (fun _ => rfl) (ci := 1) rfl rfl rfl hl.1 rfl (Nat.le_of_ble_eq_true rfl) d_C_write_86 ⟨Nat.zero_le _, Nat.zero_le _⟩ (fun r_86 u_86 H locs hw_86 hP hD hS => ?_)
    have hP : va_P D vwCl (wC cI cZ g (z.1, z.2.1, z.2.2.1, u_86, z.2.2.2.2.1, z.2.2.2.2.2)) H := hP
    have hD : va_D _ (wC cI cZ g (z.1, z.2.1, z.2.2.1, u_86, z.2.2.2.2.1, z.2.2.2.2.2)) := hD
    have hF := hF.trans (bnd2_eq hw_86)
    refine lv_istore_n (lv' := [(3, .int r_86), (0, .ref g.1.1), (1, .int p0), (2, .int p1)]) hx hb d_C_write_89 rfl hl (by decide) rfl (fun ls hl => ?_)
    refine lv_aload_n hx hb d_C_write_90 rfl (lv_at hl 1 rfl) ?_
    refine va_get (D := D) (ci := 2) (v := .ref g.2.2.2.1.1.1) (C := R_C) (T := T_C) (N := 10) hx hb htb i_C hown hK hP 0 rfl rfl 2 (by decide) (htb _ k_C_27) (fun _ h9 => h9) rfl d_C_write_91 ?_
    refine lv_iload_n hx hb d_C_write_94 rfl (lv_at hl 2 rfl) ?_
    refine lv_iload_n hx hb d_C_write_95 rfl (lv_at hl 3 rfl) ?_
    refine cpi (As := [.int p0, .int p1]) (rest := []) ⟨hx, hb, hml, hown, htb⟩ (c_B_find l D cI cZ g.2.2.2.1 hg.2.1 z.2.1 p0 p1) (cwv (n := 2) htb cd_B_find k_C_72 in_B_find se_B_find ini_B hd_B_find ⟨Nat.le_of_ble_eq_true rfl, Nat.le_of_ble_eq_true rfl⟩) hK hP [1, 2, 3, 4, 5, 6] rfl (ci := 0) rfl rfl rfl hl.1 rfl (Nat.le_of_ble_eq_true rfl) d_C_write_96 ⟨Nat.zero_le _, Nat.zero_le _⟩ (fun r_96 hw_96 => ?_)
    have hF := hF.trans (bnd_eq hw_96)
    refine lv_istore (lv' := [(4, .int r_96), (3, .int r_86), (0, .ref g.1.1), (1, .int p0), (2, .int p1)]) hx hb d_C_write_99 hl (by decide) rfl (fun ls hl => ?_)
    refine lv_iload hx hb d_C_write_101 (lv_at hl 0 rfl) ?_
    refine lv_iconst (v := -1) hx hb d_C_write_103 (by decide) ?_
    refine lv_icmp_ne (tgt := 119) hx hb d_C_write_104 (by decide) (fun c_104 => ?_) (fun c_104 => ?_)
    · have hF := hF.trans (if_neg c_104)
      refine lv_aload_n hx hb d_C_write_119 rfl (lv_at hl 2 rfl) ?_
      refine va_get (D := D) (ci := 2) (v := .ref g.2.2.2.1.1.1) (C := R_C) (T := T_C) (N := 10) hx hb htb i_C hown hK hP 0 rfl rfl 2 (by decide) (htb _ k_C_27) (fun _ h9 => h9) rfl d_C_write_120 ?_
      refine lv_iload hx hb d_C_write_123 (lv_at hl 0 rfl) ?_
      refine lv_iload_n hx hb d_C_write_125 rfl (lv_at hl 1 rfl) ?_
      refine cwv_ (As := [.int r_96, .int r_86]) (rest := []) (wldC := fun u => (wC cI cZ g (z.1, u, z.2.2.1, u_86, z.2.2.2.2.1, z.2.2.2.2.2))) ⟨hx, hb, hml, hown, htb⟩ (c_B_rewrite l D cI cZ g.2.2.2.1 hg.2.1 z.2.1 r_96 r_86) (cwv (n := 2) htb cd_B_rewrite k_C_164 in_B_rewrite se_B_rewrite ini_B hd_B_rewrite ⟨Nat.le_of_ble_eq_true rfl, Nat.le_of_ble_eq_true rfl⟩) hK hP hD hS [1, 2, 3, 4, 5, 6] [0, 7, 8, 9, 10, 11, 12, 13, 14, 15, 16, 17, 18] [0, 13, 14, 15, 16, 17, 18, 1, 2, 3, 4, 5, 6, 7, 8, 9, 10, 11, 12] rfl rfl (by decide) (by decide) rfl (fun _ => rfl) (fun _ => rfl) (ci := 0) rfl rfl rfl hl.1 rfl (Nat.le_of_ble_eq_true rfl) d_C_write_126 ⟨Nat.zero_le _, Nat.zero_le _⟩ (fun u_126 H locs hw_126 hP hD hS => ?_)
      have hP : va_P D vwCl (wC cI cZ g (z.1, u_126, z.2.2.1, u_86, z.2.2.2.2.1, z.2.2.2.2.2)) H := hP
      have hD : va_D _ (wC cI cZ g (z.1, u_126, z.2.2.1, u_86, z.2.2.2.2.1, z.2.2.2.2.2)) := hD
      have hF := hF.trans (bnd_eq hw_126)
      exact W.vret hx hb hr (fun t ht hW => ⟨⟨(z.1, u_126, z.2.2.1, u_86, z.2.2.2.2.1, z.2.2.2.2.2), rfl, hF.symm, by dsimp only; rw [ht]; exact hP⟩, hS.F ht⟩) hS.2.2 d_C_write_129
    · have hF := hF.trans (if_pos c_104)
      refine lv_aload_n hx hb d_C_write_107 rfl (lv_at hl 2 rfl) ?_
      refine va_get (D := D) (ci := 2) (v := .ref g.2.2.2.2.2.1.1) (C := R_C) (T := T_C) (N := 10) hx hb htb i_C hown hK hP 0 rfl rfl 4 (by decide) (htb _ k_C_37) (fun _ h9 => h9) rfl d_C_write_108 ?_
      refine lv_iload_n hx hb d_C_write_111 rfl (lv_at hl 4 rfl) ?_
      refine lv_iload_n hx hb d_C_write_112 rfl (lv_at hl 1 rfl) ?_
      refine cwv_ (As := [.int p1, .int r_86]) (rest := []) (wldC := fun u => (wC cI cZ g (z.1, z.2.1, z.2.2.1, u, z.2.2.2.2.1, z.2.2.2.2.2))) ⟨hx, hb, hml, hown, htb⟩ (c_V_writeBack l D cI cZ g.2.2.2.2.2 hg.2.2.2 u_86 p1 r_86) (cwv (n := 2) htb cd_V_writeBack k_C_110 in_V_writeBack se_V_writeBack ini_V hd_V_writeBack ⟨Nat.le_of_ble_eq_true rfl, Nat.le_of_ble_eq_true rfl⟩) hK hP hD hS [13, 14, 15, 16] [0, 1, 2, 3, 4, 5, 6, 7, 8, 9, 10, 11, 12, 17, 18] [0, 1, 2, 3, 4, 5, 6, 7, 8, 9, 10, 11, 12, 15, 16, 17, 18, 13, 14] rfl rfl (by decide) (by decide) rfl (fun _ => rfl) (fun _ => rfl) (ci := 1) rfl rfl rfl hl.1 rfl (Nat.le_of_ble_eq_true rfl) d_C_write_113 ⟨Nat.zero_le _, Nat.zero_le _⟩ (fun u_113 H locs hw_113 hP hD hS => ?_)
      have hP : va_P D vwCl (wC cI cZ g (z.1, z.2.1, z.2.2.1, u_113, z.2.2.2.2.1, z.2.2.2.2.2)) H := hP
      have hD : va_D _ (wC cI cZ g (z.1, z.2.1, z.2.2.1, u_113, z.2.2.2.2.1, z.2.2.2.2.2)) := hD
      have hF := hF.trans (bnd_eq hw_113)
      refine lv_goto (tgt := 129) hx hb d_C_write_116 (by decide) ?_
      exact W.vret hx hb hr (fun t ht hW => ⟨⟨(z.1, z.2.1, z.2.2.1, u_113, z.2.2.2.2.1, z.2.2.2.2.2), rfl, hF.symm, by dsimp only; rw [ht]; exact hP⟩, hS.F ht⟩) hS.2.2 d_C_write_129
  have cut_2 : ∀ (n : Nat) (v3 : Int32) (z : Cs) (H : Heap) (locs : List Loc) (ls : Array Slot), mu v3 g.2.1.1 < n → M_C_write g x p0 p1 = L_C_write_2 g p0 p1 n v3 z → va_P D vwCl (wC cI cZ g z) H → va_D (Aw (wC cI cZ g x)) (wC cI cZ g z) → va_S (Aw (wC cI cZ g x)) s.heap H locs → lv_has ls 5 [(0, .ref g.1.1), (1, .int p0), (2, .int p1), (3, .int v3)] → W p l e (headSpec w_C_write rm_C_write).room s m ([.ref g.1.1, .int p0, .int p1] : List Value).toArray below meth c H locs 0 0 (MQ below (va_Qv (fun (u : Cs) => u = M_C_write g x p0 p1) (fun (u : Cs) (t : State) => va_P D vwCl (wC cI cZ g u) t.heap) (Aw (wC cI cZ g x))) ([.ref g.1.1, .int p0, .int p1] : List Value).toArray s 0 0 (Aw (wC cI cZ g x))) (F0 m 2 ls []) := by
    intro n
    induction n with
    | zero => intro v3 z H locs ls hm _ _ _ _ _; exact absurd hm (Nat.not_lt_zero _)
    | succ n ih =>
      intro v3 z H locs ls hm hF hP hD hS hl
      have hF := hF.trans (L_C_write_2_eq g p0 p1 n v3 z)
      refine lv_iload_n hx hb d_C_write_2 rfl (lv_at hl 3 rfl) ?_
      refine lv_aload_n hx hb d_C_write_3 rfl (lv_at hl 0 rfl) ?_
      refine va_get (D := D) (ci := 2) (v := .int g.2.1.1) (C := R_C) (T := T_C) (N := 10) hx hb htb i_C hown hK hP 0 rfl rfl 0 (by decide) (htb _ k_C_15) (fun _ h9 => h9) rfl d_C_write_4 ?_
      refine lv_icmp_ge (tgt := 57) hx hb d_C_write_7 (by decide) (fun c_7 => ?_) (fun c_7 => ?_)
      · have hF := hF.trans (if_pos c_7)
        refine lv_aload_n hx hb d_C_write_57 rfl (lv_at hl 0 rfl) ?_
        refine va_get (D := D) (ci := 2) (v := .int g.2.1.2) (C := R_C) (T := T_C) (N := 10) hx hb htb i_C hown hK hP 0 rfl rfl 1 (by decide) (htb _ k_C_19) (fun _ h9 => h9) rfl d_C_write_58 ?_
        refine lv_iconst (v := 2) hx hb d_C_write_61 (by decide) ?_
        refine lv_icmp_ne (tgt := 81) hx hb d_C_write_62 (by decide) (fun c_62 => ?_) (fun c_62 => ?_)
        · have hF := hF.trans (if_neg c_62)
          have hl := lv_sub (l' := [(0, .ref g.1.1), (1, .int p0), (2, .int p1)]) hl [0, 1, 2] rfl
          exact cut_81 z _ _ _ hF hP hD hS hl
        · have hF := hF.trans (if_pos c_62)
          refine lv_aload_n hx hb d_C_write_65 rfl (lv_at hl 0 rfl) ?_
          refine va_get (D := D) (ci := 2) (v := .ref g.2.2.2.2.1.1.1) (C := R_C) (T := T_C) (N := 10) hx hb htb i_C hown hK hP 0 rfl rfl 3 (by decide) (htb _ k_C_31) (fun _ h9 => h9) rfl d_C_write_66 ?_
          refine lv_aload_n hx hb d_C_write_69 rfl (lv_at hl 0 rfl) ?_
          refine va_get (D := D) (ci := 2) (v := .ref g.2.2.2.2.1.1.1) (C := R_C) (T := T_C) (N := 10) hx hb htb i_C hown hK hP 0 rfl rfl 3 (by decide) (htb _ k_C_31) (fun _ h9 => h9) rfl d_C_write_70 ?_
          refine lv_iconst (v := 0) hx hb d_C_write_73 (by decide) ?_
          refine lv_iload_n hx hb d_C_write_74 rfl (lv_at hl 2 rfl) ?_
          refine cpi (As := [.int (0 : Int32), .int p1]) (rest := [.ref g.2.2.2.2.1.1.1]) ⟨hx, hb, hml, hown, htb⟩ (c_B_find l D cI cZ g.2.2.2.2.1 hg.2.2.1 z.2.2.1 (0 : Int32) p1) (cwv (n := 2) htb cd_B_find k_C_72 in_B_find se_B_find ini_B hd_B_find ⟨Nat.le_of_ble_eq_true rfl, Nat.le_of_ble_eq_true rfl⟩) hK hP [7, 8, 9, 10, 11, 12] rfl (ci := 0) rfl rfl rfl hl.1 rfl (Nat.le_of_ble_eq_true rfl) d_C_write_75 ⟨Nat.zero_le _, Nat.zero_le _⟩ (fun r_75 hw_75 => ?_)
          have hF := hF.trans (bnd_eq hw_75)
          refine cwv_ (As := [.int r_75]) (rest := []) (wldC := fun u => (wC cI cZ g (z.1, z.2.1, u, z.2.2.2.1, z.2.2.2.2.1, z.2.2.2.2.2))) ⟨hx, hb, hml, hown, htb⟩ (c_B_drop l D cI cZ g.2.2.2.2.1 hg.2.2.1 z.2.2.1 r_75) (cwv (n := 1) htb cd_B_drop k_C_174 in_B_drop se_B_drop ini_B hd_B_drop ⟨Nat.le_of_ble_eq_true rfl, Nat.le_of_ble_eq_true rfl⟩) hK hP hD hS [7, 8, 9, 10, 11, 12] [0, 1, 2, 3, 4, 5, 6, 13, 14, 15, 16, 17, 18] [0, 1, 2, 3, 4, 5, 6, 13, 14, 15, 16, 17, 18, 7, 8, 9, 10, 11, 12] rfl rfl (by decide) (by decide) rfl (fun _ => rfl) (fun _ => rfl) (ci := 0) rfl rfl rfl hl.1 rfl (Nat.le_of_ble_eq_true rfl) d_C_write_78 ⟨Nat.zero_le _, Nat.zero_le _⟩ (fun u_78 H locs hw_78 hP hD hS => ?_)
          have hP : va_P D vwCl (wC cI cZ g (z.1, z.2.1, u_78, z.2.2.2.1, z.2.2.2.2.1, z.2.2.2.2.2)) H := hP
          have hD : va_D _ (wC cI cZ g (z.1, z.2.1, u_78, z.2.2.2.1, z.2.2.2.2.1, z.2.2.2.2.2)) := hD
          have hF := hF.trans (bnd_eq hw_78)
          have hl := lv_sub (l' := [(0, .ref g.1.1), (1, .int p0), (2, .int p1)]) hl [0, 1, 2] rfl
          exact cut_81 (z.1, z.2.1, u_78, z.2.2.2.1, z.2.2.2.2.1, z.2.2.2.2.2) _ _ _ hF hP hD hS hl
      · have hF := hF.trans (if_neg c_7)
        refine lv_iload_n hx hb d_C_write_10 rfl (lv_at hl 3 rfl) ?_
        refine lv_iload_n hx hb d_C_write_11 rfl (lv_at hl 1 rfl) ?_
        refine lv_icmp_ne (tgt := 19) hx hb d_C_write_12 (by decide) (fun c_12 => ?_) (fun c_12 => ?_)
        · have hF := hF.trans (if_neg c_12)
          refine lv_aload_n hx hb d_C_write_19 rfl (lv_at hl 0 rfl) ?_
          refine va_get (D := D) (ci := 2) (v := .ref g.2.2.2.1.1.1) (C := R_C) (T := T_C) (N := 10) hx hb htb i_C hown hK hP 0 rfl rfl 2 (by decide) (htb _ k_C_27) (fun _ h9 => h9) rfl d_C_write_20 ?_
          refine lv_iload_n hx hb d_C_write_23 rfl (lv_at hl 3 rfl) ?_
          refine lv_iload_n hx hb d_C_write_24 rfl (lv_at hl 2 rfl) ?_
          refine cpi (As := [.int v3, .int p1]) (rest := []) ⟨hx, hb, hml, hown, htb⟩ (c_B_find l D cI cZ g.2.2.2.1 hg.2.1 z.2.1 v3 p1) (cwv (n := 2) htb cd_B_find k_C_72 in_B_find se_B_find ini_B hd_B_find ⟨Nat.le_of_ble_eq_true rfl, Nat.le_of_ble_eq_true rfl⟩) hK hP [1, 2, 3, 4, 5, 6] rfl (ci := 0) rfl rfl rfl hl.1 rfl (Nat.le_of_ble_eq_true rfl) d_C_write_25 ⟨Nat.zero_le _, Nat.zero_le _⟩ (fun r_25 hw_25 => ?_)
          have hF := hF.trans (bnd_eq hw_25)
          refine lv_istore (lv' := [(4, .int r_25), (0, .ref g.1.1), (1, .int p0), (2, .int p1), (3, .int v3)]) hx hb d_C_write_28 hl (by decide) rfl (fun ls hl => ?_)
          refine lv_iload hx hb d_C_write_30 (lv_at hl 0 rfl) ?_
          refine lv_iconst (v := -1) hx hb d_C_write_32 (by decide) ?_
          refine lv_icmp_eq (tgt := 51) hx hb d_C_write_33 (by decide) (fun c_33 => ?_) (fun c_33 => ?_)
          · have hF := hF.trans (if_pos c_33)
            refine lv_iinc (v := (v3 + 1)) (lv' := [(3, .int (v3 + 1)), (4, .int r_25), (0, .ref g.1.1), (1, .int p0), (2, .int p1)]) hx hb d_C_write_51 hl (k := 4) rfl rfl (by decide) rfl (fun ls hl => ?_)
            refine lv_goto (tgt := 2) hx hb d_C_write_54 (by decide) ?_
            have hl := lv_sub (l' := [(0, .ref g.1.1), (1, .int p0), (2, .int p1), (3, .int (v3 + 1))]) hl [2, 3, 4, 0] rfl
            exact ih (v3 + 1) z _ _ _ (Nat.lt_of_lt_of_le (mu_dec c_7) (Nat.le_of_lt_succ hm)) hF hP hD hS hl
          · have hF := hF.trans (if_neg c_33)
            refine lv_aload_n hx hb d_C_write_36 rfl (lv_at hl 1 rfl) ?_
            refine va_get (D := D) (ci := 2) (v := .ref g.2.2.2.1.1.1) (C := R_C) (T := T_C) (N := 10) hx hb htb i_C hown hK hP 0 rfl rfl 2 (by decide) (htb _ k_C_27) (fun _ h9 => h9) rfl d_C_write_37 ?_
            refine lv_iload hx hb d_C_write_40 (lv_at hl 0 rfl) ?_
            refine cwv_ (As := [.int r_25]) (rest := []) (wldC := fun u => (wC cI cZ g (z.1, u, z.2.2.1, z.2.2.2.1, z.2.2.2.2.1, z.2.2.2.2.2))) ⟨hx, hb, hml, hown, htb⟩ (c_B_drop l D cI cZ g.2.2.2.1 hg.2.1 z.2.1 r_25) (cwv (n := 1) htb cd_B_drop k_C_174 in_B_drop se_B_drop ini_B hd_B_drop ⟨Nat.le_of_ble_eq_true rfl, Nat.le_of_ble_eq_true rfl⟩) hK hP hD hS [1, 2, 3, 4, 5, 6] [0, 7, 8, 9, 10, 11, 12, 13, 14, 15, 16, 17, 18] [0, 13, 14, 15, 16, 17, 18, 1, 2, 3, 4, 5, 6, 7, 8, 9, 10, 11, 12] rfl rfl (by decide) (by decide) rfl (fun _ => rfl) (fun _ => rfl) (ci := 0) rfl rfl rfl hl.1 rfl (Nat.le_of_ble_eq_true rfl) d_C_write_42 ⟨Nat.zero_le _, Nat.zero_le _⟩ (fun u_42 H locs hw_42 hP hD hS => ?_)
            have hP : va_P D vwCl (wC cI cZ g (z.1, u_42, z.2.2.1, z.2.2.2.1, z.2.2.2.2.1, z.2.2.2.2.2)) H := hP
            have hD : va_D _ (wC cI cZ g (z.1, u_42, z.2.2.1, z.2.2.2.1, z.2.2.2.2.1, z.2.2.2.2.2)) := hD
            have hF := hF.trans (bnd_eq hw_42)
            refine lv_aload_n hx hb d_C_write_45 rfl (lv_at hl 1 rfl) ?_
            refine lv_iload_n hx hb d_C_write_46 rfl (lv_at hl 4 rfl) ?_
            refine lv_iconst (v := 5) hx hb d_C_write_47 (by decide) ?_
            refine cwv_ (As := [.int v3, .int (5 : Int32)]) (rest := []) (wldC := fun u => (wC cI cZ g u)) ⟨hx, hb, hml, hown, htb⟩ (c_C_tally l D cI cZ g hg (z.1, u_42, z.2.2.1, z.2.2.2.1, z.2.2.2.2.1, z.2.2.2.2.2) v3 (5 : Int32)) (cwv (n := 2) htb cd_C_tally k_C_68 in_C_tally se_C_tally ini_C hd_C_tally ⟨Nat.le_of_ble_eq_true rfl, Nat.le_of_ble_eq_true rfl⟩) hK hP hD hS [0, 1, 2, 3, 4, 5, 6, 7, 8, 9, 10, 11, 12, 13, 14, 15, 16, 17, 18] [] [0, 1, 2, 3, 4, 5, 6, 7, 8, 9, 10, 11, 12, 13, 14, 15, 16, 17, 18] rfl rfl (by decide) (by decide) rfl (fun _ => rfl) (fun _ => rfl) (ci := 2) rfl rfl rfl hl.1 rfl (Nat.le_of_ble_eq_true rfl) d_C_write_48 ⟨Nat.zero_le _, Nat.zero_le _⟩ (fun u_48 H locs hw_48 hP hD hS => ?_)
            have hP : va_P D vwCl (wC cI cZ g u_48) H := hP
            have hD : va_D _ (wC cI cZ g u_48) := hD
            have hF := hF.trans (bnd_eq hw_48)
            refine lv_iinc (v := (v3 + 1)) (lv' := [(3, .int (v3 + 1)), (4, .int r_25), (0, .ref g.1.1), (1, .int p0), (2, .int p1)]) hx hb d_C_write_51 hl (k := 4) rfl rfl (by decide) rfl (fun ls hl => ?_)
            refine lv_goto (tgt := 2) hx hb d_C_write_54 (by decide) ?_
            have hl := lv_sub (l' := [(0, .ref g.1.1), (1, .int p0), (2, .int p1), (3, .int (v3 + 1))]) hl [2, 3, 4, 0] rfl
            exact ih (v3 + 1) u_48 _ _ _ (Nat.lt_of_lt_of_le (mu_dec c_7) (Nat.le_of_lt_succ hm)) hF hP hD hS hl
        · have hF := hF.trans (if_pos c_12)
          refine lv_iconst (v := -1) hx hb d_C_write_15 (by decide) ?_
          refine lv_goto (tgt := 28) hx hb d_C_write_16 (by decide) ?_
          refine lv_istore (lv' := [(4, .int (-1 : Int32)), (0, .ref g.1.1), (1, .int p0), (2, .int p1), (3, .int v3)]) hx hb d_C_write_28 hl (by decide) rfl (fun ls hl => ?_)
          refine lv_iload hx hb d_C_write_30 (lv_at hl 0 rfl) ?_
          refine lv_iconst (v := -1) hx hb d_C_write_32 (by decide) ?_
          refine lv_icmp_eq (tgt := 51) hx hb d_C_write_33 (by decide) (fun c_33 => ?_) (fun c_33 => ?_)
          · have hF := hF.trans (if_pos c_33)
            refine lv_iinc (v := (v3 + 1)) (lv' := [(3, .int (v3 + 1)), (4, .int (-1 : Int32)), (0, .ref g.1.1), (1, .int p0), (2, .int p1)]) hx hb d_C_write_51 hl (k := 4) rfl rfl (by decide) rfl (fun ls hl => ?_)
            refine lv_goto (tgt := 2) hx hb d_C_write_54 (by decide) ?_
            have hl := lv_sub (l' := [(0, .ref g.1.1), (1, .int p0), (2, .int p1), (3, .int (v3 + 1))]) hl [2, 3, 4, 0] rfl
            exact ih (v3 + 1) z _ _ _ (Nat.lt_of_lt_of_le (mu_dec c_7) (Nat.le_of_lt_succ hm)) hF hP hD hS hl
          · have hF := hF.trans (if_neg c_33)
            refine lv_aload_n hx hb d_C_write_36 rfl (lv_at hl 1 rfl) ?_
            refine va_get (D := D) (ci := 2) (v := .ref g.2.2.2.1.1.1) (C := R_C) (T := T_C) (N := 10) hx hb htb i_C hown hK hP 0 rfl rfl 2 (by decide) (htb _ k_C_27) (fun _ h9 => h9) rfl d_C_write_37 ?_
            refine lv_iload hx hb d_C_write_40 (lv_at hl 0 rfl) ?_
            refine cwv_ (As := [.int (-1 : Int32)]) (rest := []) (wldC := fun u => (wC cI cZ g (z.1, u, z.2.2.1, z.2.2.2.1, z.2.2.2.2.1, z.2.2.2.2.2))) ⟨hx, hb, hml, hown, htb⟩ (c_B_drop l D cI cZ g.2.2.2.1 hg.2.1 z.2.1 (-1 : Int32)) (cwv (n := 1) htb cd_B_drop k_C_174 in_B_drop se_B_drop ini_B hd_B_drop ⟨Nat.le_of_ble_eq_true rfl, Nat.le_of_ble_eq_true rfl⟩) hK hP hD hS [1, 2, 3, 4, 5, 6] [0, 7, 8, 9, 10, 11, 12, 13, 14, 15, 16, 17, 18] [0, 13, 14, 15, 16, 17, 18, 1, 2, 3, 4, 5, 6, 7, 8, 9, 10, 11, 12] rfl rfl (by decide) (by decide) rfl (fun _ => rfl) (fun _ => rfl) (ci := 0) rfl rfl rfl hl.1 rfl (Nat.le_of_ble_eq_true rfl) d_C_write_42 ⟨Nat.zero_le _, Nat.zero_le _⟩ (fun u_42 H locs hw_42 hP hD hS => ?_)
            have hP : va_P D vwCl (wC cI cZ g (z.1, u_42, z.2.2.1, z.2.2.2.1, z.2.2.2.2.1, z.2.2.2.2.2)) H := hP
            have hD : va_D _ (wC cI cZ g (z.1, u_42, z.2.2.1, z.2.2.2.1, z.2.2.2.2.1, z.2.2.2.2.2)) := hD
            have hF := hF.trans (bnd_eq hw_42)
            refine lv_aload_n hx hb d_C_write_45 rfl (lv_at hl 1 rfl) ?_
            refine lv_iload_n hx hb d_C_write_46 rfl (lv_at hl 4 rfl) ?_
            refine lv_iconst (v := 5) hx hb d_C_write_47 (by decide) ?_
            refine cwv_ (As := [.int v3, .int (5 : Int32)]) (rest := []) (wldC := fun u => (wC cI cZ g u)) ⟨hx, hb, hml, hown, htb⟩ (c_C_tally l D cI cZ g hg (z.1, u_42, z.2.2.1, z.2.2.2.1, z.2.2.2.2.1, z.2.2.2.2.2) v3 (5 : Int32)) (cwv (n := 2) htb cd_C_tally k_C_68 in_C_tally se_C_tally ini_C hd_C_tally ⟨Nat.le_of_ble_eq_true rfl, Nat.le_of_ble_eq_true rfl⟩) hK hP hD hS [0, 1, 2, 3, 4, 5, 6, 7, 8, 9, 10, 11, 12, 13, 14, 15, 16, 17, 18] [] [0, 1, 2, 3, 4, 5, 6, 7, 8, 9, 10, 11, 12, 13, 14, 15, 16, 17, 18] rfl rfl (by decide) (by decide) rfl (fun _ => rfl) (fun _ => rfl) (ci := 2) rfl rfl rfl hl.1 rfl (Nat.le_of_ble_eq_true rfl) d_C_write_48 ⟨Nat.zero_le _, Nat.zero_le _⟩ (fun u_48 H locs hw_48 hP hD hS => ?_)
            have hP : va_P D vwCl (wC cI cZ g u_48) H := hP
            have hD : va_D _ (wC cI cZ g u_48) := hD
            have hF := hF.trans (bnd_eq hw_48)
            refine lv_iinc (v := (v3 + 1)) (lv' := [(3, .int (v3 + 1)), (4, .int (-1 : Int32)), (0, .ref g.1.1), (1, .int p0), (2, .int p1)]) hx hb d_C_write_51 hl (k := 4) rfl rfl (by decide) rfl (fun ls hl => ?_)
            refine lv_goto (tgt := 2) hx hb d_C_write_54 (by decide) ?_
            have hl := lv_sub (l' := [(0, .ref g.1.1), (1, .int p0), (2, .int p1), (3, .int (v3 + 1))]) hl [2, 3, 4, 0] rfl
            exact ih (v3 + 1) u_48 _ _ _ (Nat.lt_of_lt_of_le (mu_dec c_7) (Nat.le_of_lt_succ hm)) hF hP hD hS hl
  have hl := lv_entry ([.ref g.1.1, .int p0, .int p1]) (n := 5) (Nat.le_of_ble_eq_true rfl)
  rw [lg_entry_eq]
  generalize (lg_sl ([.ref g.1.1, .int p0, .int p1]) ++ List.replicate (5 - (lg_sl ([.ref g.1.1, .int p0, .int p1])).length) Slot.unset).toArray = ls at hl ⊢
  have hl : lv_has ls 5 [(0, .ref g.1.1), (1, .int p0), (2, .int p1)] := hl
  have hF := M_C_write_eq g x p0 p1
  refine lv_iconst (v := 0) hx hb d_C_write_0 (by decide) ?_
  refine lv_istore_n (lv' := [(3, .int (0 : Int32)), (0, .ref g.1.1), (1, .int p0), (2, .int p1)]) hx hb d_C_write_1 rfl hl (by decide) rfl (fun ls hl => ?_)
  have hl := lv_sub (l' := [(0, .ref g.1.1), (1, .int p0), (2, .int p1), (3, .int (0 : Int32))]) hl [1, 2, 3, 0] rfl
  exact cut_2 (mu (0 : Int32) g.2.1.1 + 1) (0 : Int32) x _ _ _ (Nat.lt_succ_self _) hF hP hD hS hl

def L_C_access_98 (g : GC) (p0 p1 p2 : Int32) (v4 : Int32) (z : Cs) : Int32 × Cs := (v4, z)
theorem L_C_access_98_eq (g : GC) (p0 p1 p2 : Int32) (v4 : Int32) (z : Cs) : L_C_access_98 g p0 p1 p2 v4 z = (v4, z) := rfl
def L_C_access_81 (g : GC) (p0 p1 p2 : Int32) (v4 : Int32) (z : Cs) : Int32 × Cs := (if p2 = (1 : Int32) then (bnd (M_C_tally g z p0 (4 : Int32)) (fun u_89 => (bnd (M_C_write g u_89 p0 p1) (fun u_95 => L_C_access_98 g p0 p1 p2 v4 u_95)))) else L_C_access_98 g p0 p1 p2 v4 z)
theorem L_C_access_81_eq (g : GC) (p0 p1 p2 : Int32) (v4 : Int32) (z : Cs) : L_C_access_81 g p0 p1 p2 v4 z = (if p2 = (1 : Int32) then (bnd (M_C_tally g z p0 (4 : Int32)) (fun u_89 => (bnd (M_C_write g u_89 p0 p1) (fun u_95 => L_C_access_98 g p0 p1 p2 v4 u_95)))) else L_C_access_98 g p0 p1 p2 v4 z) := rfl
def L_C_access_24 (g : GC) (p0 p1 p2 : Int32) (z : Cs) : Int32 × Cs := (bnd (M_C_tally g z p0 (0 : Int32)) (fun u_27 => (bnd (M_B_find g.2.2.2.1 u_27.2.1 p0 p1) (fun r_39 => (if r_39 = (-1 : Int32) then (bnd (M_C_handOver g u_27 p1) (fun u_70 => (bnd2 (M_C_bring g u_70 p0 p1) (fun r_76 u_76 => L_C_access_81 g p0 p1 p2 r_76 u_76)))) else (bnd (M_B_useLast g.2.2.2.1 u_27.2.1 r_39) (fun u_56 => (bnd (M_C_tally g (u_27.1, u_56, u_27.2.2.1, u_27.2.2.2.1, u_27.2.2.2.2.1, u_27.2.2.2.2.2) p0 (1 : Int32)) (fun u_62 => L_C_access_81 g p0 p1 p2 (1 : Int32) u_62)))))))))
theorem L_C_access_24_eq (g : GC) (p0 p1 p2 : Int32) (z : Cs) : L_C_access_24 g p0 p1 p2 z = (bnd (M_C_tally g z p0 (0 : Int32)) (fun u_27 => (bnd (M_B_find g.2.2.2.1 u_27.2.1 p0 p1) (fun r_39 => (if r_39 = (-1 : Int32) then (bnd (M_C_handOver g u_27 p1) (fun u_70 => (bnd2 (M_C_bring g u_70 p0 p1) (fun r_76 u_76 => L_C_access_81 g p0 p1 p2 r_76 u_76)))) else (bnd (M_B_useLast g.2.2.2.1 u_27.2.1 r_39) (fun u_56 => (bnd (M_C_tally g (u_27.1, u_56, u_27.2.2.1, u_27.2.2.2.1, u_27.2.2.2.2.1, u_27.2.2.2.2.2) p0 (1 : Int32)) (fun u_62 => L_C_access_81 g p0 p1 p2 (1 : Int32) u_62))))))))) := rfl
def M_C_access (g : GC) (x : Cs) (p0 p1 p2 : Int32) : Int32 × Cs := (if p2 = 0 then L_C_access_24 g p0 p1 p2 x else L_C_access_24 g p0 p1 p2 x)
theorem M_C_access_eq (g : GC) (x : Cs) (p0 p1 p2 : Int32) : M_C_access g x p0 p1 p2 = (if p2 = 0 then L_C_access_24 g p0 p1 p2 x else L_C_access_24 g p0 p1 p2 x) := rfl
abbrev w_C_access : List Cond := .code y_C_access b_C_access 6 (some .int) :: tbW
abbrev rm_C_access : Room := { frames := 7, cells := 0, slots := 0, locals := 175 }
set_option maxHeartbeats 4000000 in
set_option maxRecDepth 100000 in
theorem c_C_access (l : Launch) (D : va_G) (cI cZ : ClassId) (g : GC) (hg : okC g) (x : Cs) (p0 p1 p2 : Int32) (hv0 : ¬ p0 < 0) (hv1 : p0 < g.2.1.1) (hk : p2 = 0 ∨ p2 = 1) : Met l y_C_access w_C_access rm_C_access (PcW D vwCl (tyK cI cZ) [.ref g.1.1, .int p0, .int p1, .int p2] (wC cI cZ g x)) (va_Qi (fun (r : Int32) (u : Cs) => (r, u) = M_C_access g x p0 p1 p2) (fun (u : Cs) (t : State) => va_P D vwCl (wC cI cZ g u) t.heap) (Aw (wC cI cZ g x))) 0 0 (Aw (wC cI cZ g x)) := by
  refine Met.ofW (cc := b_C_access) (maxL := 6) (ret := (some .int)) (by decide) rfl ?_
  intro p e s m args below meth c s₁ B hml hv
  obtain ⟨rfl, hP, hK, hD0⟩ := hv
  have hx := B.exec
  have hb := B.bytes
  have hr := B.returns
  have htb : ∀ w ∈ tbW, w.before _ s = true := fun w h => atoms_spec (ws := w_C_access) B.pre w (List.mem_cons_of_mem _ h)
  have hown : s.vm.findClass R_C = some m.cls := findClass_of_methodNamed B.named
  have hlocks := B.notSynchronized
  have hD : va_D (Aw (wC cI cZ g x)) (wC cI cZ g x) := ⟨hD0.1, fun k q hk => ⟨k, q.2, hk⟩⟩
  have hS : va_S (Aw (wC cI cZ g x)) s.heap s.heap [] := va_S.rf
  have cut_98 : ∀ (v4 : Int32) (z : Cs) (H : Heap) (locs : List Loc) (ls : Array Slot), M_C_access g x p0 p1 p2 = L_C_access_98 g p0 p1 p2 v4 z → va_P D vwCl (wC cI cZ g z) H → va_D (Aw (wC cI cZ g x)) (wC cI cZ g z) → va_S (Aw (wC cI cZ g x)) s.heap H locs → lv_has ls 6 [(0, .ref g.1.1), (1, .int p0), (2, .int p1), (3, .int p2), (4, .int v4)] → W p l e (headSpec w_C_access rm_C_access).room s m ([.ref g.1.1, .int p0, .int p1, .int p2] : List Value).toArray below meth c H locs 0 0 (MQ below (va_Qi (fun (r : Int32) (u : Cs) => (r, u) = M_C_access g x p0 p1 p2) (fun (u : Cs) (t : State) => va_P D vwCl (wC cI cZ g u) t.heap) (Aw (wC cI cZ g x))) ([.ref g.1.1, .int p0, .int p1, .int p2] : List Value).toArray s 0 0 (Aw (wC cI cZ g x))) (F0 m 98 ls []) := by
    intro v4 z H locs ls hF hP hD hS hl
    have hF := hF.trans (L_C_access_98_eq g p0 p1 p2 v4 z)
    refine lv_iload hx hb d_C_access_98 (lv_at hl 4 rfl) ?_
    exact W.iret (v := v4) hx hb hr (fun t ht hW => ⟨⟨v4, z, rfl, hF.symm, by dsimp only; rw [ht]; exact hP⟩, hS.F ht⟩) hS.2.2 d_C_access_100
  have cut_81 : ∀ (v4 : Int32) (z : Cs) (H : Heap) (locs : List Loc) (ls : Array Slot), M_C_access g x p0 p1 p2 = L_C_access_81 g p0 p1 p2 v4 z → va_P D vwCl (wC cI cZ g z) H → va_D (Aw (wC cI cZ g x)) (wC cI cZ g z) → va_S (Aw (wC cI cZ g x)) s.heap H locs → lv_has ls 6 [(0, .ref g.1.1), (1, .int p0), (2, .int p1), (3, .int p2), (4, .int v4)] → W p l e (headSpec w_C_access rm_C_access).room s m ([.ref g.1.1, .int p0, .int p1, .int p2] : List Value).toArray below meth c H locs 0 0 (MQ below (va_Qi (fun (r : Int32) (u : Cs) => (r, u) = M_C_access g x p0 p1 p2) (fun (u : Cs) (t : State) => va_P D vwCl (wC cI cZ g u) t.heap) (Aw (wC cI cZ g x))) ([.ref g.1.1, .int p0, .int p1, .int p2] : List Value).toArray s 0 0 (Aw (wC cI cZ g x))) (F0 m 81 ls []) := by
    intro v4 z H locs ls hF hP hD hS hl
    have hF := hF.trans (L_C_access_81_eq g p0 p1 p2 v4 z)
    refine lv_iload_n hx hb d_C_access_81 rfl (lv_at hl 3 rfl) ?_
    refine lv_iconst (v := 1) hx hb d_C_access_82 (by decide) ?_
    refine lv_icmp_ne (tgt := 98) hx hb d_C_access_83 (by decide) (fun c_83 => ?_) (fun c_83 => ?_)
    · have hF := hF.trans (if_neg c_83)
      have hl := lv_sub (l' := [(0, .ref g.1.1), (1, .int p0), (2, .int p1), (3, .int p2), (4, .int v4)]) hl [0, 1, 2, 3, 4] rfl
      exact cut_98 v4 z _ _ _ hF hP hD hS hl
    · have hF := hF.trans (if_pos c_83)
      refine lv_aload_n hx hb d_C_access_86 rfl (lv_at hl 0 rfl) ?_
      refine lv_iload_n hx hb d_C_access_87 rfl (lv_at hl 1 rfl) ?_
      refine lv_iconst (v := 4) hx hb d_C_access_88 (by decide) ?_
      refine cwv_ (As := [.int p0, .int (4 : Int32)]) (rest := []) (wldC := fun u => (wC cI cZ g u)) ⟨hx, hb, hml, hown, htb⟩ (c_C_tally l D cI cZ g hg z p0 (4 : Int32)) (cwv (n := 2) htb cd_C_tally k_C_68 in_C_tally se_C_tally ini_C hd_C_tally ⟨Nat.le_of_ble_eq_true rfl, Nat.le_of_ble_eq_true rfl⟩) hK hP hD hS [0, 1, 2, 3, 4, 5, 6, 7, 8, 9, 10, 11, 12, 13, 14, 15, 16, 17, 18] [] [0, 1, 2, 3, 4, 5, 6, 7, 8, 9, 10, 11, 12, 13, 14, 15, 16, 17, 18] rfl rfl (by decide) (by decide) rfl (fun _ => rfl) (fun _ => rfl) (ci := 2) rfl rfl rfl hl.1 rfl (Nat.le_of_ble_eq_true rfl) d_C_access_89 ⟨Nat.zero_le _, Nat.zero_le _⟩ (fun u_89 H locs hw_89 hP hD hS => ?_)
      have hP : va_P D vwCl (wC cI cZ g u_89) H := hP
      have hD : va_D _ (wC cI cZ g u_89) := hD
      have hF := hF.trans (bnd_eq hw_89)
      refine lv_aload_n hx hb d_C_access_92 rfl (lv_at hl 0 rfl) ?_
      refine lv_iload_n hx hb d_C_access_93 rfl (lv_at hl 1 rfl) ?_
      refine lv_iload_n hx hb d_C_access_94 rfl (lv_at hl 2 rfl) ?_
      refine cwv_ (As := [.int p0, .int p1]) (rest := []) (wldC := fun u => (wC cI cZ g u)) ⟨hx, hb, hml, hown, htb⟩ (c_C_write l D cI cZ g hg u_89 p0 p1) (cwv (n := 2) htb cd_C_write k_C_84 in_C_write se_C_write ini_C hd_C_write ⟨Nat.le_of_ble_eq_true rfl, Nat.le_of_ble_eq_true rfl⟩) hK hP hD hS [0, 1, 2, 3, 4, 5, 6, 7, 8, 9, 10, 11, 12, 13, 14, 15, 16, 17, 18] [] [0, 1, 2, 3, 4, 5, 6, 7, 8, 9, 10, 11, 12, 13, 14, 15, 16, 17, 18] rfl rfl (by decide) (by decide) rfl (fun _ => rfl) (fun _ => rfl) (ci := 2) rfl rfl rfl hl.1 rfl (Nat.le_of_ble_eq_true rfl) d_C_access_95 ⟨Nat.zero_le _, Nat.zero_le _⟩ (fun u_95 H locs hw_95 hP hD hS => ?_)
      have hP : va_P D vwCl (wC cI cZ g u_95) H := hP
      have hD : va_D _ (wC cI cZ g u_95) := hD
      have hF := hF.trans (bnd_eq hw_95)
      have hl := lv_sub (l' := [(0, .ref g.1.1), (1, .int p0), (2, .int p1), (3, .int p2), (4, .int v4)]) hl [0, 1, 2, 3, 4] rfl
      exact cut_98 v4 u_95 _ _ _ hF hP hD hS hl
  have cut_24 : ∀ (z : Cs) (H : Heap) (locs : List Loc) (ls : Array Slot), M_C_access g x p0 p1 p2 = L_C_access_24 g p0 p1 p2 z → va_P D vwCl (wC cI cZ g z) H → va_D (Aw (wC cI cZ g x)) (wC cI cZ g z) → va_S (Aw (wC cI cZ g x)) s.heap H locs → lv_has ls 6 [(0, .ref g.1.1), (1, .int p0), (2, .int p1), (3, .int p2)] → W p l e (headSpec w_C_access rm_C_access).room s m ([.ref g.1.1, .int p0, .int p1, .int p2] : List Value).toArray below meth c H locs 0 0 (MQ below (va_Qi (fun (r : Int32) (u : Cs) => (r, u) = M_C_access g x p0 p1 p2) (fun (u : Cs) (t : State) => va_P D vwCl (wC cI cZ g u) t.heap) (Aw (wC cI cZ g x))) ([.ref g.1.1, .int p0, .int p1, .int p2] : List Value).toArray s 0 0 (Aw (wC cI cZ g x))) (F0 m 24 ls []) := by
    intro z H locs ls hF hP hD hS hl
    have hF := hF.trans (L_C_access_24_eq g p0 p1 p2 z)
    refine lv_aload_n hx hb d_C_access_24 rfl (lv_at hl 0 rfl) ?_
    refine lv_iload_n hx hb d_C_access_25 rfl (lv_at hl 1 rfl) ?_
    refine lv_iconst (v := 0) hx hb d_C_access_26 (by decide) ?_
    refine cwv_ (As := [.int p0, .int (0 : Int32)]) (rest := []) (wldC := fun u => (wC cI cZ g u)) ⟨hx, hb, hml, hown, htb⟩ (c_C_tally l D cI cZ g hg z p0 (0 : Int32)) (cwv (n := 2) htb cd_C_tally k_C_68 in_C_tally se_C_tally ini_C hd_C_tally ⟨Nat.le_of_ble_eq_true rfl, Nat.le_of_ble_eq_true rfl⟩) hK hP hD hS [0, 1, 2, 3, 4, 5, 6, 7, 8, 9, 10, 11, 12, 13, 14, 15, 16, 17, 18] [] [0, 1, 2, 3, 4, 5, 6, 7, 8, 9, 10, 11, 12, 13, 14, 15, 16, 17, 18] rfl rfl (by decide) (by decide) rfl (fun _ => rfl) (fun _ => rfl) (ci := 2) rfl rfl rfl hl.1 rfl (Nat.le_of_ble_eq_true rfl) d_C_access_27 ⟨Nat.zero_le _, Nat.zero_le _⟩ (fun u_27 H locs hw_27 hP hD hS => ?_)
    have hP : va_P D vwCl (wC cI cZ g u_27) H := hP
    have hD : va_D _ (wC cI cZ g u_27) := hD
    have hF := hF.trans (bnd_eq hw_27)
    refine lv_iconst (v := 1) hx hb d_C_access_30 (by decide) ?_
    refine lv_istore (lv' := [(4, .int (1 : Int32)), (0, .ref g.1.1), (1, .int p0), (2, .int p1), (3, .int p2)]) hx hb d_C_access_31 hl (by decide) rfl (fun ls hl => ?_)
    refine lv_aload_n hx hb d_C_access_33 rfl (lv_at hl 1 rfl) ?_
    refine va_get (D := D) (ci := 2) (v := .ref g.2.2.2.1.1.1) (C := R_C) (T := T_C) (N := 10) hx hb htb i_C hown hK hP 0 rfl rfl 2 (by decide) (htb _ k_C_27) (fun _ h9 => h9) rfl d_C_access_34 ?_
    refine lv_iload_n hx hb d_C_access_37 rfl (lv_at hl 2 rfl) ?_
    refine lv_iload_n hx hb d_C_access_38 rfl (lv_at hl 3 rfl) ?_
    refine cpi (As := [.int p0, .int p1]) (rest := []) ⟨hx, hb, hml, hown, htb⟩ (c_B_find l D cI cZ g.2.2.2.1 hg.2.1 u_27.2.1 p0 p1) (cwv (n := 2) htb cd_B_find k_C_72 in_B_find se_B_find ini_B hd_B_find ⟨Nat.le_of_ble_eq_true rfl, Nat.le_of_ble_eq_true rfl⟩) hK hP [1, 2, 3, 4, 5, 6] rfl (ci := 0) rfl rfl rfl hl.1 rfl (Nat.le_of_ble_eq_true rfl) d_C_access_39 ⟨Nat.zero_le _, Nat.zero_le _⟩ (fun r_39 hw_39 => ?_)
    have hF := hF.trans (bnd_eq hw_39)
    refine lv_istore (lv' := [(5, .int r_39), (4, .int (1 : Int32)), (0, .ref g.1.1), (1, .int p0), (2, .int p1), (3, .int p2)]) hx hb d_C_access_42 hl (by decide) rfl (fun ls hl => ?_)
    refine lv_iload hx hb d_C_access_44 (lv_at hl 0 rfl) ?_
    refine lv_iconst (v := -1) hx hb d_C_access_46 (by decide) ?_
    refine lv_icmp_eq (tgt := 68) hx hb d_C_access_47 (by decide) (fun c_47 => ?_) (fun c_47 => ?_)
    · have hF := hF.trans (if_pos c_47)
      refine lv_aload_n hx hb d_C_access_68 rfl (lv_at hl 2 rfl) ?_
      refine lv_iload_n hx hb d_C_access_69 rfl (lv_at hl 4 rfl) ?_
      refine cwv_ (As := [.int p1]) (rest := []) (wldC := fun u => (wC cI cZ g u)) ⟨hx, hb, hml, hown, htb⟩ (c_C_handOver l D cI cZ g hg u_27 p1) (cwv (n := 1) htb cd_C_handOver k_C_78 in_C_handOver se_C_handOver ini_C hd_C_handOver ⟨Nat.le_of_ble_eq_true rfl, Nat.le_of_ble_eq_true rfl⟩) hK hP hD hS [0, 1, 2, 3, 4, 5, 6, 7, 8, 9, 10, 11, 12, 13, 14, 15, 16, 17, 18] [] [0, 1, 2, 3, 4, 5, 6, 7, 8, 9, 10, 11, 12, 13, 14, 15, 16, 17, 18] rfl rfl (by decide) (by decide) rfl (fun _ => rfl) (fun _ => rfl) (ci := 2) rfl rfl rfl hl.1 rfl (Nat.le_of_ble_eq_true rfl) d_C_access_70 ⟨Nat.zero_le _, Nat.zero_le _⟩ (fun u_70 H locs hw_70 hP hD hS => ?_)
      have hP : va_P D vwCl (wC cI cZ g u_70) H := hP
      have hD : va_D _ (wC cI cZ g u_70) := hD
      have hF := hF.trans (bnd_eq hw_70)
      refine lv_aload_n hx hb d_C_access_73 rfl (lv_at hl 2 rfl) ?_
      refine lv_iload_n hx hb d_C_access_74 rfl (lv_at hl 3 rfl) ?_
      refine lv_iload_n hx hb d_C_access_75 rfl (lv_at hl 4 rfl) ?_
      refine cwi (As := [.int p0, .int p1]) (rest := []) (wldC := fun u => (wC cI cZ g u)) ⟨hx, hb, hml, hown, htb⟩ (c_C_bring l D cI cZ g hg u_70 p0 p1) (cwv (n := 2) htb cd_C_bring k_C_81 in_C_bring se_C_bring ini_C hd_C_bring ⟨Nat.le_of_ble_eq_true rfl, Nat.le_of_ble_eq_true rfl⟩) hK hP hD hS [0, 1, 2, 3, 4, 5, 6, 7, 8, 9, 10, 11, 12, 13, 14, 15, 16, 17, 18] [] [0, 1, 2, 3, 4, 5, 6, 7, 8, 9, 10, 11, 12, 13, 14, 15, 16, 17, 18] rfl rfl (by decide) (by decide) rfl (fun _ => rfl) (fun _ => rfl) (ci := 2) rfl rfl rfl hl.1 rfl (Nat.le_of_ble_eq_true rfl) d_C_access_76 ⟨Nat.zero_le _, Nat.zero_le _⟩ (fun r_76 u_76 H locs hw_76 hP hD hS => ?_)
      have hP : va_P D vwCl (wC cI cZ g u_76) H := hP
      have hD : va_D _ (wC cI cZ g u_76) := hD
      have hF := hF.trans (bnd2_eq hw_76)
      refine lv_istore (lv' := [(4, .int r_76), (5, .int r_39), (0, .ref g.1.1), (1, .int p0), (2, .int p1), (3, .int p2)]) hx hb d_C_access_79 hl (by decide) rfl (fun ls hl => ?_)
      have hl := lv_sub (l' := [(0, .ref g.1.1), (1, .int p0), (2, .int p1), (3, .int p2), (4, .int r_76)]) hl [2, 3, 4, 5, 0] rfl
      exact cut_81 r_76 u_76 _ _ _ hF hP hD hS hl
    · have hF := hF.trans (if_neg c_47)
      refine lv_aload_n hx hb d_C_access_50 rfl (lv_at hl 2 rfl) ?_
      refine va_get (D := D) (ci := 2) (v := .ref g.2.2.2.1.1.1) (C := R_C) (T := T_C) (N := 10) hx hb htb i_C hown hK hP 0 rfl rfl 2 (by decide) (htb _ k_C_27) (fun _ h9 => h9) rfl d_C_access_51 ?_
      refine lv_iload hx hb d_C_access_54 (lv_at hl 0 rfl) ?_
      refine cwv_ (As := [.int r_39]) (rest := []) (wldC := fun u => (wC cI cZ g (u_27.1, u, u_27.2.2.1, u_27.2.2.2.1, u_27.2.2.2.2.1, u_27.2.2.2.2.2))) ⟨hx, hb, hml, hown, htb⟩ (c_B_useLast l D cI cZ g.2.2.2.1 hg.2.1 u_27.2.1 r_39) (cwv (n := 1) htb cd_B_useLast k_C_75 in_B_useLast se_B_useLast ini_B hd_B_useLast ⟨Nat.le_of_ble_eq_true rfl, Nat.le_of_ble_eq_true rfl⟩) hK hP hD hS [1, 2, 3, 4, 5, 6] [0, 7, 8, 9, 10, 11, 12, 13, 14, 15, 16, 17, 18] [0, 13, 14, 15, 16, 17, 18, 1, 2, 3, 4, 5, 6, 7, 8, 9, 10, 11, 12] rfl rfl (by decide) (by decide) rfl (fun _ => rfl) (fun _ => rfl) (ci := 0) rfl rfl rfl hl.1 rfl (Nat.le_of_ble_eq_true rfl) d_C_access_56 ⟨Nat.zero_le _, Nat.zero_le _⟩ (fun u_56 H locs hw_56 hP hD hS => ?_)
      have hP : va_P D vwCl (wC cI cZ g (u_27.1, u_56, u_27.2.2.1, u_27.2.2.2.1, u_27.2.2.2.2.1, u_27.2.2.2.2.2)) H := hP
      have hD : va_D _ (wC cI cZ g (u_27.1, u_56, u_27.2.2.1, u_27.2.2.2.1, u_27.2.2.2.2.1, u_27.2.2.2.2.2)) := hD
      have hF := hF.trans (bnd_eq hw_56)
      refine lv_aload_n hx hb d_C_access_59 rfl (lv_at hl 2 rfl) ?_
      refine lv_iload_n hx hb d_C_access_60 rfl (lv_at hl 3 rfl) ?_
      refine lv_iconst (v := 1) hx hb d_C_access_61 (by decide) ?_
      refine cwv_ (As := [.int p0, .int (1 : Int32)]) (rest := []) (wldC := fun u => (wC cI cZ g u)) ⟨hx, hb, hml, hown, htb⟩ (c_C_tally l D cI cZ g hg (u_27.1, u_56, u_27.2.2.1, u_27.2.2.2.1, u_27.2.2.2.2.1, u_27.2.2.2.2.2) p0 (1 : Int32)) (cwv (n := 2) htb cd_C_tally k_C_68 in_C_tally se_C_tally ini_C hd_C_tally ⟨Nat.le_of_ble_eq_true rfl, Nat.le_of_ble_eq_true rfl⟩) hK hP hD hS [0, 1, 2, 3, 4, 5, 6, 7, 8, 9, 10, 11, 12, 13, 14, 15, 16, 17, 18] [] [0, 1, 2, 3, 4, 5, 6, 7, 8, 9, 10, 11, 12, 13, 14, 15, 16, 17, 18] rfl rfl (by decide) (by decide) rfl (fun _ => rfl) (fun _ => rfl) (ci := 2) rfl rfl rfl hl.1 rfl (Nat.le_of_ble_eq_true rfl) d_C_access_62 ⟨Nat.zero_le _, Nat.zero_le _⟩ (fun u_62 H locs hw_62 hP hD hS => ?_)
      have hP : va_P D vwCl (wC cI cZ g u_62) H := hP
      have hD : va_D _ (wC cI cZ g u_62) := hD
      have hF := hF.trans (bnd_eq hw_62)
      refine lv_goto (tgt := 81) hx hb d_C_access_65 (by decide) ?_
      have hl := lv_sub (l' := [(0, .ref g.1.1), (1, .int p0), (2, .int p1), (3, .int p2), (4, .int (1 : Int32))]) hl [2, 3, 4, 5, 1] rfl
      exact cut_81 (1 : Int32) u_62 _ _ _ hF hP hD hS hl
  have hl := lv_entry ([.ref g.1.1, .int p0, .int p1, .int p2]) (n := 6) (Nat.le_of_ble_eq_true rfl)
  rw [lg_entry_eq]
  generalize (lg_sl ([.ref g.1.1, .int p0, .int p1, .int p2]) ++ List.replicate (6 - (lg_sl ([.ref g.1.1, .int p0, .int p1, .int p2])).length) Slot.unset).toArray = ls at hl ⊢
  have hl : lv_has ls 6 [(0, .ref g.1.1), (1, .int p0), (2, .int p1), (3, .int p2)] := hl
  have hF := M_C_access_eq g x p0 p1 p2
  refine lv_aload_n hx hb d_C_access_0 rfl (lv_at hl 0 rfl) ?_
  refine lv_iload_n hx hb d_C_access_1 rfl (lv_at hl 1 rfl) ?_
  refine cpv (As := [.int p0]) (rest := []) ⟨hx, hb, hml, hown, htb⟩ (c_C_requireCore l D cI cZ g hg x p0 hv0 hv1) (cwv (n := 1) htb cd_C_requireCore k_C_57 in_C_requireCore se_C_requireCore ini_C hd_C_requireCore ⟨Nat.le_of_ble_eq_true rfl, Nat.le_of_ble_eq_true rfl⟩) hK hP [0, 1, 2, 3, 4, 5, 6, 7, 8, 9, 10, 11, 12, 13, 14, 15, 16, 17, 18] rfl (ci := 2) rfl rfl rfl hl.1 rfl (Nat.le_of_ble_eq_true rfl) d_C_access_2 ⟨Nat.zero_le _, Nat.zero_le _⟩ (?_)
  refine lv_iload_n hx hb d_C_access_5 rfl (lv_at hl 3 rfl) ?_
  refine lv_if_eq (tgt := 24) hx hb d_C_access_6 (by decide) (fun c_6 => ?_) (fun c_6 => ?_)
  · have hF := hF.trans (if_pos c_6)
    have hl := lv_sub (l' := [(0, .ref g.1.1), (1, .int p0), (2, .int p1), (3, .int p2)]) hl [0, 1, 2, 3] rfl
    exact cut_24 x _ _ _ hF hP hD hS hl
  · have hF := hF.trans (if_neg c_6)
    refine lv_iload_n hx hb d_C_access_9 rfl (lv_at hl 3 rfl) ?_
    refine lv_iconst (v := 1) hx hb d_C_access_10 (by decide) ?_
    refine lv_icmp_eq (tgt := 24) hx hb d_C_access_11 (by decide) (fun c_11 => ?_) (fun c_11 => ?_)
    · skip
      have hl := lv_sub (l' := [(0, .ref g.1.1), (1, .int p0), (2, .int p1), (3, .int p2)]) hl [0, 1, 2, 3] rfl
      exact cut_24 x _ _ _ hF hP hD hS hl
    · exact absurd (hk.resolve_left c_6) c_11

def M_C_quota (g : GC) (x : Cs) (p0 p1 : Int32) : Int32 × Cs := ((x.2.2.2.2.1 p0.toNatClampNeg), (x.1, x.2.1, x.2.2.1, x.2.2.2.1, (upd x.2.2.2.2.1 p0.toNatClampNeg p1), x.2.2.2.2.2))
theorem M_C_quota_eq (g : GC) (x : Cs) (p0 p1 : Int32) : M_C_quota g x p0 p1 = ((x.2.2.2.2.1 p0.toNatClampNeg), (x.1, x.2.1, x.2.2.1, x.2.2.2.1, (upd x.2.2.2.2.1 p0.toNatClampNeg p1), x.2.2.2.2.2)) := rfl
abbrev w_C_quota : List Cond := .code y_C_quota b_C_quota 4 (some .int) :: tbW
abbrev rm_C_quota : Room := { frames := 1, cells := 0, slots := 0, locals := 21 }
set_option maxHeartbeats 4000000 in
set_option maxRecDepth 100000 in
theorem c_C_quota (l : Launch) (D : va_G) (cI cZ : ClassId) (g : GC) (hg : okC g) (x : Cs) (p0 p1 : Int32) (hv0 : ¬ p0 < 0) (hv1 : p0 < g.2.1.1) (hq0 : ¬ p1 < 0) (hq1 : p1 ≤ 4) : Met l y_C_quota w_C_quota rm_C_quota (PcW D vwCl (tyK cI cZ) [.ref g.1.1, .int p0, .int p1] (wC cI cZ g x)) (va_Qi (fun (r : Int32) (u : Cs) => (r, u) = M_C_quota g x p0 p1) (fun (u : Cs) (t : State) => va_P D vwCl (wC cI cZ g u) t.heap) (Aw (wC cI cZ g x))) 0 0 (Aw (wC cI cZ g x)) := by
  refine Met.ofW (cc := b_C_quota) (maxL := 4) (ret := (some .int)) (by decide) rfl ?_
  intro p e s m args below meth c s₁ B hml hv
  obtain ⟨rfl, hP, hK, hD0⟩ := hv
  have hx := B.exec
  have hb := B.bytes
  have hr := B.returns
  have htb : ∀ w ∈ tbW, w.before _ s = true := fun w h => atoms_spec (ws := w_C_quota) B.pre w (List.mem_cons_of_mem _ h)
  have hown : s.vm.findClass R_C = some m.cls := findClass_of_methodNamed B.named
  have hlocks := B.notSynchronized
  have hD : va_D (Aw (wC cI cZ g x)) (wC cI cZ g x) := ⟨hD0.1, fun k q hk => ⟨k, q.2, hk⟩⟩
  have hS : va_S (Aw (wC cI cZ g x)) s.heap s.heap [] := va_S.rf
  have hl := lv_entry ([.ref g.1.1, .int p0, .int p1]) (n := 4) (Nat.le_of_ble_eq_true rfl)
  rw [lg_entry_eq]
  generalize (lg_sl ([.ref g.1.1, .int p0, .int p1]) ++ List.replicate (4 - (lg_sl ([.ref g.1.1, .int p0, .int p1])).length) Slot.unset).toArray = ls at hl ⊢
  have hl : lv_has ls 4 [(0, .ref g.1.1), (1, .int p0), (2, .int p1)] := hl
  have hF := M_C_quota_eq g x p0 p1
  refine lv_aload_n hx hb d_C_quota_0 rfl (lv_at hl 0 rfl) ?_
  refine lv_iload_n hx hb d_C_quota_1 rfl (lv_at hl 1 rfl) ?_
  refine cpv (As := [.int p0]) (rest := []) ⟨hx, hb, hml, hown, htb⟩ (c_C_requireCore l D cI cZ g hg x p0 hv0 hv1) (cwv (n := 1) htb cd_C_requireCore k_C_57 in_C_requireCore se_C_requireCore ini_C hd_C_requireCore ⟨Nat.le_of_ble_eq_true rfl, Nat.le_of_ble_eq_true rfl⟩) hK hP [0, 1, 2, 3, 4, 5, 6, 7, 8, 9, 10, 11, 12, 13, 14, 15, 16, 17, 18] rfl (ci := 2) rfl rfl rfl hl.1 rfl (Nat.le_of_ble_eq_true rfl) d_C_quota_2 ⟨Nat.zero_le _, Nat.zero_le _⟩ (?_)
  refine lv_iload_n hx hb d_C_quota_5 rfl (lv_at hl 2 rfl) ?_
  refine lv_if_lt (tgt := 14) hx hb d_C_quota_6 (by decide) (fun c_6 => ?_) (fun c_6 => ?_)
  · exact absurd c_6 hq0
  · skip
    refine lv_iload_n hx hb d_C_quota_9 rfl (lv_at hl 2 rfl) ?_
    refine lv_iconst (v := 4) hx hb d_C_quota_10 (by decide) ?_
    refine lv_icmp_le (tgt := 24) hx hb d_C_quota_11 (by decide) (fun c_11 => ?_) (fun c_11 => ?_)
    · skip
      refine lv_aload_n hx hb d_C_quota_24 rfl (lv_at hl 0 rfl) ?_
      refine va_get (D := D) (ci := 2) (v := .ref g.1.2.1) (C := R_C) (T := T_C) (N := 10) hx hb htb i_C hown hK hP 0 rfl rfl 5 (by decide) (htb _ k_C_41) (fun _ h9 => h9) rfl d_C_quota_25 ?_
      refine lv_iload_n hx hb d_C_quota_28 rfl (lv_at hl 1 rfl) ?_
      refine va_iald hx hb hK hP 17 0 rfl rfl (core_in hg.1 hv0 hv1) d_C_quota_29 ?_
      refine lv_istore_n (lv' := [(3, .int (x.2.2.2.2.1 p0.toNatClampNeg)), (0, .ref g.1.1), (1, .int p0), (2, .int p1)]) hx hb d_C_quota_30 rfl hl (by decide) rfl (fun ls hl => ?_)
      refine lv_aload_n hx hb d_C_quota_31 rfl (lv_at hl 1 rfl) ?_
      refine va_get (D := D) (ci := 2) (v := .ref g.1.2.1) (C := R_C) (T := T_C) (N := 10) hx hb htb i_C hown hK hP 0 rfl rfl 5 (by decide) (htb _ k_C_41) (fun _ h9 => h9) rfl d_C_quota_32 ?_
      refine lv_iload_n hx hb d_C_quota_35 rfl (lv_at hl 2 rfl) ?_
      refine lv_iload_n hx hb d_C_quota_36 rfl (lv_at hl 3 rfl) ?_
      refine va_iast hx hb hK hP hD hS 17 0 rfl rfl (core_in hg.1 hv0 hv1) d_C_quota_37 (fun H locs hP hD hS => ?_)
      have hP : va_P D vwCl (wC cI cZ g (x.1, x.2.1, x.2.2.1, x.2.2.2.1, (upd x.2.2.2.2.1 p0.toNatClampNeg p1), x.2.2.2.2.2)) H := hP
      have hD : va_D _ (wC cI cZ g (x.1, x.2.1, x.2.2.1, x.2.2.2.1, (upd x.2.2.2.2.1 p0.toNatClampNeg p1), x.2.2.2.2.2)) := hD
      refine lv_iload_n hx hb d_C_quota_38 rfl (lv_at hl 0 rfl) ?_
      exact W.iret (v := (x.2.2.2.2.1 p0.toNatClampNeg)) hx hb hr (fun t ht hW => ⟨⟨(x.2.2.2.2.1 p0.toNatClampNeg), (x.1, x.2.1, x.2.2.1, x.2.2.2.1, (upd x.2.2.2.2.1 p0.toNatClampNeg p1), x.2.2.2.2.2), rfl, hF.symm, by dsimp only; rw [ht]; exact hP⟩, hS.F ht⟩) hS.2.2 d_C_quota_39
    · exact absurd hq1 c_11

def M_C_bypass (g : GC) (x : Cs) (p0 p1 : Int32) : Int32 × Cs := (if x.1.2.1 < x.1.1 then ((0 : Int32), ((p0, p1, x.1.2.2), x.2.1, x.2.2.1, x.2.2.2.1, x.2.2.2.2.1, x.2.2.2.2.2)) else ((1 : Int32), ((p0, p1, x.1.2.2), x.2.1, x.2.2.1, x.2.2.2.1, x.2.2.2.2.1, x.2.2.2.2.2)))
theorem M_C_bypass_eq (g : GC) (x : Cs) (p0 p1 : Int32) : M_C_bypass g x p0 p1 = (if x.1.2.1 < x.1.1 then ((0 : Int32), ((p0, p1, x.1.2.2), x.2.1, x.2.2.1, x.2.2.2.1, x.2.2.2.2.1, x.2.2.2.2.2)) else ((1 : Int32), ((p0, p1, x.1.2.2), x.2.1, x.2.2.1, x.2.2.2.1, x.2.2.2.2.1, x.2.2.2.2.2))) := rfl
abbrev w_C_bypass : List Cond := .code y_C_bypass b_C_bypass 4 (some .boolean) :: tbW
abbrev rm_C_bypass : Room := { frames := 0, cells := 0, slots := 0, locals := 0 }
set_option maxHeartbeats 4000000 in
set_option maxRecDepth 100000 in
theorem c_C_bypass (l : Launch) (D : va_G) (cI cZ : ClassId) (g : GC) (hg : okC g) (x : Cs) (p0 p1 : Int32) : Met l y_C_bypass w_C_bypass rm_C_bypass (PcW D vwCl (tyK cI cZ) [.ref g.1.1, .int p0, .int p1] (wC cI cZ g x)) (va_Qi (fun (r : Int32) (u : Cs) => (r, u) = M_C_bypass g x p0 p1) (fun (u : Cs) (t : State) => va_P D vwCl (wC cI cZ g u) t.heap) (Aw (wC cI cZ g x))) 0 0 (Aw (wC cI cZ g x)) := by
  refine Met.ofW (cc := b_C_bypass) (maxL := 4) (ret := (some .boolean)) (by decide) rfl ?_
  intro p e s m args below meth c s₁ B hml hv
  obtain ⟨rfl, hP, hK, hD0⟩ := hv
  have hx := B.exec
  have hb := B.bytes
  have hr := B.returns
  have htb : ∀ w ∈ tbW, w.before _ s = true := fun w h => atoms_spec (ws := w_C_bypass) B.pre w (List.mem_cons_of_mem _ h)
  have hown : s.vm.findClass R_C = some m.cls := findClass_of_methodNamed B.named
  have hlocks := B.notSynchronized
  have hD : va_D (Aw (wC cI cZ g x)) (wC cI cZ g x) := ⟨hD0.1, fun k q hk => ⟨k, q.2, hk⟩⟩
  have hS : va_S (Aw (wC cI cZ g x)) s.heap s.heap [] := va_S.rf
  have hl := lv_entry ([.ref g.1.1, .int p0, .int p1]) (n := 4) (Nat.le_of_ble_eq_true rfl)
  rw [lg_entry_eq]
  generalize (lg_sl ([.ref g.1.1, .int p0, .int p1]) ++ List.replicate (4 - (lg_sl ([.ref g.1.1, .int p0, .int p1])).length) Slot.unset).toArray = ls at hl ⊢
  have hl : lv_has ls 4 [(0, .ref g.1.1), (1, .int p0), (2, .int p1)] := hl
  have hF := M_C_bypass_eq g x p0 p1
  refine lv_aload_n hx hb d_C_bypass_0 rfl (lv_at hl 0 rfl) ?_
  refine va_get (D := D) (ci := 2) (v := .int x.1.1) (C := R_C) (T := T_C) (N := 10) hx hb htb i_C hown hK hP 0 rfl rfl 7 (by decide) (htb _ k_C_48) (fun _ h9 => h9) rfl d_C_bypass_1 ?_
  refine lv_aload_n hx hb d_C_bypass_4 rfl (lv_at hl 0 rfl) ?_
  refine va_get (D := D) (ci := 2) (v := .int x.1.2.1) (C := R_C) (T := T_C) (N := 10) hx hb htb i_C hown hK hP 0 rfl rfl 8 (by decide) (htb _ k_C_51) (fun _ h9 => h9) rfl d_C_bypass_5 ?_
  refine lv_icmp_gt (tgt := 15) hx hb d_C_bypass_8 (by decide) (fun c_8 => ?_) (fun c_8 => ?_)
  · have hF := hF.trans (if_pos c_8)
    refine lv_iconst (v := 0) hx hb d_C_bypass_15 (by decide) ?_
    refine lv_istore_n (lv' := [(3, .int (0 : Int32)), (0, .ref g.1.1), (1, .int p0), (2, .int p1)]) hx hb d_C_bypass_16 rfl hl (by decide) rfl (fun ls hl => ?_)
    refine lv_aload_n hx hb d_C_bypass_17 rfl (lv_at hl 1 rfl) ?_
    refine lv_iload_n hx hb d_C_bypass_18 rfl (lv_at hl 2 rfl) ?_
    refine va_put (D := D) (ci := 2) (v := .int p0) (ty := .int) (C := R_C) (T := T_C) (N := 10) hx hb htb i_C ty_C tyo_C nm_C hown hK hP hD hS 0 rfl rfl 7 (by decide) (htb _ k_C_48) (fun _ h9 => h9) rfl (by decide +kernel) rfl rfl (Nat.le_of_ble_eq_true rfl) d_C_bypass_19 (fun H locs hP hD hS => ?_)
    have hP : va_P D vwCl (wC cI cZ g ((p0, x.1.2.1, x.1.2.2), x.2.1, x.2.2.1, x.2.2.2.1, x.2.2.2.2.1, x.2.2.2.2.2)) H := hP
    have hD : va_D _ (wC cI cZ g ((p0, x.1.2.1, x.1.2.2), x.2.1, x.2.2.1, x.2.2.2.1, x.2.2.2.2.1, x.2.2.2.2.2)) := hD
    refine lv_aload_n hx hb d_C_bypass_22 rfl (lv_at hl 1 rfl) ?_
    refine lv_iload_n hx hb d_C_bypass_23 rfl (lv_at hl 3 rfl) ?_
    refine va_put (D := D) (ci := 2) (v := .int p1) (ty := .int) (C := R_C) (T := T_C) (N := 10) hx hb htb i_C ty_C tyo_C nm_C hown hK hP hD hS 0 rfl rfl 8 (by decide) (htb _ k_C_51) (fun _ h9 => h9) rfl (by decide +kernel) rfl rfl (Nat.le_of_ble_eq_true rfl) d_C_bypass_24 (fun H locs hP hD hS => ?_)
    have hP : va_P D vwCl (wC cI cZ g ((p0, p1, x.1.2.2), x.2.1, x.2.2.1, x.2.2.2.1, x.2.2.2.2.1, x.2.2.2.2.2)) H := hP
    have hD : va_D _ (wC cI cZ g ((p0, p1, x.1.2.2), x.2.1, x.2.2.1, x.2.2.2.1, x.2.2.2.2.1, x.2.2.2.2.2)) := hD
    refine lv_iload_n hx hb d_C_bypass_27 rfl (lv_at hl 0 rfl) ?_
    exact W.zret (v := (0 : Int32)) (ty := .boolean) hx hb hr rfl (fun t ht hW => ⟨⟨(0 : Int32), ((p0, p1, x.1.2.2), x.2.1, x.2.2.1, x.2.2.2.1, x.2.2.2.2.1, x.2.2.2.2.2), rfl, hF.symm, by dsimp only; rw [ht]; exact hP⟩, hS.F ht⟩) hS.2.2 d_C_bypass_28
  · have hF := hF.trans (if_neg c_8)
    refine lv_iconst (v := 1) hx hb d_C_bypass_11 (by decide) ?_
    refine lv_goto (tgt := 16) hx hb d_C_bypass_12 (by decide) ?_
    refine lv_istore_n (lv' := [(3, .int (1 : Int32)), (0, .ref g.1.1), (1, .int p0), (2, .int p1)]) hx hb d_C_bypass_16 rfl hl (by decide) rfl (fun ls hl => ?_)
    refine lv_aload_n hx hb d_C_bypass_17 rfl (lv_at hl 1 rfl) ?_
    refine lv_iload_n hx hb d_C_bypass_18 rfl (lv_at hl 2 rfl) ?_
    refine va_put (D := D) (ci := 2) (v := .int p0) (ty := .int) (C := R_C) (T := T_C) (N := 10) hx hb htb i_C ty_C tyo_C nm_C hown hK hP hD hS 0 rfl rfl 7 (by decide) (htb _ k_C_48) (fun _ h9 => h9) rfl (by decide +kernel) rfl rfl (Nat.le_of_ble_eq_true rfl) d_C_bypass_19 (fun H locs hP hD hS => ?_)
    have hP : va_P D vwCl (wC cI cZ g ((p0, x.1.2.1, x.1.2.2), x.2.1, x.2.2.1, x.2.2.2.1, x.2.2.2.2.1, x.2.2.2.2.2)) H := hP
    have hD : va_D _ (wC cI cZ g ((p0, x.1.2.1, x.1.2.2), x.2.1, x.2.2.1, x.2.2.2.1, x.2.2.2.2.1, x.2.2.2.2.2)) := hD
    refine lv_aload_n hx hb d_C_bypass_22 rfl (lv_at hl 1 rfl) ?_
    refine lv_iload_n hx hb d_C_bypass_23 rfl (lv_at hl 3 rfl) ?_
    refine va_put (D := D) (ci := 2) (v := .int p1) (ty := .int) (C := R_C) (T := T_C) (N := 10) hx hb htb i_C ty_C tyo_C nm_C hown hK hP hD hS 0 rfl rfl 8 (by decide) (htb _ k_C_51) (fun _ h9 => h9) rfl (by decide +kernel) rfl rfl (Nat.le_of_ble_eq_true rfl) d_C_bypass_24 (fun H locs hP hD hS => ?_)
    have hP : va_P D vwCl (wC cI cZ g ((p0, p1, x.1.2.2), x.2.1, x.2.2.1, x.2.2.2.1, x.2.2.2.2.1, x.2.2.2.2.2)) H := hP
    have hD : va_D _ (wC cI cZ g ((p0, p1, x.1.2.2), x.2.1, x.2.2.1, x.2.2.2.1, x.2.2.2.2.1, x.2.2.2.2.2)) := hD
    refine lv_iload_n hx hb d_C_bypass_27 rfl (lv_at hl 0 rfl) ?_
    exact W.zret (v := (1 : Int32)) (ty := .boolean) hx hb hr rfl (fun t ht hW => ⟨⟨(1 : Int32), ((p0, p1, x.1.2.2), x.2.1, x.2.2.1, x.2.2.2.1, x.2.2.2.2.1, x.2.2.2.2.2), rfl, hF.symm, by dsimp only; rw [ht]; exact hP⟩, hS.F ht⟩) hS.2.2 d_C_bypass_28

def L_C_flush_79 (g : GC) : Nat → Int32 → Int32 → Cs → Int32 × Cs
  | 0, _, _, z => (0, z)
  | n + 1, v1, v2, z => (bnd (M_B_slots g.2.2.2.1 z.2.1) (fun r_84 => (if r_84 ≤ v2 then (bnd (M_B_clear g.2.2.2.1 z.2.1) (fun u_134 => (bnd (M_B_clear g.2.2.2.2.1 z.2.2.1) (fun u_141 => ((z.2.2.2.1.1 - v1), (z.1, u_134, u_141, z.2.2.2.1, z.2.2.2.2.1, z.2.2.2.2.2)))))) else (bnd (M_B_isWritten g.2.2.2.1 z.2.1 v2) (fun r_95 => (if r_95 = 0 then L_C_flush_79 g n v1 (v2 + 1) z else (bnd (M_B_lineAt g.2.2.2.1 z.2.1 v2) (fun r_110 => (bnd (M_B_versionAt g.2.2.2.1 z.2.1 v2) (fun r_118 => (bnd (M_V_writeBack g.2.2.2.2.2 z.2.2.2.1 r_110 r_118) (fun u_121 => L_C_flush_79 g n v1 (v2 + 1) (z.1, z.2.1, z.2.2.1, u_121, z.2.2.2.2.1, z.2.2.2.2.2)))))))))))))
theorem L_C_flush_79_eq (g : GC) (n : Nat) (v1 v2 : Int32) (z : Cs) : L_C_flush_79 g (n + 1) v1 v2 z = (bnd (M_B_slots g.2.2.2.1 z.2.1) (fun r_84 => (if r_84 ≤ v2 then (bnd (M_B_clear g.2.2.2.1 z.2.1) (fun u_134 => (bnd (M_B_clear g.2.2.2.2.1 z.2.2.1) (fun u_141 => ((z.2.2.2.1.1 - v1), (z.1, u_134, u_141, z.2.2.2.1, z.2.2.2.2.1, z.2.2.2.2.2)))))) else (bnd (M_B_isWritten g.2.2.2.1 z.2.1 v2) (fun r_95 => (if r_95 = 0 then L_C_flush_79 g n v1 (v2 + 1) z else (bnd (M_B_lineAt g.2.2.2.1 z.2.1 v2) (fun r_110 => (bnd (M_B_versionAt g.2.2.2.1 z.2.1 v2) (fun r_118 => (bnd (M_V_writeBack g.2.2.2.2.2 z.2.2.2.1 r_110 r_118) (fun u_121 => L_C_flush_79 g n v1 (v2 + 1) (z.1, z.2.1, z.2.2.1, u_121, z.2.2.2.2.1, z.2.2.2.2.2))))))))))))) := by first | rfl | rw [L_C_flush_79]
def L_C_flush_10 (g : GC) : Nat → Int32 → Int32 → Cs → Int32 × Cs
  | 0, _, _, z => (0, z)
  | n + 1, v1, v2, z => (bnd (M_B_slots g.2.2.2.2.1 z.2.2.1) (fun r_15 => (if r_15 ≤ v2 then L_C_flush_79 g (mu (0 : Int32) (nI g.2.2.2.1.2.2.2) + 1) v1 (0 : Int32) z else (bnd (M_B_isWritten g.2.2.2.2.1 z.2.2.1 v2) (fun r_26 => (if r_26 = 0 then L_C_flush_10 g n v1 (v2 + 1) z else (bnd (M_B_lineAt g.2.2.2.2.1 z.2.2.1 v2) (fun r_38 => (bnd (M_C_writtenInFirst g z r_38) (fun r_41 => (if r_41 = (-1 : Int32) then (bnd (M_B_lineAt g.2.2.2.2.1 z.2.2.1 v2) (fun r_57 => (bnd (M_B_versionAt g.2.2.2.2.1 z.2.2.1 v2) (fun r_65 => (bnd (M_V_writeBack g.2.2.2.2.2 z.2.2.2.1 r_57 r_65) (fun u_68 => L_C_flush_10 g n v1 (v2 + 1) (z.1, z.2.1, z.2.2.1, u_68, z.2.2.2.2.1, z.2.2.2.2.2))))))) else L_C_flush_10 g n v1 (v2 + 1) z)))))))))))
theorem L_C_flush_10_eq (g : GC) (n : Nat) (v1 v2 : Int32) (z : Cs) : L_C_flush_10 g (n + 1) v1 v2 z = (bnd (M_B_slots g.2.2.2.2.1 z.2.2.1) (fun r_15 => (if r_15 ≤ v2 then L_C_flush_79 g (mu (0 : Int32) (nI g.2.2.2.1.2.2.2) + 1) v1 (0 : Int32) z else (bnd (M_B_isWritten g.2.2.2.2.1 z.2.2.1 v2) (fun r_26 => (if r_26 = 0 then L_C_flush_10 g n v1 (v2 + 1) z else (bnd (M_B_lineAt g.2.2.2.2.1 z.2.2.1 v2) (fun r_38 => (bnd (M_C_writtenInFirst g z r_38) (fun r_41 => (if r_41 = (-1 : Int32) then (bnd (M_B_lineAt g.2.2.2.2.1 z.2.2.1 v2) (fun r_57 => (bnd (M_B_versionAt g.2.2.2.2.1 z.2.2.1 v2) (fun r_65 => (bnd (M_V_writeBack g.2.2.2.2.2 z.2.2.2.1 r_57 r_65) (fun u_68 => L_C_flush_10 g n v1 (v2 + 1) (z.1, z.2.1, z.2.2.1, u_68, z.2.2.2.2.1, z.2.2.2.2.2))))))) else L_C_flush_10 g n v1 (v2 + 1) z))))))))))) := by first | rfl | rw [L_C_flush_10]
def M_C_flush (g : GC) (x : Cs) : Int32 × Cs := L_C_flush_10 g (mu (0 : Int32) (nI g.2.2.2.2.1.2.2.2) + 1) x.2.2.2.1.1 (0 : Int32) x
theorem M_C_flush_eq (g : GC) (x : Cs) : M_C_flush g x = L_C_flush_10 g (mu (0 : Int32) (nI g.2.2.2.2.1.2.2.2) + 1) x.2.2.2.1.1 (0 : Int32) x := rfl
abbrev w_C_flush : List Cond := .code y_C_flush b_C_flush 3 (some .int) :: tbW
abbrev rm_C_flush : Room := { frames := 4, cells := 0, slots := 0, locals := 91 }
set_option maxHeartbeats 4000000 in
set_option maxRecDepth 100000 in
theorem c_C_flush (l : Launch) (D : va_G) (cI cZ : ClassId) (g : GC) (hg : okC g) (x : Cs) : Met l y_C_flush w_C_flush rm_C_flush (PcW D vwCl (tyK cI cZ) [.ref g.1.1] (wC cI cZ g x)) (va_Qi (fun (r : Int32) (u : Cs) => (r, u) = M_C_flush g x) (fun (u : Cs) (t : State) => va_P D vwCl (wC cI cZ g u) t.heap) (Aw (wC cI cZ g x))) 0 0 (Aw (wC cI cZ g x)) := by
  refine Met.ofW (cc := b_C_flush) (maxL := 3) (ret := (some .int)) (by decide) rfl ?_
  intro p e s m args below meth c s₁ B hml hv
  obtain ⟨rfl, hP, hK, hD0⟩ := hv
  have hx := B.exec
  have hb := B.bytes
  have hr := B.returns
  have htb : ∀ w ∈ tbW, w.before _ s = true := fun w h => atoms_spec (ws := w_C_flush) B.pre w (List.mem_cons_of_mem _ h)
  have hown : s.vm.findClass R_C = some m.cls := findClass_of_methodNamed B.named
  have hlocks := B.notSynchronized
  have hD : va_D (Aw (wC cI cZ g x)) (wC cI cZ g x) := ⟨hD0.1, fun k q hk => ⟨k, q.2, hk⟩⟩
  have hS : va_S (Aw (wC cI cZ g x)) s.heap s.heap [] := va_S.rf
  have cut_79 : ∀ (n : Nat) (v1 v2 : Int32) (z : Cs) (H : Heap) (locs : List Loc) (ls : Array Slot), mu v2 (nI g.2.2.2.1.2.2.2) < n → M_C_flush g x = L_C_flush_79 g n v1 v2 z → va_P D vwCl (wC cI cZ g z) H → va_D (Aw (wC cI cZ g x)) (wC cI cZ g z) → va_S (Aw (wC cI cZ g x)) s.heap H locs → lv_has ls 3 [(0, .ref g.1.1), (1, .int v1), (2, .int v2)] → W p l e (headSpec w_C_flush rm_C_flush).room s m ([.ref g.1.1] : List Value).toArray below meth c H locs 0 0 (MQ below (va_Qi (fun (r : Int32) (u : Cs) => (r, u) = M_C_flush g x) (fun (u : Cs) (t : State) => va_P D vwCl (wC cI cZ g u) t.heap) (Aw (wC cI cZ g x))) ([.ref g.1.1] : List Value).toArray s 0 0 (Aw (wC cI cZ g x))) (F0 m 79 ls []) := by
    intro n
    induction n with
    | zero => intro v1 v2 z H locs ls hm _ _ _ _ _; exact absurd hm (Nat.not_lt_zero _)
    | succ n ih =>
      intro v1 v2 z H locs ls hm hF hP hD hS hl
      have hF := hF.trans (L_C_flush_79_eq g n v1 v2 z)
      refine lv_iload_n hx hb d_C_flush_79 rfl (lv_at hl 2 rfl) ?_
      refine lv_aload_n hx hb d_C_flush_80 rfl (lv_at hl 0 rfl) ?_
      refine va_get (D := D) (ci := 2) (v := .ref g.2.2.2.1.1.1) (C := R_C) (T := T_C) (N := 10) hx hb htb i_C hown hK hP 0 rfl rfl 2 (by decide) (htb _ k_C_27) (fun _ h9 => h9) rfl d_C_flush_81 ?_
      refine cpi (As := []) (rest := [.int v2]) ⟨hx, hb, hml, hown, htb⟩ (c_B_slots l D cI cZ g.2.2.2.1 hg.2.1 z.2.1) (cwv (n := 0) htb cd_B_slots k_C_92 in_B_slots se_B_slots ini_B hd_B_slots ⟨Nat.le_of_ble_eq_true rfl, Nat.le_of_ble_eq_true rfl⟩) hK hP [1, 2, 3, 4, 5, 6] rfl (ci := 0) rfl rfl rfl hl.1 rfl (Nat.le_of_ble_eq_true rfl) d_C_flush_84 ⟨Nat.zero_le _, Nat.zero_le _⟩ (fun r_84 hw_84 => ?_)
      have hF := hF.trans (bnd_eq hw_84)
      refine lv_icmp_ge (tgt := 130) hx hb d_C_flush_87 (by decide) (fun c_87 => ?_) (fun c_87 => ?_)
      · have hF := hF.trans (if_pos c_87)
        refine lv_aload_n hx hb d_C_flush_130 rfl (lv_at hl 0 rfl) ?_
        refine va_get (D := D) (ci := 2) (v := .ref g.2.2.2.1.1.1) (C := R_C) (T := T_C) (N := 10) hx hb htb i_C hown hK hP 0 rfl rfl 2 (by decide) (htb _ k_C_27) (fun _ h9 => h9) rfl d_C_flush_131 ?_
        refine cwv_ (As := []) (rest := []) (wldC := fun u => (wC cI cZ g (z.1, u, z.2.2.1, z.2.2.2.1, z.2.2.2.2.1, z.2.2.2.2.2))) ⟨hx, hb, hml, hown, htb⟩ (c_B_clear l D cI cZ g.2.2.2.1 hg.2.1 z.2.1) (cwv (n := 0) htb cd_B_clear k_C_113 in_B_clear se_B_clear ini_B hd_B_clear ⟨Nat.le_of_ble_eq_true rfl, Nat.le_of_ble_eq_true rfl⟩) hK hP hD hS [1, 2, 3, 4, 5, 6] [0, 7, 8, 9, 10, 11, 12, 13, 14, 15, 16, 17, 18] [0, 13, 14, 15, 16, 17, 18, 1, 2, 3, 4, 5, 6, 7, 8, 9, 10, 11, 12] rfl rfl (by decide) (by decide) rfl (fun _ => rfl) (fun _ => rfl) (ci := 0) rfl rfl rfl hl.1 rfl (Nat.le_of_ble_eq_true rfl) d_C_flush_134 ⟨Nat.zero_le _, Nat.zero_le _⟩ (fun u_134 H locs hw_134 hP hD hS => ?_)
        have hP : va_P D vwCl (wC cI cZ g (z.1, u_134, z.2.2.1, z.2.2.2.1, z.2.2.2.2.1, z.2.2.2.2.2)) H := hP
        have hD : va_D _ (wC cI cZ g (z.1, u_134, z.2.2.1, z.2.2.2.1, z.2.2.2.2.1, z.2.2.2.2.2)) := hD
        have hF := hF.trans (bnd_eq hw_134)
        refine lv_aload_n hx hb d_C_flush_137 rfl (lv_at hl 0 rfl) ?_
        refine va_get (D := D) (ci := 2) (v := .ref g.2.2.2.2.1.1.1) (C := R_C) (T := T_C) (N := 10) hx hb htb i_C hown hK hP 0 rfl rfl 3 (by decide) (htb _ k_C_31) (fun _ h9 => h9) rfl d_C_flush_138 ?_
        refine cwv_ (As := []) (rest := []) (wldC := fun u => (wC cI cZ g (z.1, u_134, u, z.2.2.2.1, z.2.2.2.2.1, z.2.2.2.2.2))) ⟨hx, hb, hml, hown, htb⟩ (c_B_clear l D cI cZ g.2.2.2.2.1 hg.2.2.1 z.2.2.1) (cwv (n := 0) htb cd_B_clear k_C_113 in_B_clear se_B_clear ini_B hd_B_clear ⟨Nat.le_of_ble_eq_true rfl, Nat.le_of_ble_eq_true rfl⟩) hK hP hD hS [7, 8, 9, 10, 11, 12] [0, 1, 2, 3, 4, 5, 6, 13, 14, 15, 16, 17, 18] [0, 1, 2, 3, 4, 5, 6, 13, 14, 15, 16, 17, 18, 7, 8, 9, 10, 11, 12] rfl rfl (by decide) (by decide) rfl (fun _ => rfl) (fun _ => rfl) (ci := 0) rfl rfl rfl hl.1 rfl (Nat.le_of_ble_eq_true rfl) d_C_flush_141 ⟨Nat.zero_le _, Nat.zero_le _⟩ (fun u_141 H locs hw_141 hP hD hS => ?_)
        have hP : va_P D vwCl (wC cI cZ g (z.1, u_134, u_141, z.2.2.2.1, z.2.2.2.2.1, z.2.2.2.2.2)) H := hP
        have hD : va_D _ (wC cI cZ g (z.1, u_134, u_141, z.2.2.2.1, z.2.2.2.2.1, z.2.2.2.2.2)) := hD
        have hF := hF.trans (bnd_eq hw_141)
        refine lv_aload_n hx hb d_C_flush_144 rfl (lv_at hl 0 rfl) ?_
        refine va_get (D := D) (ci := 2) (v := .ref g.2.2.2.2.2.1.1) (C := R_C) (T := T_C) (N := 10) hx hb htb i_C hown hK hP 0 rfl rfl 4 (by decide) (htb _ k_C_37) (fun _ h9 => h9) rfl d_C_flush_145 ?_
        refine va_get (D := D) (ci := 1) (v := .int z.2.2.2.1.1) (C := R_V) (T := T_V) (N := 5) hx hb htb i_V hown hK hP 13 rfl rfl 0 (by decide) (htb _ k_C_89) (fun _ h9 => h9) rfl d_C_flush_148 ?_
        refine lv_iload_n hx hb d_C_flush_151 rfl (lv_at hl 1 rfl) ?_
        refine lv_isub hx hb d_C_flush_152 ?_
        exact W.iret (v := (z.2.2.2.1.1 - v1)) hx hb hr (fun t ht hW => ⟨⟨(z.2.2.2.1.1 - v1), (z.1, u_134, u_141, z.2.2.2.1, z.2.2.2.2.1, z.2.2.2.2.2), rfl, hF.symm, by dsimp only; rw [ht]; exact hP⟩, hS.F ht⟩) hS.2.2 d_C_flush_153
      · have hF := hF.trans (if_neg c_87)
        refine lv_aload_n hx hb d_C_flush_90 rfl (lv_at hl 0 rfl) ?_
        refine va_get (D := D) (ci := 2) (v := .ref g.2.2.2.1.1.1) (C := R_C) (T := T_C) (N := 10) hx hb htb i_C hown hK hP 0 rfl rfl 2 (by decide) (htb _ k_C_27) (fun _ h9 => h9) rfl d_C_flush_91 ?_
        refine lv_iload_n hx hb d_C_flush_94 rfl (lv_at hl 2 rfl) ?_
        refine cpi (As := [.int v2]) (rest := []) ⟨hx, hb, hml, hown, htb⟩ (c_B_isWritten l D cI cZ g.2.2.2.1 hg.2.1 z.2.1 v2) (cwv (n := 1) htb cd_B_isWritten k_C_96 in_B_isWritten se_B_isWritten ini_B hd_B_isWritten ⟨Nat.le_of_ble_eq_true rfl, Nat.le_of_ble_eq_true rfl⟩) hK hP [1, 2, 3, 4, 5, 6] rfl (ci := 0) rfl rfl rfl hl.1 rfl (Nat.le_of_ble_eq_true rfl) d_C_flush_95 ⟨Nat.zero_le _, Nat.zero_le _⟩ (fun r_95 hw_95 => ?_)
        have hF := hF.trans (bnd_eq hw_95)
        refine lv_if_eq (tgt := 124) hx hb d_C_flush_98 (by decide) (fun c_98 => ?_) (fun c_98 => ?_)
        · have hF := hF.trans (if_pos c_98)
          refine lv_iinc (v := (v2 + 1)) (lv' := [(2, .int (v2 + 1)), (0, .ref g.1.1), (1, .int v1)]) hx hb d_C_flush_124 hl (k := 2) rfl rfl (by decide) rfl (fun ls hl => ?_)
          refine lv_goto (tgt := 79) hx hb d_C_flush_127 (by decide) ?_
          have hl := lv_sub (l' := [(0, .ref g.1.1), (1, .int v1), (2, .int (v2 + 1))]) hl [1, 2, 0] rfl
          exact ih v1 (v2 + 1) z _ _ _ (Nat.lt_of_lt_of_le (mu_decr (hw_84.trans (M_B_slots_eq _ _)) c_87) (Nat.le_of_lt_succ hm)) hF hP hD hS hl
        · have hF := hF.trans (if_neg c_98)
          refine lv_aload_n hx hb d_C_flush_101 rfl (lv_at hl 0 rfl) ?_
          refine va_get (D := D) (ci := 2) (v := .ref g.2.2.2.2.2.1.1) (C := R_C) (T := T_C) (N := 10) hx hb htb i_C hown hK hP 0 rfl rfl 4 (by decide) (htb _ k_C_37) (fun _ h9 => h9) rfl d_C_flush_102 ?_
          refine lv_aload_n hx hb d_C_flush_105 rfl (lv_at hl 0 rfl) ?_
          refine va_get (D := D) (ci := 2) (v := .ref g.2.2.2.1.1.1) (C := R_C) (T := T_C) (N := 10) hx hb htb i_C hown hK hP 0 rfl rfl 2 (by decide) (htb _ k_C_27) (fun _ h9 => h9) rfl d_C_flush_106 ?_
          refine lv_iload_n hx hb d_C_flush_109 rfl (lv_at hl 2 rfl) ?_
          refine cpi (As := [.int v2]) (rest := [.ref g.2.2.2.2.2.1.1]) ⟨hx, hb, hml, hown, htb⟩ (c_B_lineAt l D cI cZ g.2.2.2.1 hg.2.1 z.2.1 v2) (cwv (n := 1) htb cd_B_lineAt k_C_100 in_B_lineAt se_B_lineAt ini_B hd_B_lineAt ⟨Nat.le_of_ble_eq_true rfl, Nat.le_of_ble_eq_true rfl⟩) hK hP [1, 2, 3, 4, 5, 6] rfl (ci := 0) rfl rfl rfl hl.1 rfl (Nat.le_of_ble_eq_true rfl) d_C_flush_110 ⟨Nat.zero_le _, Nat.zero_le _⟩ (fun r_110 hw_110 => ?_)
          have hF := hF.trans (bnd_eq hw_110)
          refine lv_aload_n hx hb d_C_flush_113 rfl (lv_at hl 0 rfl) ?_
          refine va_get (D := D) (ci := 2) (v := .ref g.2.2.2.1.1.1) (C := R_C) (T := T_C) (N := 10) hx hb htb i_C hown hK hP 0 rfl rfl 2 (by decide) (htb _ k_C_27) (fun _ h9 => h9) rfl d_C_flush_114 ?_
          refine lv_iload_n hx hb d_C_flush_117 rfl (lv_at hl 2 rfl) ?_
          refine cpi (As := [.int v2]) (rest := [.int r_110, .ref g.2.2.2.2.2.1.1]) ⟨hx, hb, hml, hown, htb⟩ (c_B_versionAt l D cI cZ g.2.2.2.1 hg.2.1 z.2.1 v2) (cwv (n := 1) htb cd_B_versionAt k_C_107 in_B_versionAt se_B_versionAt ini_B hd_B_versionAt ⟨Nat.le_of_ble_eq_true rfl, Nat.le_of_ble_eq_true rfl⟩) hK hP [1, 2, 3, 4, 5, 6] rfl (ci := 0) rfl rfl rfl hl.1 rfl (Nat.le_of_ble_eq_true rfl) d_C_flush_118 ⟨Nat.zero_le _, Nat.zero_le _⟩ (fun r_118 hw_118 => ?_)
          have hF := hF.trans (bnd_eq hw_118)
          refine cwv_ (As := [.int r_110, .int r_118]) (rest := []) (wldC := fun u => (wC cI cZ g (z.1, z.2.1, z.2.2.1, u, z.2.2.2.2.1, z.2.2.2.2.2))) ⟨hx, hb, hml, hown, htb⟩ (c_V_writeBack l D cI cZ g.2.2.2.2.2 hg.2.2.2 z.2.2.2.1 r_110 r_118) (cwv (n := 2) htb cd_V_writeBack k_C_110 in_V_writeBack se_V_writeBack ini_V hd_V_writeBack ⟨Nat.le_of_ble_eq_true rfl, Nat.le_of_ble_eq_true rfl⟩) hK hP hD hS [13, 14, 15, 16] [0, 1, 2, 3, 4, 5, 6, 7, 8, 9, 10, 11, 12, 17, 18] [0, 1, 2, 3, 4, 5, 6, 7, 8, 9, 10, 11, 12, 15, 16, 17, 18, 13, 14] rfl rfl (by decide) (by decide) rfl (fun _ => rfl) (fun _ => rfl) (ci := 1) rfl rfl rfl hl.1 rfl (Nat.le_of_ble_eq_true rfl) d_C_flush_121 ⟨Nat.zero_le _, Nat.zero_le _⟩ (fun u_121 H locs hw_121 hP hD hS => ?_)
          have hP : va_P D vwCl (wC cI cZ g (z.1, z.2.1, z.2.2.1, u_121, z.2.2.2.2.1, z.2.2.2.2.2)) H := hP
          have hD : va_D _ (wC cI cZ g (z.1, z.2.1, z.2.2.1, u_121, z.2.2.2.2.1, z.2.2.2.2.2)) := hD
          have hF := hF.trans (bnd_eq hw_121)
          refine lv_iinc (v := (v2 + 1)) (lv' := [(2, .int (v2 + 1)), (0, .ref g.1.1), (1, .int v1)]) hx hb d_C_flush_124 hl (k := 2) rfl rfl (by decide) rfl (fun ls hl => ?_)
          refine lv_goto (tgt := 79) hx hb d_C_flush_127 (by decide) ?_
          have hl := lv_sub (l' := [(0, .ref g.1.1), (1, .int v1), (2, .int (v2 + 1))]) hl [1, 2, 0] rfl
          exact ih v1 (v2 + 1) (z.1, z.2.1, z.2.2.1, u_121, z.2.2.2.2.1, z.2.2.2.2.2) _ _ _ (Nat.lt_of_lt_of_le (mu_decr (hw_84.trans (M_B_slots_eq _ _)) c_87) (Nat.le_of_lt_succ hm)) hF hP hD hS hl
  have cut_10 : ∀ (n : Nat) (v1 v2 : Int32) (z : Cs) (H : Heap) (locs : List Loc) (ls : Array Slot), mu v2 (nI g.2.2.2.2.1.2.2.2) < n → M_C_flush g x = L_C_flush_10 g n v1 v2 z → va_P D vwCl (wC cI cZ g z) H → va_D (Aw (wC cI cZ g x)) (wC cI cZ g z) → va_S (Aw (wC cI cZ g x)) s.heap H locs → lv_has ls 3 [(0, .ref g.1.1), (1, .int v1), (2, .int v2)] → W p l e (headSpec w_C_flush rm_C_flush).room s m ([.ref g.1.1] : List Value).toArray below meth c H locs 0 0 (MQ below (va_Qi (fun (r : Int32) (u : Cs) => (r, u) = M_C_flush g x) (fun (u : Cs) (t : State) => va_P D vwCl (wC cI cZ g u) t.heap) (Aw (wC cI cZ g x))) ([.ref g.1.1] : List Value).toArray s 0 0 (Aw (wC cI cZ g x))) (F0 m 10 ls []) := by
    intro n
    induction n with
    | zero => intro v1 v2 z H locs ls hm _ _ _ _ _; exact absurd hm (Nat.not_lt_zero _)
    | succ n ih =>
      intro v1 v2 z H locs ls hm hF hP hD hS hl
      have hF := hF.trans (L_C_flush_10_eq g n v1 v2 z)
      refine lv_iload_n hx hb d_C_flush_10 rfl (lv_at hl 2 rfl) ?_
      refine lv_aload_n hx hb d_C_flush_11 rfl (lv_at hl 0 rfl) ?_
      refine va_get (D := D) (ci := 2) (v := .ref g.2.2.2.2.1.1.1) (C := R_C) (T := T_C) (N := 10) hx hb htb i_C hown hK hP 0 rfl rfl 3 (by decide) (htb _ k_C_31) (fun _ h9 => h9) rfl d_C_flush_12 ?_
      refine cpi (As := []) (rest := [.int v2]) ⟨hx, hb, hml, hown, htb⟩ (c_B_slots l D cI cZ g.2.2.2.2.1 hg.2.2.1 z.2.2.1) (cwv (n := 0) htb cd_B_slots k_C_92 in_B_slots se_B_slots ini_B hd_B_slots ⟨Nat.le_of_ble_eq_true rfl, Nat.le_of_ble_eq_true rfl⟩) hK hP [7, 8, 9, 10, 11, 12] rfl (ci := 0) rfl rfl rfl hl.1 rfl (Nat.le_of_ble_eq_true rfl) d_C_flush_15 ⟨Nat.zero_le _, Nat.zero_le _⟩ (fun r_15 hw_15 => ?_)
      have hF := hF.trans (bnd_eq hw_15)
      refine lv_icmp_ge (tgt := 77) hx hb d_C_flush_18 (by decide) (fun c_18 => ?_) (fun c_18 => ?_)
      · have hF := hF.trans (if_pos c_18)
        refine lv_iconst (v := 0) hx hb d_C_flush_77 (by decide) ?_
        refine lv_istore_n (lv' := [(2, .int (0 : Int32)), (0, .ref g.1.1), (1, .int v1)]) hx hb d_C_flush_78 rfl hl (by decide) rfl (fun ls hl => ?_)
        have hl := lv_sub (l' := [(0, .ref g.1.1), (1, .int v1), (2, .int (0 : Int32))]) hl [1, 2, 0] rfl
        exact cut_79 (mu (0 : Int32) (nI g.2.2.2.1.2.2.2) + 1) v1 (0 : Int32) z _ _ _ (Nat.lt_succ_self _) hF hP hD hS hl
      · have hF := hF.trans (if_neg c_18)
        refine lv_aload_n hx hb d_C_flush_21 rfl (lv_at hl 0 rfl) ?_
        refine va_get (D := D) (ci := 2) (v := .ref g.2.2.2.2.1.1.1) (C := R_C) (T := T_C) (N := 10) hx hb htb i_C hown hK hP 0 rfl rfl 3 (by decide) (htb _ k_C_31) (fun _ h9 => h9) rfl d_C_flush_22 ?_
        refine lv_iload_n hx hb d_C_flush_25 rfl (lv_at hl 2 rfl) ?_
        refine cpi (As := [.int v2]) (rest := []) ⟨hx, hb, hml, hown, htb⟩ (c_B_isWritten l D cI cZ g.2.2.2.2.1 hg.2.2.1 z.2.2.1 v2) (cwv (n := 1) htb cd_B_isWritten k_C_96 in_B_isWritten se_B_isWritten ini_B hd_B_isWritten ⟨Nat.le_of_ble_eq_true rfl, Nat.le_of_ble_eq_true rfl⟩) hK hP [7, 8, 9, 10, 11, 12] rfl (ci := 0) rfl rfl rfl hl.1 rfl (Nat.le_of_ble_eq_true rfl) d_C_flush_26 ⟨Nat.zero_le _, Nat.zero_le _⟩ (fun r_26 hw_26 => ?_)
        have hF := hF.trans (bnd_eq hw_26)
        refine lv_if_eq (tgt := 71) hx hb d_C_flush_29 (by decide) (fun c_29 => ?_) (fun c_29 => ?_)
        · have hF := hF.trans (if_pos c_29)
          refine lv_iinc (v := (v2 + 1)) (lv' := [(2, .int (v2 + 1)), (0, .ref g.1.1), (1, .int v1)]) hx hb d_C_flush_71 hl (k := 2) rfl rfl (by decide) rfl (fun ls hl => ?_)
          refine lv_goto (tgt := 10) hx hb d_C_flush_74 (by decide) ?_
          have hl := lv_sub (l' := [(0, .ref g.1.1), (1, .int v1), (2, .int (v2 + 1))]) hl [1, 2, 0] rfl
          exact ih v1 (v2 + 1) z _ _ _ (Nat.lt_of_lt_of_le (mu_decr (hw_15.trans (M_B_slots_eq _ _)) c_18) (Nat.le_of_lt_succ hm)) hF hP hD hS hl
        · have hF := hF.trans (if_neg c_29)
          refine lv_aload_n hx hb d_C_flush_32 rfl (lv_at hl 0 rfl) ?_
          refine lv_aload_n hx hb d_C_flush_33 rfl (lv_at hl 0 rfl) ?_
          refine va_get (D := D) (ci := 2) (v := .ref g.2.2.2.2.1.1.1) (C := R_C) (T := T_C) (N := 10) hx hb htb i_C hown hK hP 0 rfl rfl 3 (by decide) (htb _ k_C_31) (fun _ h9 => h9) rfl d_C_flush_34 ?_
          refine lv_iload_n hx hb d_C_flush_37 rfl (lv_at hl 2 rfl) ?_
          refine cpi (As := [.int v2]) (rest := [.ref g.1.1]) ⟨hx, hb, hml, hown, htb⟩ (c_B_lineAt l D cI cZ g.2.2.2.2.1 hg.2.2.1 z.2.2.1 v2) (cwv (n := 1) htb cd_B_lineAt k_C_100 in_B_lineAt se_B_lineAt ini_B hd_B_lineAt ⟨Nat.le_of_ble_eq_true rfl, Nat.le_of_ble_eq_true rfl⟩) hK hP [7, 8, 9, 10, 11, 12] rfl (ci := 0) rfl rfl rfl hl.1 rfl (Nat.le_of_ble_eq_true rfl) d_C_flush_38 ⟨Nat.zero_le _, Nat.zero_le _⟩ (fun r_38 hw_38 => ?_)
          have hF := hF.trans (bnd_eq hw_38)
          refine cpi (As := [.int r_38]) (rest := []) ⟨hx, hb, hml, hown, htb⟩ (c_C_writtenInFirst l D cI cZ g hg z r_38) (cwv (n := 1) htb cd_C_writtenInFirst k_C_104 in_C_writtenInFirst se_C_writtenInFirst ini_C hd_C_writtenInFirst ⟨Nat.le_of_ble_eq_true rfl, Nat.le_of_ble_eq_true rfl⟩) hK hP [0, 1, 2, 3, 4, 5, 6, 7, 8, 9, 10, 11, 12, 13, 14, 15, 16, 17, 18] rfl (ci := 2) rfl rfl rfl hl.1 rfl (Nat.le_of_ble_eq_true rfl) d_C_flush_41 ⟨Nat.zero_le _, Nat.zero_le _⟩ (fun r_41 hw_41 => ?_)
          have hF := hF.trans (bnd_eq hw_41)
          refine lv_iconst (v := -1) hx hb d_C_flush_44 (by decide) ?_
          refine lv_icmp_ne (tgt := 71) hx hb d_C_flush_45 (by decide) (fun c_45 => ?_) (fun c_45 => ?_)
          · have hF := hF.trans (if_neg c_45)
            refine lv_iinc (v := (v2 + 1)) (lv' := [(2, .int (v2 + 1)), (0, .ref g.1.1), (1, .int v1)]) hx hb d_C_flush_71 hl (k := 2) rfl rfl (by decide) rfl (fun ls hl => ?_)
            refine lv_goto (tgt := 10) hx hb d_C_flush_74 (by decide) ?_
            have hl := lv_sub (l' := [(0, .ref g.1.1), (1, .int v1), (2, .int (v2 + 1))]) hl [1, 2, 0] rfl
            exact ih v1 (v2 + 1) z _ _ _ (Nat.lt_of_lt_of_le (mu_decr (hw_15.trans (M_B_slots_eq _ _)) c_18) (Nat.le_of_lt_succ hm)) hF hP hD hS hl
          · have hF := hF.trans (if_pos c_45)
            refine lv_aload_n hx hb d_C_flush_48 rfl (lv_at hl 0 rfl) ?_
            refine va_get (D := D) (ci := 2) (v := .ref g.2.2.2.2.2.1.1) (C := R_C) (T := T_C) (N := 10) hx hb htb i_C hown hK hP 0 rfl rfl 4 (by decide) (htb _ k_C_37) (fun _ h9 => h9) rfl d_C_flush_49 ?_
            refine lv_aload_n hx hb d_C_flush_52 rfl (lv_at hl 0 rfl) ?_
            refine va_get (D := D) (ci := 2) (v := .ref g.2.2.2.2.1.1.1) (C := R_C) (T := T_C) (N := 10) hx hb htb i_C hown hK hP 0 rfl rfl 3 (by decide) (htb _ k_C_31) (fun _ h9 => h9) rfl d_C_flush_53 ?_
            refine lv_iload_n hx hb d_C_flush_56 rfl (lv_at hl 2 rfl) ?_
            refine cpi (As := [.int v2]) (rest := [.ref g.2.2.2.2.2.1.1]) ⟨hx, hb, hml, hown, htb⟩ (c_B_lineAt l D cI cZ g.2.2.2.2.1 hg.2.2.1 z.2.2.1 v2) (cwv (n := 1) htb cd_B_lineAt k_C_100 in_B_lineAt se_B_lineAt ini_B hd_B_lineAt ⟨Nat.le_of_ble_eq_true rfl, Nat.le_of_ble_eq_true rfl⟩) hK hP [7, 8, 9, 10, 11, 12] rfl (ci := 0) rfl rfl rfl hl.1 rfl (Nat.le_of_ble_eq_true rfl) d_C_flush_57 ⟨Nat.zero_le _, Nat.zero_le _⟩ (fun r_57 hw_57 => ?_)
            have hF := hF.trans (bnd_eq hw_57)
            refine lv_aload_n hx hb d_C_flush_60 rfl (lv_at hl 0 rfl) ?_
            refine va_get (D := D) (ci := 2) (v := .ref g.2.2.2.2.1.1.1) (C := R_C) (T := T_C) (N := 10) hx hb htb i_C hown hK hP 0 rfl rfl 3 (by decide) (htb _ k_C_31) (fun _ h9 => h9) rfl d_C_flush_61 ?_
            refine lv_iload_n hx hb d_C_flush_64 rfl (lv_at hl 2 rfl) ?_
            refine cpi (As := [.int v2]) (rest := [.int r_57, .ref g.2.2.2.2.2.1.1]) ⟨hx, hb, hml, hown, htb⟩ (c_B_versionAt l D cI cZ g.2.2.2.2.1 hg.2.2.1 z.2.2.1 v2) (cwv (n := 1) htb cd_B_versionAt k_C_107 in_B_versionAt se_B_versionAt ini_B hd_B_versionAt ⟨Nat.le_of_ble_eq_true rfl, Nat.le_of_ble_eq_true rfl⟩) hK hP [7, 8, 9, 10, 11, 12] rfl (ci := 0) rfl rfl rfl hl.1 rfl (Nat.le_of_ble_eq_true rfl) d_C_flush_65 ⟨Nat.zero_le _, Nat.zero_le _⟩ (fun r_65 hw_65 => ?_)
            have hF := hF.trans (bnd_eq hw_65)
            refine cwv_ (As := [.int r_57, .int r_65]) (rest := []) (wldC := fun u => (wC cI cZ g (z.1, z.2.1, z.2.2.1, u, z.2.2.2.2.1, z.2.2.2.2.2))) ⟨hx, hb, hml, hown, htb⟩ (c_V_writeBack l D cI cZ g.2.2.2.2.2 hg.2.2.2 z.2.2.2.1 r_57 r_65) (cwv (n := 2) htb cd_V_writeBack k_C_110 in_V_writeBack se_V_writeBack ini_V hd_V_writeBack ⟨Nat.le_of_ble_eq_true rfl, Nat.le_of_ble_eq_true rfl⟩) hK hP hD hS [13, 14, 15, 16] [0, 1, 2, 3, 4, 5, 6, 7, 8, 9, 10, 11, 12, 17, 18] [0, 1, 2, 3, 4, 5, 6, 7, 8, 9, 10, 11, 12, 15, 16, 17, 18, 13, 14] rfl rfl (by decide) (by decide) rfl (fun _ => rfl) (fun _ => rfl) (ci := 1) rfl rfl rfl hl.1 rfl (Nat.le_of_ble_eq_true rfl) d_C_flush_68 ⟨Nat.zero_le _, Nat.zero_le _⟩ (fun u_68 H locs hw_68 hP hD hS => ?_)
            have hP : va_P D vwCl (wC cI cZ g (z.1, z.2.1, z.2.2.1, u_68, z.2.2.2.2.1, z.2.2.2.2.2)) H := hP
            have hD : va_D _ (wC cI cZ g (z.1, z.2.1, z.2.2.1, u_68, z.2.2.2.2.1, z.2.2.2.2.2)) := hD
            have hF := hF.trans (bnd_eq hw_68)
            refine lv_iinc (v := (v2 + 1)) (lv' := [(2, .int (v2 + 1)), (0, .ref g.1.1), (1, .int v1)]) hx hb d_C_flush_71 hl (k := 2) rfl rfl (by decide) rfl (fun ls hl => ?_)
            refine lv_goto (tgt := 10) hx hb d_C_flush_74 (by decide) ?_
            have hl := lv_sub (l' := [(0, .ref g.1.1), (1, .int v1), (2, .int (v2 + 1))]) hl [1, 2, 0] rfl
            exact ih v1 (v2 + 1) (z.1, z.2.1, z.2.2.1, u_68, z.2.2.2.2.1, z.2.2.2.2.2) _ _ _ (Nat.lt_of_lt_of_le (mu_decr (hw_15.trans (M_B_slots_eq _ _)) c_18) (Nat.le_of_lt_succ hm)) hF hP hD hS hl
  have hl := lv_entry ([.ref g.1.1]) (n := 3) (Nat.le_of_ble_eq_true rfl)
  rw [lg_entry_eq]
  generalize (lg_sl ([.ref g.1.1]) ++ List.replicate (3 - (lg_sl ([.ref g.1.1])).length) Slot.unset).toArray = ls at hl ⊢
  have hl : lv_has ls 3 [(0, .ref g.1.1)] := hl
  have hF := M_C_flush_eq g x
  refine lv_aload_n hx hb d_C_flush_0 rfl (lv_at hl 0 rfl) ?_
  refine va_get (D := D) (ci := 2) (v := .ref g.2.2.2.2.2.1.1) (C := R_C) (T := T_C) (N := 10) hx hb htb i_C hown hK hP 0 rfl rfl 4 (by decide) (htb _ k_C_37) (fun _ h9 => h9) rfl d_C_flush_1 ?_
  refine va_get (D := D) (ci := 1) (v := .int x.2.2.2.1.1) (C := R_V) (T := T_V) (N := 5) hx hb htb i_V hown hK hP 13 rfl rfl 0 (by decide) (htb _ k_C_89) (fun _ h9 => h9) rfl d_C_flush_4 ?_
  refine lv_istore_n (lv' := [(1, .int x.2.2.2.1.1), (0, .ref g.1.1)]) hx hb d_C_flush_7 rfl hl (by decide) rfl (fun ls hl => ?_)
  refine lv_iconst (v := 0) hx hb d_C_flush_8 (by decide) ?_
  refine lv_istore_n (lv' := [(2, .int (0 : Int32)), (1, .int x.2.2.2.1.1), (0, .ref g.1.1)]) hx hb d_C_flush_9 rfl hl (by decide) rfl (fun ls hl => ?_)
  have hl := lv_sub (l' := [(0, .ref g.1.1), (1, .int x.2.2.2.1.1), (2, .int (0 : Int32))]) hl [2, 1, 0] rfl
  exact cut_10 (mu (0 : Int32) (nI g.2.2.2.2.1.2.2.2) + 1) x.2.2.2.1.1 (0 : Int32) x _ _ _ (Nat.lt_succ_self _) hF hP hD hS hl

def M_C_holds_n (g : GC) (x : Cs) (p0 p1 : Int32) : Int32 := (bnd (M_C_groupOf p0) (fun r_13 => (bnd (M_B_find g.2.2.2.2.1 x.2.2.1 r_13 p1) (fun r_17 => (if r_17 = (-1 : Int32) then (0 : Int32) else (bnd (M_B_isWritten g.2.2.2.2.1 x.2.2.1 r_17) (fun r_33 => (if r_33 = 0 then (1 : Int32) else (2 : Int32)))))))))
theorem M_C_holds_n_eq (g : GC) (x : Cs) (p0 p1 : Int32) : M_C_holds_n g x p0 p1 = (bnd (M_C_groupOf p0) (fun r_13 => (bnd (M_B_find g.2.2.2.2.1 x.2.2.1 r_13 p1) (fun r_17 => (if r_17 = (-1 : Int32) then (0 : Int32) else (bnd (M_B_isWritten g.2.2.2.2.1 x.2.2.1 r_17) (fun r_33 => (if r_33 = 0 then (1 : Int32) else (2 : Int32))))))))) := rfl
abbrev w_C_holds_n : List Cond := .code y_C_holds b_C_holds 5 (some .int) :: tbW
abbrev rm_C_holds_n : Room := { frames := 3, cells := 0, slots := 0, locals := 68 }
set_option maxHeartbeats 4000000 in
set_option maxRecDepth 100000 in
theorem c_C_holds_n (l : Launch) (D : va_G) (cI cZ : ClassId) (g : GC) (hg : okC g) (x : Cs) (p0 p1 : Int32) (hq : p0 = -1) : Met l y_C_holds w_C_holds_n rm_C_holds_n (PcR D vwCl (tyK cI cZ) [.ref g.1.1, .int p0, .int p1] (wC cI cZ g x)) (vp_Si (fun r => r = M_C_holds_n g x p0 p1)) 0 0 (fun _ => False) := by
  refine Met.ofW (cc := b_C_holds) (maxL := 5) (ret := (some .int)) (by decide) rfl ?_
  intro p e s m args below meth c s₁ B hml hv
  obtain ⟨rfl, hP, hK⟩ := hv
  have hx := B.exec
  have hb := B.bytes
  have hr := B.returns
  have htb : ∀ w ∈ tbW, w.before _ s = true := fun w h => atoms_spec (ws := w_C_holds_n) B.pre w (List.mem_cons_of_mem _ h)
  have hown : s.vm.findClass R_C = some m.cls := findClass_of_methodNamed B.named
  have hlocks := B.notSynchronized
  have hl := lv_entry ([.ref g.1.1, .int p0, .int p1]) (n := 5) (Nat.le_of_ble_eq_true rfl)
  rw [lg_entry_eq]
  generalize (lg_sl ([.ref g.1.1, .int p0, .int p1]) ++ List.replicate (5 - (lg_sl ([.ref g.1.1, .int p0, .int p1])).length) Slot.unset).toArray = ls at hl ⊢
  have hl : lv_has ls 5 [(0, .ref g.1.1), (1, .int p0), (2, .int p1)] := hl
  have hF := M_C_holds_n_eq g x p0 p1
  refine lv_aload_n hx hb d_C_holds_0 rfl (lv_at hl 0 rfl) ?_
  refine lv_iload_n hx hb d_C_holds_1 rfl (lv_at hl 1 rfl) ?_
  refine cpv (As := [.int p0]) (rest := []) ⟨hx, hb, hml, hown, htb⟩ (c_C_requireCoreOrNone l D cI cZ g hg x p0 (Or.inl hq)) (cwv (n := 1) htb cd_C_requireCoreOrNone k_C_116 in_C_requireCoreOrNone se_C_requireCoreOrNone ini_C hd_C_requireCoreOrNone ⟨Nat.le_of_ble_eq_true rfl, Nat.le_of_ble_eq_true rfl⟩) hK hP [0, 1, 2, 3, 4, 5, 6, 7, 8, 9, 10, 11, 12, 13, 14, 15, 16, 17, 18] rfl (ci := 2) rfl rfl rfl hl.1 rfl (Nat.le_of_ble_eq_true rfl) d_C_holds_2 ⟨Nat.zero_le _, Nat.zero_le _⟩ (?_)
  refine lv_aload_n hx hb d_C_holds_5 rfl (lv_at hl 0 rfl) ?_
  refine lv_iload_n hx hb d_C_holds_6 rfl (lv_at hl 1 rfl) ?_
  refine cpr (As := [.int p0]) (rest := []) ⟨hx, hb, hml, hown, htb⟩ (c_C_bankOf_n l D cI cZ g hg x p0 hq) (cwv (n := 1) htb cd_C_bankOf k_C_119 in_C_bankOf se_C_bankOf ini_C hd_C_bankOf ⟨Nat.le_of_ble_eq_true rfl, Nat.le_of_ble_eq_true rfl⟩) hK hP [0, 1, 2, 3, 4, 5, 6, 7, 8, 9, 10, 11, 12, 13, 14, 15, 16, 17, 18] rfl (ci := 2) rfl rfl rfl hl.1 rfl (Nat.le_of_ble_eq_true rfl) d_C_holds_7 ⟨Nat.zero_le _, Nat.zero_le _⟩ (?_)
  refine lv_astore_n (lv' := [(3, .ref g.2.2.2.2.1.1.1), (0, .ref g.1.1), (1, .int p0), (2, .int p1)]) hx hb d_C_holds_10 rfl hl (by decide) rfl (fun ls hl => ?_)
  refine lv_aload_n hx hb d_C_holds_11 rfl (lv_at hl 0 rfl) ?_
  refine lv_iload_n hx hb d_C_holds_12 rfl (lv_at hl 2 rfl) ?_
  refine cps (As := [.int p0]) (rest := [.ref g.2.2.2.2.1.1.1]) ⟨hx, hb, hml, hown, htb⟩ (c_C_groupOf l p0) (cws (n := 1) htb cd_C_groupOf k_C_123 st_C_groupOf ini_C hd_C_groupOf ⟨Nat.le_of_ble_eq_true rfl, Nat.le_of_ble_eq_true rfl⟩) rfl hl.1 rfl (Nat.le_of_ble_eq_true rfl) d_C_holds_13 ⟨Nat.zero_le _, Nat.zero_le _⟩ (fun r_13 hw_13 => ?_)
  have hF := hF.trans (bnd_eq hw_13)
  refine lv_iload_n hx hb d_C_holds_16 rfl (lv_at hl 3 rfl) ?_
  refine cpi (As := [.int r_13, .int p1]) (rest := []) ⟨hx, hb, hml, hown, htb⟩ (c_B_find l D cI cZ g.2.2.2.2.1 hg.2.2.1 x.2.2.1 r_13 p1) (cwv (n := 2) htb cd_B_find k_C_72 in_B_find se_B_find ini_B hd_B_find ⟨Nat.le_of_ble_eq_true rfl, Nat.le_of_ble_eq_true rfl⟩) hK hP [7, 8, 9, 10, 11, 12] rfl (ci := 0) rfl rfl rfl hl.1 rfl (Nat.le_of_ble_eq_true rfl) d_C_holds_17 ⟨Nat.zero_le _, Nat.zero_le _⟩ (fun r_17 hw_17 => ?_)
  have hF := hF.trans (bnd_eq hw_17)
  refine lv_istore (lv' := [(4, .int r_17), (3, .ref g.2.2.2.2.1.1.1), (0, .ref g.1.1), (1, .int p0), (2, .int p1)]) hx hb d_C_holds_20 hl (by decide) rfl (fun ls hl => ?_)
  refine lv_iload hx hb d_C_holds_22 (lv_at hl 0 rfl) ?_
  refine lv_iconst (v := -1) hx hb d_C_holds_24 (by decide) ?_
  refine lv_icmp_ne (tgt := 30) hx hb d_C_holds_25 (by decide) (fun c_25 => ?_) (fun c_25 => ?_)
  · have hF := hF.trans (if_neg c_25)
    refine lv_aload_n hx hb d_C_holds_30 rfl (lv_at hl 1 rfl) ?_
    refine lv_iload hx hb d_C_holds_31 (lv_at hl 0 rfl) ?_
    refine cpi (As := [.int r_17]) (rest := []) ⟨hx, hb, hml, hown, htb⟩ (c_B_isWritten l D cI cZ g.2.2.2.2.1 hg.2.2.1 x.2.2.1 r_17) (cwv (n := 1) htb cd_B_isWritten k_C_96 in_B_isWritten se_B_isWritten ini_B hd_B_isWritten ⟨Nat.le_of_ble_eq_true rfl, Nat.le_of_ble_eq_true rfl⟩) hK hP [7, 8, 9, 10, 11, 12] rfl (ci := 0) rfl rfl rfl hl.1 rfl (Nat.le_of_ble_eq_true rfl) d_C_holds_33 ⟨Nat.zero_le _, Nat.zero_le _⟩ (fun r_33 hw_33 => ?_)
    have hF := hF.trans (bnd_eq hw_33)
    refine lv_if_eq (tgt := 43) hx hb d_C_holds_36 (by decide) (fun c_36 => ?_) (fun c_36 => ?_)
    · have hF := hF.trans (if_pos c_36)
      refine lv_iconst (v := 1) hx hb d_C_holds_43 (by decide) ?_
      exact W.iret (v := (1 : Int32)) hx hb hr (fun t ht hW => ⟨_, rfl, hF.symm, ht⟩) (fun q h => by cases h) d_C_holds_44
    · have hF := hF.trans (if_neg c_36)
      refine lv_iconst (v := 2) hx hb d_C_holds_39 (by decide) ?_
      refine lv_goto (tgt := 44) hx hb d_C_holds_40 (by decide) ?_
      exact W.iret (v := (2 : Int32)) hx hb hr (fun t ht hW => ⟨_, rfl, hF.symm, ht⟩) (fun q h => by cases h) d_C_holds_44
  · have hF := hF.trans (if_pos c_25)
    refine lv_iconst (v := 0) hx hb d_C_holds_28 (by decide) ?_
    exact W.iret (v := (0 : Int32)) hx hb hr (fun t ht hW => ⟨_, rfl, hF.symm, ht⟩) (fun q h => by cases h) d_C_holds_29

def M_C_holds_c (g : GC) (x : Cs) (p0 p1 : Int32) : Int32 := (bnd (M_C_groupOf p0) (fun r_13 => (bnd (M_B_find g.2.2.2.1 x.2.1 r_13 p1) (fun r_17 => (if r_17 = (-1 : Int32) then (0 : Int32) else (bnd (M_B_isWritten g.2.2.2.1 x.2.1 r_17) (fun r_33 => (if r_33 = 0 then (1 : Int32) else (2 : Int32)))))))))
theorem M_C_holds_c_eq (g : GC) (x : Cs) (p0 p1 : Int32) : M_C_holds_c g x p0 p1 = (bnd (M_C_groupOf p0) (fun r_13 => (bnd (M_B_find g.2.2.2.1 x.2.1 r_13 p1) (fun r_17 => (if r_17 = (-1 : Int32) then (0 : Int32) else (bnd (M_B_isWritten g.2.2.2.1 x.2.1 r_17) (fun r_33 => (if r_33 = 0 then (1 : Int32) else (2 : Int32))))))))) := rfl
abbrev w_C_holds_c : List Cond := .code y_C_holds b_C_holds 5 (some .int) :: tbW
abbrev rm_C_holds_c : Room := { frames := 3, cells := 0, slots := 0, locals := 68 }
set_option maxHeartbeats 4000000 in
set_option maxRecDepth 100000 in
theorem c_C_holds_c (l : Launch) (D : va_G) (cI cZ : ClassId) (g : GC) (hg : okC g) (x : Cs) (p0 p1 : Int32) (hv0 : ¬ p0 < 0) (hv1 : p0 < g.2.1.1) (hq : ¬ p0 = -1) : Met l y_C_holds w_C_holds_c rm_C_holds_c (PcR D vwCl (tyK cI cZ) [.ref g.1.1, .int p0, .int p1] (wC cI cZ g x)) (vp_Si (fun r => r = M_C_holds_c g x p0 p1)) 0 0 (fun _ => False) := by
  refine Met.ofW (cc := b_C_holds) (maxL := 5) (ret := (some .int)) (by decide) rfl ?_
  intro p e s m args below meth c s₁ B hml hv
  obtain ⟨rfl, hP, hK⟩ := hv
  have hx := B.exec
  have hb := B.bytes
  have hr := B.returns
  have htb : ∀ w ∈ tbW, w.before _ s = true := fun w h => atoms_spec (ws := w_C_holds_c) B.pre w (List.mem_cons_of_mem _ h)
  have hown : s.vm.findClass R_C = some m.cls := findClass_of_methodNamed B.named
  have hlocks := B.notSynchronized
  have hl := lv_entry ([.ref g.1.1, .int p0, .int p1]) (n := 5) (Nat.le_of_ble_eq_true rfl)
  rw [lg_entry_eq]
  generalize (lg_sl ([.ref g.1.1, .int p0, .int p1]) ++ List.replicate (5 - (lg_sl ([.ref g.1.1, .int p0, .int p1])).length) Slot.unset).toArray = ls at hl ⊢
  have hl : lv_has ls 5 [(0, .ref g.1.1), (1, .int p0), (2, .int p1)] := hl
  have hF := M_C_holds_c_eq g x p0 p1
  refine lv_aload_n hx hb d_C_holds_0 rfl (lv_at hl 0 rfl) ?_
  refine lv_iload_n hx hb d_C_holds_1 rfl (lv_at hl 1 rfl) ?_
  refine cpv (As := [.int p0]) (rest := []) ⟨hx, hb, hml, hown, htb⟩ (c_C_requireCoreOrNone l D cI cZ g hg x p0 (Or.inr ⟨hv0, hv1⟩)) (cwv (n := 1) htb cd_C_requireCoreOrNone k_C_116 in_C_requireCoreOrNone se_C_requireCoreOrNone ini_C hd_C_requireCoreOrNone ⟨Nat.le_of_ble_eq_true rfl, Nat.le_of_ble_eq_true rfl⟩) hK hP [0, 1, 2, 3, 4, 5, 6, 7, 8, 9, 10, 11, 12, 13, 14, 15, 16, 17, 18] rfl (ci := 2) rfl rfl rfl hl.1 rfl (Nat.le_of_ble_eq_true rfl) d_C_holds_2 ⟨Nat.zero_le _, Nat.zero_le _⟩ (?_)
  refine lv_aload_n hx hb d_C_holds_5 rfl (lv_at hl 0 rfl) ?_
  refine lv_iload_n hx hb d_C_holds_6 rfl (lv_at hl 1 rfl) ?_
  refine cpr (As := [.int p0]) (rest := []) ⟨hx, hb, hml, hown, htb⟩ (c_C_bankOf_c l D cI cZ g hg x p0 hq) (cwv (n := 1) htb cd_C_bankOf k_C_119 in_C_bankOf se_C_bankOf ini_C hd_C_bankOf ⟨Nat.le_of_ble_eq_true rfl, Nat.le_of_ble_eq_true rfl⟩) hK hP [0, 1, 2, 3, 4, 5, 6, 7, 8, 9, 10, 11, 12, 13, 14, 15, 16, 17, 18] rfl (ci := 2) rfl rfl rfl hl.1 rfl (Nat.le_of_ble_eq_true rfl) d_C_holds_7 ⟨Nat.zero_le _, Nat.zero_le _⟩ (?_)
  refine lv_astore_n (lv' := [(3, .ref g.2.2.2.1.1.1), (0, .ref g.1.1), (1, .int p0), (2, .int p1)]) hx hb d_C_holds_10 rfl hl (by decide) rfl (fun ls hl => ?_)
  refine lv_aload_n hx hb d_C_holds_11 rfl (lv_at hl 0 rfl) ?_
  refine lv_iload_n hx hb d_C_holds_12 rfl (lv_at hl 2 rfl) ?_
  refine cps (As := [.int p0]) (rest := [.ref g.2.2.2.1.1.1]) ⟨hx, hb, hml, hown, htb⟩ (c_C_groupOf l p0) (cws (n := 1) htb cd_C_groupOf k_C_123 st_C_groupOf ini_C hd_C_groupOf ⟨Nat.le_of_ble_eq_true rfl, Nat.le_of_ble_eq_true rfl⟩) rfl hl.1 rfl (Nat.le_of_ble_eq_true rfl) d_C_holds_13 ⟨Nat.zero_le _, Nat.zero_le _⟩ (fun r_13 hw_13 => ?_)
  have hF := hF.trans (bnd_eq hw_13)
  refine lv_iload_n hx hb d_C_holds_16 rfl (lv_at hl 3 rfl) ?_
  refine cpi (As := [.int r_13, .int p1]) (rest := []) ⟨hx, hb, hml, hown, htb⟩ (c_B_find l D cI cZ g.2.2.2.1 hg.2.1 x.2.1 r_13 p1) (cwv (n := 2) htb cd_B_find k_C_72 in_B_find se_B_find ini_B hd_B_find ⟨Nat.le_of_ble_eq_true rfl, Nat.le_of_ble_eq_true rfl⟩) hK hP [1, 2, 3, 4, 5, 6] rfl (ci := 0) rfl rfl rfl hl.1 rfl (Nat.le_of_ble_eq_true rfl) d_C_holds_17 ⟨Nat.zero_le _, Nat.zero_le _⟩ (fun r_17 hw_17 => ?_)
  have hF := hF.trans (bnd_eq hw_17)
  refine lv_istore (lv' := [(4, .int r_17), (3, .ref g.2.2.2.1.1.1), (0, .ref g.1.1), (1, .int p0), (2, .int p1)]) hx hb d_C_holds_20 hl (by decide) rfl (fun ls hl => ?_)
  refine lv_iload hx hb d_C_holds_22 (lv_at hl 0 rfl) ?_
  refine lv_iconst (v := -1) hx hb d_C_holds_24 (by decide) ?_
  refine lv_icmp_ne (tgt := 30) hx hb d_C_holds_25 (by decide) (fun c_25 => ?_) (fun c_25 => ?_)
  · have hF := hF.trans (if_neg c_25)
    refine lv_aload_n hx hb d_C_holds_30 rfl (lv_at hl 1 rfl) ?_
    refine lv_iload hx hb d_C_holds_31 (lv_at hl 0 rfl) ?_
    refine cpi (As := [.int r_17]) (rest := []) ⟨hx, hb, hml, hown, htb⟩ (c_B_isWritten l D cI cZ g.2.2.2.1 hg.2.1 x.2.1 r_17) (cwv (n := 1) htb cd_B_isWritten k_C_96 in_B_isWritten se_B_isWritten ini_B hd_B_isWritten ⟨Nat.le_of_ble_eq_true rfl, Nat.le_of_ble_eq_true rfl⟩) hK hP [1, 2, 3, 4, 5, 6] rfl (ci := 0) rfl rfl rfl hl.1 rfl (Nat.le_of_ble_eq_true rfl) d_C_holds_33 ⟨Nat.zero_le _, Nat.zero_le _⟩ (fun r_33 hw_33 => ?_)
    have hF := hF.trans (bnd_eq hw_33)
    refine lv_if_eq (tgt := 43) hx hb d_C_holds_36 (by decide) (fun c_36 => ?_) (fun c_36 => ?_)
    · have hF := hF.trans (if_pos c_36)
      refine lv_iconst (v := 1) hx hb d_C_holds_43 (by decide) ?_
      exact W.iret (v := (1 : Int32)) hx hb hr (fun t ht hW => ⟨_, rfl, hF.symm, ht⟩) (fun q h => by cases h) d_C_holds_44
    · have hF := hF.trans (if_neg c_36)
      refine lv_iconst (v := 2) hx hb d_C_holds_39 (by decide) ?_
      refine lv_goto (tgt := 44) hx hb d_C_holds_40 (by decide) ?_
      exact W.iret (v := (2 : Int32)) hx hb hr (fun t ht hW => ⟨_, rfl, hF.symm, ht⟩) (fun q h => by cases h) d_C_holds_44
  · have hF := hF.trans (if_pos c_25)
    refine lv_iconst (v := 0) hx hb d_C_holds_28 (by decide) ?_
    exact W.iret (v := (0 : Int32)) hx hb hr (fun t ht hW => ⟨_, rfl, hF.symm, ht⟩) (fun q h => by cases h) d_C_holds_29

def M_C_version (g : GC) (x : Cs) (p0 p1 : Int32) : Int32 := (bnd (M_B_find g.2.2.2.1 x.2.1 p0 p1) (fun r_11 => (if r_11 = (-1 : Int32) then (bnd (M_C_writtenInFirst g x p1) (fun r_31 => (if r_31 = (-1 : Int32) then (bnd (M_B_find g.2.2.2.2.1 x.2.2.1 (0 : Int32) p1) (fun r_58 => (if r_58 = (-1 : Int32) then (bnd (M_V_inMemory g.2.2.2.2.2 x.2.2.2.1 p1) (fun r_86 => r_86)) else (bnd (M_B_versionAt g.2.2.2.2.1 x.2.2.1 r_58) (fun r_75 => r_75))))) else (bnd (M_B_versionAt g.2.2.2.1 x.2.1 r_31) (fun r_48 => r_48))))) else (bnd (M_B_versionAt g.2.2.2.1 x.2.1 r_11) (fun r_25 => r_25)))))
theorem M_C_version_eq (g : GC) (x : Cs) (p0 p1 : Int32) : M_C_version g x p0 p1 = (bnd (M_B_find g.2.2.2.1 x.2.1 p0 p1) (fun r_11 => (if r_11 = (-1 : Int32) then (bnd (M_C_writtenInFirst g x p1) (fun r_31 => (if r_31 = (-1 : Int32) then (bnd (M_B_find g.2.2.2.2.1 x.2.2.1 (0 : Int32) p1) (fun r_58 => (if r_58 = (-1 : Int32) then (bnd (M_V_inMemory g.2.2.2.2.2 x.2.2.2.1 p1) (fun r_86 => r_86)) else (bnd (M_B_versionAt g.2.2.2.2.1 x.2.2.1 r_58) (fun r_75 => r_75))))) else (bnd (M_B_versionAt g.2.2.2.1 x.2.1 r_31) (fun r_48 => r_48))))) else (bnd (M_B_versionAt g.2.2.2.1 x.2.1 r_11) (fun r_25 => r_25))))) := rfl
abbrev w_C_version : List Cond := .code y_C_version b_C_version 6 (some .int) :: tbW
abbrev rm_C_version : Room := { frames := 4, cells := 0, slots := 0, locals := 91 }
set_option maxHeartbeats 4000000 in
set_option maxRecDepth 100000 in
theorem c_C_version (l : Launch) (D : va_G) (cI cZ : ClassId) (g : GC) (hg : okC g) (x : Cs) (p0 p1 : Int32) (hv0 : ¬ p0 < 0) (hv1 : p0 < g.2.1.1) : Met l y_C_version w_C_version rm_C_version (PcR D vwCl (tyK cI cZ) [.ref g.1.1, .int p0, .int p1] (wC cI cZ g x)) (vp_Si (fun r => r = M_C_version g x p0 p1)) 0 0 (fun _ => False) := by
  refine Met.ofW (cc := b_C_version) (maxL := 6) (ret := (some .int)) (by decide) rfl ?_
  intro p e s m args below meth c s₁ B hml hv
  obtain ⟨rfl, hP, hK⟩ := hv
  have hx := B.exec
  have hb := B.bytes
  have hr := B.returns
  have htb : ∀ w ∈ tbW, w.before _ s = true := fun w h => atoms_spec (ws := w_C_version) B.pre w (List.mem_cons_of_mem _ h)
  have hown : s.vm.findClass R_C = some m.cls := findClass_of_methodNamed B.named
  have hlocks := B.notSynchronized
  have hl := lv_entry ([.ref g.1.1, .int p0, .int p1]) (n := 6) (Nat.le_of_ble_eq_true rfl)
  rw [lg_entry_eq]
  generalize (lg_sl ([.ref g.1.1, .int p0, .int p1]) ++ List.replicate (6 - (lg_sl ([.ref g.1.1, .int p0, .int p1])).length) Slot.unset).toArray = ls at hl ⊢
  have hl : lv_has ls 6 [(0, .ref g.1.1), (1, .int p0), (2, .int p1)] := hl
  have hF := M_C_version_eq g x p0 p1
  refine lv_aload_n hx hb d_C_version_0 rfl (lv_at hl 0 rfl) ?_
  refine lv_iload_n hx hb d_C_version_1 rfl (lv_at hl 1 rfl) ?_
  refine cpv (As := [.int p0]) (rest := []) ⟨hx, hb, hml, hown, htb⟩ (c_C_requireCore l D cI cZ g hg x p0 hv0 hv1) (cwv (n := 1) htb cd_C_requireCore k_C_57 in_C_requireCore se_C_requireCore ini_C hd_C_requireCore ⟨Nat.le_of_ble_eq_true rfl, Nat.le_of_ble_eq_true rfl⟩) hK hP [0, 1, 2, 3, 4, 5, 6, 7, 8, 9, 10, 11, 12, 13, 14, 15, 16, 17, 18] rfl (ci := 2) rfl rfl rfl hl.1 rfl (Nat.le_of_ble_eq_true rfl) d_C_version_2 ⟨Nat.zero_le _, Nat.zero_le _⟩ (?_)
  refine lv_aload_n hx hb d_C_version_5 rfl (lv_at hl 0 rfl) ?_
  refine va_get (D := D) (ci := 2) (v := .ref g.2.2.2.1.1.1) (C := R_C) (T := T_C) (N := 10) hx hb htb i_C hown hK hP 0 rfl rfl 2 (by decide) (htb _ k_C_27) (fun _ h9 => h9) rfl d_C_version_6 ?_
  refine lv_iload_n hx hb d_C_version_9 rfl (lv_at hl 1 rfl) ?_
  refine lv_iload_n hx hb d_C_version_10 rfl (lv_at hl 2 rfl) ?_
  refine cpi (As := [.int p0, .int p1]) (rest := []) ⟨hx, hb, hml, hown, htb⟩ (c_B_find l D cI cZ g.2.2.2.1 hg.2.1 x.2.1 p0 p1) (cwv (n := 2) htb cd_B_find k_C_72 in_B_find se_B_find ini_B hd_B_find ⟨Nat.le_of_ble_eq_true rfl, Nat.le_of_ble_eq_true rfl⟩) hK hP [1, 2, 3, 4, 5, 6] rfl (ci := 0) rfl rfl rfl hl.1 rfl (Nat.le_of_ble_eq_true rfl) d_C_version_11 ⟨Nat.zero_le _, Nat.zero_le _⟩ (fun r_11 hw_11 => ?_)
  have hF := hF.trans (bnd_eq hw_11)
  refine lv_istore_n (lv' := [(3, .int r_11), (0, .ref g.1.1), (1, .int p0), (2, .int p1)]) hx hb d_C_version_14 rfl hl (by decide) rfl (fun ls hl => ?_)
  refine lv_iload_n hx hb d_C_version_15 rfl (lv_at hl 0 rfl) ?_
  refine lv_iconst (v := -1) hx hb d_C_version_16 (by decide) ?_
  refine lv_icmp_eq (tgt := 29) hx hb d_C_version_17 (by decide) (fun c_17 => ?_) (fun c_17 => ?_)
  · have hF := hF.trans (if_pos c_17)
    refine lv_aload_n hx hb d_C_version_29 rfl (lv_at hl 1 rfl) ?_
    refine lv_iload_n hx hb d_C_version_30 rfl (lv_at hl 3 rfl) ?_
    refine cpi (As := [.int p1]) (rest := []) ⟨hx, hb, hml, hown, htb⟩ (c_C_writtenInFirst l D cI cZ g hg x p1) (cwv (n := 1) htb cd_C_writtenInFirst k_C_104 in_C_writtenInFirst se_C_writtenInFirst ini_C hd_C_writtenInFirst ⟨Nat.le_of_ble_eq_true rfl, Nat.le_of_ble_eq_true rfl⟩) hK hP [0, 1, 2, 3, 4, 5, 6, 7, 8, 9, 10, 11, 12, 13, 14, 15, 16, 17, 18] rfl (ci := 2) rfl rfl rfl hl.1 rfl (Nat.le_of_ble_eq_true rfl) d_C_version_31 ⟨Nat.zero_le _, Nat.zero_le _⟩ (fun r_31 hw_31 => ?_)
    have hF := hF.trans (bnd_eq hw_31)
    refine lv_istore (lv' := [(4, .int r_31), (3, .int r_11), (0, .ref g.1.1), (1, .int p0), (2, .int p1)]) hx hb d_C_version_34 hl (by decide) rfl (fun ls hl => ?_)
    refine lv_iload hx hb d_C_version_36 (lv_at hl 0 rfl) ?_
    refine lv_iconst (v := -1) hx hb d_C_version_38 (by decide) ?_
    refine lv_icmp_eq (tgt := 52) hx hb d_C_version_39 (by decide) (fun c_39 => ?_) (fun c_39 => ?_)
    · have hF := hF.trans (if_pos c_39)
      refine lv_aload_n hx hb d_C_version_52 rfl (lv_at hl 2 rfl) ?_
      refine va_get (D := D) (ci := 2) (v := .ref g.2.2.2.2.1.1.1) (C := R_C) (T := T_C) (N := 10) hx hb htb i_C hown hK hP 0 rfl rfl 3 (by decide) (htb _ k_C_31) (fun _ h9 => h9) rfl d_C_version_53 ?_
      refine lv_iconst (v := 0) hx hb d_C_version_56 (by decide) ?_
      refine lv_iload_n hx hb d_C_version_57 rfl (lv_at hl 4 rfl) ?_
      refine cpi (As := [.int (0 : Int32), .int p1]) (rest := []) ⟨hx, hb, hml, hown, htb⟩ (c_B_find l D cI cZ g.2.2.2.2.1 hg.2.2.1 x.2.2.1 (0 : Int32) p1) (cwv (n := 2) htb cd_B_find k_C_72 in_B_find se_B_find ini_B hd_B_find ⟨Nat.le_of_ble_eq_true rfl, Nat.le_of_ble_eq_true rfl⟩) hK hP [7, 8, 9, 10, 11, 12] rfl (ci := 0) rfl rfl rfl hl.1 rfl (Nat.le_of_ble_eq_true rfl) d_C_version_58 ⟨Nat.zero_le _, Nat.zero_le _⟩ (fun r_58 hw_58 => ?_)
      have hF := hF.trans (bnd_eq hw_58)
      refine lv_istore (lv' := [(5, .int r_58), (4, .int r_31), (3, .int r_11), (0, .ref g.1.1), (1, .int p0), (2, .int p1)]) hx hb d_C_version_61 hl (by decide) rfl (fun ls hl => ?_)
      refine lv_iload hx hb d_C_version_63 (lv_at hl 0 rfl) ?_
      refine lv_iconst (v := -1) hx hb d_C_version_65 (by decide) ?_
      refine lv_icmp_eq (tgt := 81) hx hb d_C_version_66 (by decide) (fun c_66 => ?_) (fun c_66 => ?_)
      · have hF := hF.trans (if_pos c_66)
        refine lv_aload_n hx hb d_C_version_81 rfl (lv_at hl 3 rfl) ?_
        refine va_get (D := D) (ci := 2) (v := .ref g.2.2.2.2.2.1.1) (C := R_C) (T := T_C) (N := 10) hx hb htb i_C hown hK hP 0 rfl rfl 4 (by decide) (htb _ k_C_37) (fun _ h9 => h9) rfl d_C_version_82 ?_
        refine lv_iload_n hx hb d_C_version_85 rfl (lv_at hl 5 rfl) ?_
        refine cpi (As := [.int p1]) (rest := []) ⟨hx, hb, hml, hown, htb⟩ (c_V_inMemory l D cI cZ g.2.2.2.2.2 hg.2.2.2 x.2.2.2.1 p1) (cwv (n := 1) htb cd_V_inMemory k_C_126 in_V_inMemory se_V_inMemory ini_V hd_V_inMemory ⟨Nat.le_of_ble_eq_true rfl, Nat.le_of_ble_eq_true rfl⟩) hK hP [13, 14, 15, 16] rfl (ci := 1) rfl rfl rfl hl.1 rfl (Nat.le_of_ble_eq_true rfl) d_C_version_86 ⟨Nat.zero_le _, Nat.zero_le _⟩ (fun r_86 hw_86 => ?_)
        have hF := hF.trans (bnd_eq hw_86)
        exact W.iret (v := r_86) hx hb hr (fun t ht hW => ⟨_, rfl, hF.symm, ht⟩) (fun q h => by cases h) d_C_version_89
      · have hF := hF.trans (if_neg c_66)
        refine lv_aload_n hx hb d_C_version_69 rfl (lv_at hl 3 rfl) ?_
        refine va_get (D := D) (ci := 2) (v := .ref g.2.2.2.2.1.1.1) (C := R_C) (T := T_C) (N := 10) hx hb htb i_C hown hK hP 0 rfl rfl 3 (by decide) (htb _ k_C_31) (fun _ h9 => h9) rfl d_C_version_70 ?_
        refine lv_iload hx hb d_C_version_73 (lv_at hl 0 rfl) ?_
        refine cpi (As := [.int r_58]) (rest := []) ⟨hx, hb, hml, hown, htb⟩ (c_B_versionAt l D cI cZ g.2.2.2.2.1 hg.2.2.1 x.2.2.1 r_58) (cwv (n := 1) htb cd_B_versionAt k_C_107 in_B_versionAt se_B_versionAt ini_B hd_B_versionAt ⟨Nat.le_of_ble_eq_true rfl, Nat.le_of_ble_eq_true rfl⟩) hK hP [7, 8, 9, 10, 11, 12] rfl (ci := 0) rfl rfl rfl hl.1 rfl (Nat.le_of_ble_eq_true rfl) d_C_version_75 ⟨Nat.zero_le _, Nat.zero_le _⟩ (fun r_75 hw_75 => ?_)
        have hF := hF.trans (bnd_eq hw_75)
        refine lv_goto (tgt := 89) hx hb d_C_version_78 (by decide) ?_
        exact W.iret (v := r_75) hx hb hr (fun t ht hW => ⟨_, rfl, hF.symm, ht⟩) (fun q h => by cases h) d_C_version_89
    · have hF := hF.trans (if_neg c_39)
      refine lv_aload_n hx hb d_C_version_42 rfl (lv_at hl 2 rfl) ?_
      refine va_get (D := D) (ci := 2) (v := .ref g.2.2.2.1.1.1) (C := R_C) (T := T_C) (N := 10) hx hb htb i_C hown hK hP 0 rfl rfl 2 (by decide) (htb _ k_C_27) (fun _ h9 => h9) rfl d_C_version_43 ?_
      refine lv_iload hx hb d_C_version_46 (lv_at hl 0 rfl) ?_
      refine cpi (As := [.int r_31]) (rest := []) ⟨hx, hb, hml, hown, htb⟩ (c_B_versionAt l D cI cZ g.2.2.2.1 hg.2.1 x.2.1 r_31) (cwv (n := 1) htb cd_B_versionAt k_C_107 in_B_versionAt se_B_versionAt ini_B hd_B_versionAt ⟨Nat.le_of_ble_eq_true rfl, Nat.le_of_ble_eq_true rfl⟩) hK hP [1, 2, 3, 4, 5, 6] rfl (ci := 0) rfl rfl rfl hl.1 rfl (Nat.le_of_ble_eq_true rfl) d_C_version_48 ⟨Nat.zero_le _, Nat.zero_le _⟩ (fun r_48 hw_48 => ?_)
      have hF := hF.trans (bnd_eq hw_48)
      exact W.iret (v := r_48) hx hb hr (fun t ht hW => ⟨_, rfl, hF.symm, ht⟩) (fun q h => by cases h) d_C_version_51
  · have hF := hF.trans (if_neg c_17)
    refine lv_aload_n hx hb d_C_version_20 rfl (lv_at hl 1 rfl) ?_
    refine va_get (D := D) (ci := 2) (v := .ref g.2.2.2.1.1.1) (C := R_C) (T := T_C) (N := 10) hx hb htb i_C hown hK hP 0 rfl rfl 2 (by decide) (htb _ k_C_27) (fun _ h9 => h9) rfl d_C_version_21 ?_
    refine lv_iload_n hx hb d_C_version_24 rfl (lv_at hl 0 rfl) ?_
    refine cpi (As := [.int r_11]) (rest := []) ⟨hx, hb, hml, hown, htb⟩ (c_B_versionAt l D cI cZ g.2.2.2.1 hg.2.1 x.2.1 r_11) (cwv (n := 1) htb cd_B_versionAt k_C_107 in_B_versionAt se_B_versionAt ini_B hd_B_versionAt ⟨Nat.le_of_ble_eq_true rfl, Nat.le_of_ble_eq_true rfl⟩) hK hP [1, 2, 3, 4, 5, 6] rfl (ci := 0) rfl rfl rfl hl.1 rfl (Nat.le_of_ble_eq_true rfl) d_C_version_25 ⟨Nat.zero_le _, Nat.zero_le _⟩ (fun r_25 hw_25 => ?_)
    have hF := hF.trans (bnd_eq hw_25)
    exact W.iret (v := r_25) hx hb hr (fun t ht hW => ⟨_, rfl, hF.symm, ht⟩) (fun q h => by cases h) d_C_version_28

def M_C_memory (g : GC) (x : Cs) (p0 : Int32) : Int32 := (bnd (M_V_inMemory g.2.2.2.2.2 x.2.2.2.1 p0) (fun r_5 => r_5))
theorem M_C_memory_eq (g : GC) (x : Cs) (p0 : Int32) : M_C_memory g x p0 = (bnd (M_V_inMemory g.2.2.2.2.2 x.2.2.2.1 p0) (fun r_5 => r_5)) := rfl
abbrev w_C_memory : List Cond := .code y_C_memory b_C_memory 2 (some .int) :: tbW
abbrev rm_C_memory : Room := { frames := 2, cells := 0, slots := 0, locals := 44 }
set_option maxHeartbeats 4000000 in
set_option maxRecDepth 100000 in
theorem c_C_memory (l : Launch) (D : va_G) (cI cZ : ClassId) (g : GC) (hg : okC g) (x : Cs) (p0 : Int32) : Met l y_C_memory w_C_memory rm_C_memory (PcR D vwCl (tyK cI cZ) [.ref g.1.1, .int p0] (wC cI cZ g x)) (vp_Si (fun r => r = M_C_memory g x p0)) 0 0 (fun _ => False) := by
  refine Met.ofW (cc := b_C_memory) (maxL := 2) (ret := (some .int)) (by decide) rfl ?_
  intro p e s m args below meth c s₁ B hml hv
  obtain ⟨rfl, hP, hK⟩ := hv
  have hx := B.exec
  have hb := B.bytes
  have hr := B.returns
  have htb : ∀ w ∈ tbW, w.before _ s = true := fun w h => atoms_spec (ws := w_C_memory) B.pre w (List.mem_cons_of_mem _ h)
  have hown : s.vm.findClass R_C = some m.cls := findClass_of_methodNamed B.named
  have hlocks := B.notSynchronized
  have hl := lv_entry ([.ref g.1.1, .int p0]) (n := 2) (Nat.le_of_ble_eq_true rfl)
  rw [lg_entry_eq]
  generalize (lg_sl ([.ref g.1.1, .int p0]) ++ List.replicate (2 - (lg_sl ([.ref g.1.1, .int p0])).length) Slot.unset).toArray = ls at hl ⊢
  have hl : lv_has ls 2 [(0, .ref g.1.1), (1, .int p0)] := hl
  have hF := M_C_memory_eq g x p0
  refine lv_aload_n hx hb d_C_memory_0 rfl (lv_at hl 0 rfl) ?_
  refine va_get (D := D) (ci := 2) (v := .ref g.2.2.2.2.2.1.1) (C := R_C) (T := T_C) (N := 10) hx hb htb i_C hown hK hP 0 rfl rfl 4 (by decide) (htb _ k_C_37) (fun _ h9 => h9) rfl d_C_memory_1 ?_
  refine lv_iload_n hx hb d_C_memory_4 rfl (lv_at hl 1 rfl) ?_
  refine cpi (As := [.int p0]) (rest := []) ⟨hx, hb, hml, hown, htb⟩ (c_V_inMemory l D cI cZ g.2.2.2.2.2 hg.2.2.2 x.2.2.2.1 p0) (cwv (n := 1) htb cd_V_inMemory k_C_126 in_V_inMemory se_V_inMemory ini_V hd_V_inMemory ⟨Nat.le_of_ble_eq_true rfl, Nat.le_of_ble_eq_true rfl⟩) hK hP [13, 14, 15, 16] rfl (ci := 1) rfl rfl rfl hl.1 rfl (Nat.le_of_ble_eq_true rfl) d_C_memory_5 ⟨Nat.zero_le _, Nat.zero_le _⟩ (fun r_5 hw_5 => ?_)
  have hF := hF.trans (bnd_eq hw_5)
  exact W.iret (v := r_5) hx hb hr (fun t ht hW => ⟨_, rfl, hF.symm, ht⟩) (fun q h => by cases h) d_C_memory_8

def M_C_line_n (g : GC) (x : Cs) (p0 p1 p2 : Int32) : Int32 := (bnd (M_C_groupOf p0) (fun r_36 => (bnd (M_B_size g.2.2.2.2.1 x.2.2.1 ((r_36 * g.2.2.2.2.1.2.1.1) + p1)) (fun r_58 => (bnd (M_B_lineAt g.2.2.2.2.1 x.2.2.1 ((((r_36 * g.2.2.2.2.1.2.1.1) + p1) * g.2.2.2.2.1.2.1.2) + p2)) (fun r_86 => r_86))))))
theorem M_C_line_n_eq (g : GC) (x : Cs) (p0 p1 p2 : Int32) : M_C_line_n g x p0 p1 p2 = (bnd (M_C_groupOf p0) (fun r_36 => (bnd (M_B_size g.2.2.2.2.1 x.2.2.1 ((r_36 * g.2.2.2.2.1.2.1.1) + p1)) (fun r_58 => (bnd (M_B_lineAt g.2.2.2.2.1 x.2.2.1 ((((r_36 * g.2.2.2.2.1.2.1.1) + p1) * g.2.2.2.2.1.2.1.2) + p2)) (fun r_86 => r_86)))))) := rfl
abbrev w_C_line_n : List Cond := .code y_C_line b_C_line 6 (some .int) :: tbW
abbrev rm_C_line_n : Room := { frames := 2, cells := 0, slots := 0, locals := 42 }
set_option maxHeartbeats 4000000 in
set_option maxRecDepth 100000 in
theorem c_C_line_n (l : Launch) (D : va_G) (cI cZ : ClassId) (g : GC) (hg : okC g) (x : Cs) (p0 p1 p2 : Int32) (hq : p0 = -1) (hs0 : ¬ p1 < 0) (hs1 : p1 < g.2.2.2.2.1.2.1.1) (hk0 : ¬ p2 < 0) (hk1 : p2 < M_B_size g.2.2.2.2.1 x.2.2.1 ((M_C_groupOf p0 * g.2.2.2.2.1.2.1.1) + p1)) : Met l y_C_line w_C_line_n rm_C_line_n (PcR D vwCl (tyK cI cZ) [.ref g.1.1, .int p0, .int p1, .int p2] (wC cI cZ g x)) (vp_Si (fun r => r = M_C_line_n g x p0 p1 p2)) 0 0 (fun _ => False) := by
  refine Met.ofW (cc := b_C_line) (maxL := 6) (ret := (some .int)) (by decide) rfl ?_
  intro p e s m args below meth c s₁ B hml hv
  obtain ⟨rfl, hP, hK⟩ := hv
  have hx := B.exec
  have hb := B.bytes
  have hr := B.returns
  have htb : ∀ w ∈ tbW, w.before _ s = true := fun w h => atoms_spec (ws := w_C_line_n) B.pre w (List.mem_cons_of_mem _ h)
  have hown : s.vm.findClass R_C = some m.cls := findClass_of_methodNamed B.named
  have hlocks := B.notSynchronized
  have hl := lv_entry ([.ref g.1.1, .int p0, .int p1, .int p2]) (n := 6) (Nat.le_of_ble_eq_true rfl)
  rw [lg_entry_eq]
  generalize (lg_sl ([.ref g.1.1, .int p0, .int p1, .int p2]) ++ List.replicate (6 - (lg_sl ([.ref g.1.1, .int p0, .int p1, .int p2])).length) Slot.unset).toArray = ls at hl ⊢
  have hl : lv_has ls 6 [(0, .ref g.1.1), (1, .int p0), (2, .int p1), (3, .int p2)] := hl
  have hF := M_C_line_n_eq g x p0 p1 p2
  refine lv_aload_n hx hb d_C_line_0 rfl (lv_at hl 0 rfl) ?_
  refine lv_iload_n hx hb d_C_line_1 rfl (lv_at hl 1 rfl) ?_
  refine cpv (As := [.int p0]) (rest := []) ⟨hx, hb, hml, hown, htb⟩ (c_C_requireCoreOrNone l D cI cZ g hg x p0 (Or.inl hq)) (cwv (n := 1) htb cd_C_requireCoreOrNone k_C_116 in_C_requireCoreOrNone se_C_requireCoreOrNone ini_C hd_C_requireCoreOrNone ⟨Nat.le_of_ble_eq_true rfl, Nat.le_of_ble_eq_true rfl⟩) hK hP [0, 1, 2, 3, 4, 5, 6, 7, 8, 9, 10, 11, 12, 13, 14, 15, 16, 17, 18] rfl (ci := 2) rfl rfl rfl hl.1 rfl (Nat.le_of_ble_eq_true rfl) d_C_line_2 ⟨Nat.zero_le _, Nat.zero_le _⟩ (?_)
  refine lv_aload_n hx hb d_C_line_5 rfl (lv_at hl 0 rfl) ?_
  refine lv_iload_n hx hb d_C_line_6 rfl (lv_at hl 1 rfl) ?_
  refine cpr (As := [.int p0]) (rest := []) ⟨hx, hb, hml, hown, htb⟩ (c_C_bankOf_n l D cI cZ g hg x p0 hq) (cwv (n := 1) htb cd_C_bankOf k_C_119 in_C_bankOf se_C_bankOf ini_C hd_C_bankOf ⟨Nat.le_of_ble_eq_true rfl, Nat.le_of_ble_eq_true rfl⟩) hK hP [0, 1, 2, 3, 4, 5, 6, 7, 8, 9, 10, 11, 12, 13, 14, 15, 16, 17, 18] rfl (ci := 2) rfl rfl rfl hl.1 rfl (Nat.le_of_ble_eq_true rfl) d_C_line_7 ⟨Nat.zero_le _, Nat.zero_le _⟩ (?_)
  refine lv_astore (lv' := [(4, .ref g.2.2.2.2.1.1.1), (0, .ref g.1.1), (1, .int p0), (2, .int p1), (3, .int p2)]) hx hb d_C_line_10 hl (by decide) rfl (fun ls hl => ?_)
  refine lv_iload_n hx hb d_C_line_12 rfl (lv_at hl 3 rfl) ?_
  refine lv_if_lt (tgt := 25) hx hb d_C_line_13 (by decide) (fun c_13 => ?_) (fun c_13 => ?_)
  · exact absurd c_13 hs0
  · skip
    refine lv_iload_n hx hb d_C_line_16 rfl (lv_at hl 3 rfl) ?_
    refine lv_aload hx hb d_C_line_17 (lv_at hl 0 rfl) ?_
    refine va_get (D := D) (ci := 0) (v := .int g.2.2.2.2.1.2.1.1) (C := R_B) (T := T_B) (N := 7) hx hb htb i_B hown hK hP 7 rfl rfl 0 (by decide) (htb _ k_C_129) (fun _ h9 => h9) rfl d_C_line_19 ?_
    refine lv_icmp_lt (tgt := 35) hx hb d_C_line_22 (by decide) (fun c_22 => ?_) (fun c_22 => ?_)
    · skip
      refine lv_iload_n hx hb d_C_line_35 rfl (lv_at hl 2 rfl) ?_
      refine cps (As := [.int p0]) (rest := []) ⟨hx, hb, hml, hown, htb⟩ (c_C_groupOf l p0) (cws (n := 1) htb cd_C_groupOf k_C_123 st_C_groupOf ini_C hd_C_groupOf ⟨Nat.le_of_ble_eq_true rfl, Nat.le_of_ble_eq_true rfl⟩) rfl hl.1 rfl (Nat.le_of_ble_eq_true rfl) d_C_line_36 ⟨Nat.zero_le _, Nat.zero_le _⟩ (fun r_36 hw_36 => ?_)
      have hF := hF.trans (bnd_eq hw_36)
      refine lv_aload hx hb d_C_line_39 (lv_at hl 0 rfl) ?_
      refine va_get (D := D) (ci := 0) (v := .int g.2.2.2.2.1.2.1.1) (C := R_B) (T := T_B) (N := 7) hx hb htb i_B hown hK hP 7 rfl rfl 0 (by decide) (htb _ k_C_129) (fun _ h9 => h9) rfl d_C_line_41 ?_
      refine lv_imul hx hb d_C_line_44 ?_
      refine lv_iload_n hx hb d_C_line_45 rfl (lv_at hl 3 rfl) ?_
      refine lv_iadd hx hb d_C_line_46 ?_
      refine lv_istore (lv' := [(5, .int ((r_36 * g.2.2.2.2.1.2.1.1) + p1)), (4, .ref g.2.2.2.2.1.1.1), (0, .ref g.1.1), (1, .int p0), (2, .int p1), (3, .int p2)]) hx hb d_C_line_47 hl (by decide) rfl (fun ls hl => ?_)
      refine lv_iload_n hx hb d_C_line_49 rfl (lv_at hl 5 rfl) ?_
      refine lv_if_lt (tgt := 64) hx hb d_C_line_50 (by decide) (fun c_50 => ?_) (fun c_50 => ?_)
      · exact absurd c_50 hk0
      · skip
        refine lv_iload_n hx hb d_C_line_53 rfl (lv_at hl 5 rfl) ?_
        refine lv_aload hx hb d_C_line_54 (lv_at hl 1 rfl) ?_
        refine lv_iload hx hb d_C_line_56 (lv_at hl 0 rfl) ?_
        refine cpi (As := [.int ((r_36 * g.2.2.2.2.1.2.1.1) + p1)]) (rest := [.int p2]) ⟨hx, hb, hml, hown, htb⟩ (c_B_size l D cI cZ g.2.2.2.2.1 hg.2.2.1 x.2.2.1 ((r_36 * g.2.2.2.2.1.2.1.1) + p1)) (cwv (n := 1) htb cd_B_size k_C_137 in_B_size se_B_size ini_B hd_B_size ⟨Nat.le_of_ble_eq_true rfl, Nat.le_of_ble_eq_true rfl⟩) hK hP [7, 8, 9, 10, 11, 12] rfl (ci := 0) rfl rfl rfl hl.1 rfl (Nat.le_of_ble_eq_true rfl) d_C_line_58 ⟨Nat.zero_le _, Nat.zero_le _⟩ (fun r_58 hw_58 => ?_)
        have hF := hF.trans (bnd_eq hw_58)
        refine lv_icmp_lt (tgt := 74) hx hb d_C_line_61 (by decide) (fun c_61 => ?_) (fun c_61 => ?_)
        · skip
          refine lv_aload hx hb d_C_line_74 (lv_at hl 1 rfl) ?_
          refine lv_iload hx hb d_C_line_76 (lv_at hl 0 rfl) ?_
          refine lv_aload hx hb d_C_line_78 (lv_at hl 1 rfl) ?_
          refine va_get (D := D) (ci := 0) (v := .int g.2.2.2.2.1.2.1.2) (C := R_B) (T := T_B) (N := 7) hx hb htb i_B hown hK hP 7 rfl rfl 1 (by decide) (htb _ k_C_142) (fun _ h9 => h9) rfl d_C_line_80 ?_
          refine lv_imul hx hb d_C_line_83 ?_
          refine lv_iload_n hx hb d_C_line_84 rfl (lv_at hl 5 rfl) ?_
          refine lv_iadd hx hb d_C_line_85 ?_
          refine cpi (As := [.int ((((r_36 * g.2.2.2.2.1.2.1.1) + p1) * g.2.2.2.2.1.2.1.2) + p2)]) (rest := []) ⟨hx, hb, hml, hown, htb⟩ (c_B_lineAt l D cI cZ g.2.2.2.2.1 hg.2.2.1 x.2.2.1 ((((r_36 * g.2.2.2.2.1.2.1.1) + p1) * g.2.2.2.2.1.2.1.2) + p2)) (cwv (n := 1) htb cd_B_lineAt k_C_100 in_B_lineAt se_B_lineAt ini_B hd_B_lineAt ⟨Nat.le_of_ble_eq_true rfl, Nat.le_of_ble_eq_true rfl⟩) hK hP [7, 8, 9, 10, 11, 12] rfl (ci := 0) rfl rfl rfl hl.1 rfl (Nat.le_of_ble_eq_true rfl) d_C_line_86 ⟨Nat.zero_le _, Nat.zero_le _⟩ (fun r_86 hw_86 => ?_)
          have hF := hF.trans (bnd_eq hw_86)
          exact W.iret (v := r_86) hx hb hr (fun t ht hW => ⟨_, rfl, hF.symm, ht⟩) (fun q h => by cases h) d_C_line_89
        · exact absurd (by rw [hw_58, hw_36]; exact hk1) c_61
    · exact absurd hs1 c_22

def M_C_line_c (g : GC) (x : Cs) (p0 p1 p2 : Int32) : Int32 := (bnd (M_C_groupOf p0) (fun r_36 => (bnd (M_B_size g.2.2.2.1 x.2.1 ((r_36 * g.2.2.2.1.2.1.1) + p1)) (fun r_58 => (bnd (M_B_lineAt g.2.2.2.1 x.2.1 ((((r_36 * g.2.2.2.1.2.1.1) + p1) * g.2.2.2.1.2.1.2) + p2)) (fun r_86 => r_86))))))
theorem M_C_line_c_eq (g : GC) (x : Cs) (p0 p1 p2 : Int32) : M_C_line_c g x p0 p1 p2 = (bnd (M_C_groupOf p0) (fun r_36 => (bnd (M_B_size g.2.2.2.1 x.2.1 ((r_36 * g.2.2.2.1.2.1.1) + p1)) (fun r_58 => (bnd (M_B_lineAt g.2.2.2.1 x.2.1 ((((r_36 * g.2.2.2.1.2.1.1) + p1) * g.2.2.2.1.2.1.2) + p2)) (fun r_86 => r_86)))))) := rfl
abbrev w_C_line_c : List Cond := .code y_C_line b_C_line 6 (some .int) :: tbW
abbrev rm_C_line_c : Room := { frames := 2, cells := 0, slots := 0, locals := 42 }
set_option maxHeartbeats 4000000 in
set_option maxRecDepth 100000 in
theorem c_C_line_c (l : Launch) (D : va_G) (cI cZ : ClassId) (g : GC) (hg : okC g) (x : Cs) (p0 p1 p2 : Int32) (hv0 : ¬ p0 < 0) (hv1 : p0 < g.2.1.1) (hq : ¬ p0 = -1) (hs0 : ¬ p1 < 0) (hs1 : p1 < g.2.2.2.1.2.1.1) (hk0 : ¬ p2 < 0) (hk1 : p2 < M_B_size g.2.2.2.1 x.2.1 ((M_C_groupOf p0 * g.2.2.2.1.2.1.1) + p1)) : Met l y_C_line w_C_line_c rm_C_line_c (PcR D vwCl (tyK cI cZ) [.ref g.1.1, .int p0, .int p1, .int p2] (wC cI cZ g x)) (vp_Si (fun r => r = M_C_line_c g x p0 p1 p2)) 0 0 (fun _ => False) := by
  refine Met.ofW (cc := b_C_line) (maxL := 6) (ret := (some .int)) (by decide) rfl ?_
  intro p e s m args below meth c s₁ B hml hv
  obtain ⟨rfl, hP, hK⟩ := hv
  have hx := B.exec
  have hb := B.bytes
  have hr := B.returns
  have htb : ∀ w ∈ tbW, w.before _ s = true := fun w h => atoms_spec (ws := w_C_line_c) B.pre w (List.mem_cons_of_mem _ h)
  have hown : s.vm.findClass R_C = some m.cls := findClass_of_methodNamed B.named
  have hlocks := B.notSynchronized
  have hl := lv_entry ([.ref g.1.1, .int p0, .int p1, .int p2]) (n := 6) (Nat.le_of_ble_eq_true rfl)
  rw [lg_entry_eq]
  generalize (lg_sl ([.ref g.1.1, .int p0, .int p1, .int p2]) ++ List.replicate (6 - (lg_sl ([.ref g.1.1, .int p0, .int p1, .int p2])).length) Slot.unset).toArray = ls at hl ⊢
  have hl : lv_has ls 6 [(0, .ref g.1.1), (1, .int p0), (2, .int p1), (3, .int p2)] := hl
  have hF := M_C_line_c_eq g x p0 p1 p2
  refine lv_aload_n hx hb d_C_line_0 rfl (lv_at hl 0 rfl) ?_
  refine lv_iload_n hx hb d_C_line_1 rfl (lv_at hl 1 rfl) ?_
  refine cpv (As := [.int p0]) (rest := []) ⟨hx, hb, hml, hown, htb⟩ (c_C_requireCoreOrNone l D cI cZ g hg x p0 (Or.inr ⟨hv0, hv1⟩)) (cwv (n := 1) htb cd_C_requireCoreOrNone k_C_116 in_C_requireCoreOrNone se_C_requireCoreOrNone ini_C hd_C_requireCoreOrNone ⟨Nat.le_of_ble_eq_true rfl, Nat.le_of_ble_eq_true rfl⟩) hK hP [0, 1, 2, 3, 4, 5, 6, 7, 8, 9, 10, 11, 12, 13, 14, 15, 16, 17, 18] rfl (ci := 2) rfl rfl rfl hl.1 rfl (Nat.le_of_ble_eq_true rfl) d_C_line_2 ⟨Nat.zero_le _, Nat.zero_le _⟩ (?_)
  refine lv_aload_n hx hb d_C_line_5 rfl (lv_at hl 0 rfl) ?_
  refine lv_iload_n hx hb d_C_line_6 rfl (lv_at hl 1 rfl) ?_
  refine cpr (As := [.int p0]) (rest := []) ⟨hx, hb, hml, hown, htb⟩ (c_C_bankOf_c l D cI cZ g hg x p0 hq) (cwv (n := 1) htb cd_C_bankOf k_C_119 in_C_bankOf se_C_bankOf ini_C hd_C_bankOf ⟨Nat.le_of_ble_eq_true rfl, Nat.le_of_ble_eq_true rfl⟩) hK hP [0, 1, 2, 3, 4, 5, 6, 7, 8, 9, 10, 11, 12, 13, 14, 15, 16, 17, 18] rfl (ci := 2) rfl rfl rfl hl.1 rfl (Nat.le_of_ble_eq_true rfl) d_C_line_7 ⟨Nat.zero_le _, Nat.zero_le _⟩ (?_)
  refine lv_astore (lv' := [(4, .ref g.2.2.2.1.1.1), (0, .ref g.1.1), (1, .int p0), (2, .int p1), (3, .int p2)]) hx hb d_C_line_10 hl (by decide) rfl (fun ls hl => ?_)
  refine lv_iload_n hx hb d_C_line_12 rfl (lv_at hl 3 rfl) ?_
  refine lv_if_lt (tgt := 25) hx hb d_C_line_13 (by decide) (fun c_13 => ?_) (fun c_13 => ?_)
  · exact absurd c_13 hs0
  · skip
    refine lv_iload_n hx hb d_C_line_16 rfl (lv_at hl 3 rfl) ?_
    refine lv_aload hx hb d_C_line_17 (lv_at hl 0 rfl) ?_
    refine va_get (D := D) (ci := 0) (v := .int g.2.2.2.1.2.1.1) (C := R_B) (T := T_B) (N := 7) hx hb htb i_B hown hK hP 1 rfl rfl 0 (by decide) (htb _ k_C_129) (fun _ h9 => h9) rfl d_C_line_19 ?_
    refine lv_icmp_lt (tgt := 35) hx hb d_C_line_22 (by decide) (fun c_22 => ?_) (fun c_22 => ?_)
    · skip
      refine lv_iload_n hx hb d_C_line_35 rfl (lv_at hl 2 rfl) ?_
      refine cps (As := [.int p0]) (rest := []) ⟨hx, hb, hml, hown, htb⟩ (c_C_groupOf l p0) (cws (n := 1) htb cd_C_groupOf k_C_123 st_C_groupOf ini_C hd_C_groupOf ⟨Nat.le_of_ble_eq_true rfl, Nat.le_of_ble_eq_true rfl⟩) rfl hl.1 rfl (Nat.le_of_ble_eq_true rfl) d_C_line_36 ⟨Nat.zero_le _, Nat.zero_le _⟩ (fun r_36 hw_36 => ?_)
      have hF := hF.trans (bnd_eq hw_36)
      refine lv_aload hx hb d_C_line_39 (lv_at hl 0 rfl) ?_
      refine va_get (D := D) (ci := 0) (v := .int g.2.2.2.1.2.1.1) (C := R_B) (T := T_B) (N := 7) hx hb htb i_B hown hK hP 1 rfl rfl 0 (by decide) (htb _ k_C_129) (fun _ h9 => h9) rfl d_C_line_41 ?_
      refine lv_imul hx hb d_C_line_44 ?_
      refine lv_iload_n hx hb d_C_line_45 rfl (lv_at hl 3 rfl) ?_
      refine lv_iadd hx hb d_C_line_46 ?_
      refine lv_istore (lv' := [(5, .int ((r_36 * g.2.2.2.1.2.1.1) + p1)), (4, .ref g.2.2.2.1.1.1), (0, .ref g.1.1), (1, .int p0), (2, .int p1), (3, .int p2)]) hx hb d_C_line_47 hl (by decide) rfl (fun ls hl => ?_)
      refine lv_iload_n hx hb d_C_line_49 rfl (lv_at hl 5 rfl) ?_
      refine lv_if_lt (tgt := 64) hx hb d_C_line_50 (by decide) (fun c_50 => ?_) (fun c_50 => ?_)
      · exact absurd c_50 hk0
      · skip
        refine lv_iload_n hx hb d_C_line_53 rfl (lv_at hl 5 rfl) ?_
        refine lv_aload hx hb d_C_line_54 (lv_at hl 1 rfl) ?_
        refine lv_iload hx hb d_C_line_56 (lv_at hl 0 rfl) ?_
        refine cpi (As := [.int ((r_36 * g.2.2.2.1.2.1.1) + p1)]) (rest := [.int p2]) ⟨hx, hb, hml, hown, htb⟩ (c_B_size l D cI cZ g.2.2.2.1 hg.2.1 x.2.1 ((r_36 * g.2.2.2.1.2.1.1) + p1)) (cwv (n := 1) htb cd_B_size k_C_137 in_B_size se_B_size ini_B hd_B_size ⟨Nat.le_of_ble_eq_true rfl, Nat.le_of_ble_eq_true rfl⟩) hK hP [1, 2, 3, 4, 5, 6] rfl (ci := 0) rfl rfl rfl hl.1 rfl (Nat.le_of_ble_eq_true rfl) d_C_line_58 ⟨Nat.zero_le _, Nat.zero_le _⟩ (fun r_58 hw_58 => ?_)
        have hF := hF.trans (bnd_eq hw_58)
        refine lv_icmp_lt (tgt := 74) hx hb d_C_line_61 (by decide) (fun c_61 => ?_) (fun c_61 => ?_)
        · skip
          refine lv_aload hx hb d_C_line_74 (lv_at hl 1 rfl) ?_
          refine lv_iload hx hb d_C_line_76 (lv_at hl 0 rfl) ?_
          refine lv_aload hx hb d_C_line_78 (lv_at hl 1 rfl) ?_
          refine va_get (D := D) (ci := 0) (v := .int g.2.2.2.1.2.1.2) (C := R_B) (T := T_B) (N := 7) hx hb htb i_B hown hK hP 1 rfl rfl 1 (by decide) (htb _ k_C_142) (fun _ h9 => h9) rfl d_C_line_80 ?_
          refine lv_imul hx hb d_C_line_83 ?_
          refine lv_iload_n hx hb d_C_line_84 rfl (lv_at hl 5 rfl) ?_
          refine lv_iadd hx hb d_C_line_85 ?_
          refine cpi (As := [.int ((((r_36 * g.2.2.2.1.2.1.1) + p1) * g.2.2.2.1.2.1.2) + p2)]) (rest := []) ⟨hx, hb, hml, hown, htb⟩ (c_B_lineAt l D cI cZ g.2.2.2.1 hg.2.1 x.2.1 ((((r_36 * g.2.2.2.1.2.1.1) + p1) * g.2.2.2.1.2.1.2) + p2)) (cwv (n := 1) htb cd_B_lineAt k_C_100 in_B_lineAt se_B_lineAt ini_B hd_B_lineAt ⟨Nat.le_of_ble_eq_true rfl, Nat.le_of_ble_eq_true rfl⟩) hK hP [1, 2, 3, 4, 5, 6] rfl (ci := 0) rfl rfl rfl hl.1 rfl (Nat.le_of_ble_eq_true rfl) d_C_line_86 ⟨Nat.zero_le _, Nat.zero_le _⟩ (fun r_86 hw_86 => ?_)
          have hF := hF.trans (bnd_eq hw_86)
          exact W.iret (v := r_86) hx hb hr (fun t ht hW => ⟨_, rfl, hF.symm, ht⟩) (fun q h => by cases h) d_C_line_89
        · exact absurd (by rw [hw_58, hw_36]; exact hk1) c_61
    · exact absurd hs1 c_22

def M_C_owner (g : GC) (x : Cs) (p0 : Int32) : Int32 := (bnd (M_B_find g.2.2.2.2.1 x.2.2.1 (0 : Int32) p0) (fun r_6 => (if r_6 = (-1 : Int32) then (-1 : Int32) else (bnd (M_B_ownerAt g.2.2.2.2.1 x.2.2.1 r_6) (fun r_24 => r_24)))))
theorem M_C_owner_eq (g : GC) (x : Cs) (p0 : Int32) : M_C_owner g x p0 = (bnd (M_B_find g.2.2.2.2.1 x.2.2.1 (0 : Int32) p0) (fun r_6 => (if r_6 = (-1 : Int32) then (-1 : Int32) else (bnd (M_B_ownerAt g.2.2.2.2.1 x.2.2.1 r_6) (fun r_24 => r_24))))) := rfl
abbrev w_C_owner : List Cond := .code y_C_owner b_C_owner 3 (some .int) :: tbW
abbrev rm_C_owner : Room := { frames := 3, cells := 0, slots := 0, locals := 68 }
set_option maxHeartbeats 4000000 in
set_option maxRecDepth 100000 in
theorem c_C_owner (l : Launch) (D : va_G) (cI cZ : ClassId) (g : GC) (hg : okC g) (x : Cs) (p0 : Int32) : Met l y_C_owner w_C_owner rm_C_owner (PcR D vwCl (tyK cI cZ) [.ref g.1.1, .int p0] (wC cI cZ g x)) (vp_Si (fun r => r = M_C_owner g x p0)) 0 0 (fun _ => False) := by
  refine Met.ofW (cc := b_C_owner) (maxL := 3) (ret := (some .int)) (by decide) rfl ?_
  intro p e s m args below meth c s₁ B hml hv
  obtain ⟨rfl, hP, hK⟩ := hv
  have hx := B.exec
  have hb := B.bytes
  have hr := B.returns
  have htb : ∀ w ∈ tbW, w.before _ s = true := fun w h => atoms_spec (ws := w_C_owner) B.pre w (List.mem_cons_of_mem _ h)
  have hown : s.vm.findClass R_C = some m.cls := findClass_of_methodNamed B.named
  have hlocks := B.notSynchronized
  have hl := lv_entry ([.ref g.1.1, .int p0]) (n := 3) (Nat.le_of_ble_eq_true rfl)
  rw [lg_entry_eq]
  generalize (lg_sl ([.ref g.1.1, .int p0]) ++ List.replicate (3 - (lg_sl ([.ref g.1.1, .int p0])).length) Slot.unset).toArray = ls at hl ⊢
  have hl : lv_has ls 3 [(0, .ref g.1.1), (1, .int p0)] := hl
  have hF := M_C_owner_eq g x p0
  refine lv_aload_n hx hb d_C_owner_0 rfl (lv_at hl 0 rfl) ?_
  refine va_get (D := D) (ci := 2) (v := .ref g.2.2.2.2.1.1.1) (C := R_C) (T := T_C) (N := 10) hx hb htb i_C hown hK hP 0 rfl rfl 3 (by decide) (htb _ k_C_31) (fun _ h9 => h9) rfl d_C_owner_1 ?_
  refine lv_iconst (v := 0) hx hb d_C_owner_4 (by decide) ?_
  refine lv_iload_n hx hb d_C_owner_5 rfl (lv_at hl 1 rfl) ?_
  refine cpi (As := [.int (0 : Int32), .int p0]) (rest := []) ⟨hx, hb, hml, hown, htb⟩ (c_B_find l D cI cZ g.2.2.2.2.1 hg.2.2.1 x.2.2.1 (0 : Int32) p0) (cwv (n := 2) htb cd_B_find k_C_72 in_B_find se_B_find ini_B hd_B_find ⟨Nat.le_of_ble_eq_true rfl, Nat.le_of_ble_eq_true rfl⟩) hK hP [7, 8, 9, 10, 11, 12] rfl (ci := 0) rfl rfl rfl hl.1 rfl (Nat.le_of_ble_eq_true rfl) d_C_owner_6 ⟨Nat.zero_le _, Nat.zero_le _⟩ (fun r_6 hw_6 => ?_)
  have hF := hF.trans (bnd_eq hw_6)
  refine lv_istore_n (lv' := [(2, .int r_6), (0, .ref g.1.1), (1, .int p0)]) hx hb d_C_owner_9 rfl hl (by decide) rfl (fun ls hl => ?_)
  refine lv_iload_n hx hb d_C_owner_10 rfl (lv_at hl 0 rfl) ?_
  refine lv_iconst (v := -1) hx hb d_C_owner_11 (by decide) ?_
  refine lv_icmp_ne (tgt := 19) hx hb d_C_owner_12 (by decide) (fun c_12 => ?_) (fun c_12 => ?_)
  · have hF := hF.trans (if_neg c_12)
    refine lv_aload_n hx hb d_C_owner_19 rfl (lv_at hl 1 rfl) ?_
    refine va_get (D := D) (ci := 2) (v := .ref g.2.2.2.2.1.1.1) (C := R_C) (T := T_C) (N := 10) hx hb htb i_C hown hK hP 0 rfl rfl 3 (by decide) (htb _ k_C_31) (fun _ h9 => h9) rfl d_C_owner_20 ?_
    refine lv_iload_n hx hb d_C_owner_23 rfl (lv_at hl 0 rfl) ?_
    refine cpi (As := [.int r_6]) (rest := []) ⟨hx, hb, hml, hown, htb⟩ (c_B_ownerAt l D cI cZ g.2.2.2.2.1 hg.2.2.1 x.2.2.1 r_6) (cwv (n := 1) htb cd_B_ownerAt k_C_145 in_B_ownerAt se_B_ownerAt ini_B hd_B_ownerAt ⟨Nat.le_of_ble_eq_true rfl, Nat.le_of_ble_eq_true rfl⟩) hK hP [7, 8, 9, 10, 11, 12] rfl (ci := 0) rfl rfl rfl hl.1 rfl (Nat.le_of_ble_eq_true rfl) d_C_owner_24 ⟨Nat.zero_le _, Nat.zero_le _⟩ (fun r_24 hw_24 => ?_)
    have hF := hF.trans (bnd_eq hw_24)
    exact W.iret (v := r_24) hx hb hr (fun t ht hW => ⟨_, rfl, hF.symm, ht⟩) (fun q h => by cases h) d_C_owner_27
  · have hF := hF.trans (if_pos c_12)
    refine lv_iconst (v := -1) hx hb d_C_owner_15 (by decide) ?_
    refine lv_goto (tgt := 27) hx hb d_C_owner_16 (by decide) ?_
    exact W.iret (v := (-1 : Int32)) hx hb hr (fun t ht hW => ⟨_, rfl, hF.symm, ht⟩) (fun q h => by cases h) d_C_owner_27

def M_C_core (g : GC) (x : Cs) (p0 p1 : Int32) : Int32 := (if p1 = (7 : Int32) then (bnd (M_B_ownedBy g.2.2.2.2.1 x.2.2.1 p0) (fun r_36 => r_36)) else (x.2.2.2.2.2 ((p0 * (7 : Int32)) + p1).toNatClampNeg))
theorem M_C_core_eq (g : GC) (x : Cs) (p0 p1 : Int32) : M_C_core g x p0 p1 = (if p1 = (7 : Int32) then (bnd (M_B_ownedBy g.2.2.2.2.1 x.2.2.1 p0) (fun r_36 => r_36)) else (x.2.2.2.2.2 ((p0 * (7 : Int32)) + p1).toNatClampNeg)) := rfl
abbrev w_C_core : List Cond := .code y_C_core b_C_core 3 (some .int) :: tbW
abbrev rm_C_core : Room := { frames := 4, cells := 0, slots := 0, locals := 89 }
set_option maxHeartbeats 4000000 in
set_option maxRecDepth 100000 in
theorem c_C_core (l : Launch) (D : va_G) (cI cZ : ClassId) (g : GC) (hg : okC g) (x : Cs) (p0 p1 : Int32) (hv0 : ¬ p0 < 0) (hv1 : p0 < g.2.1.1) (hw0 : ¬ p1 < 0) (hw1 : p1 ≤ 7) : Met l y_C_core w_C_core rm_C_core (PcR D vwCl (tyK cI cZ) [.ref g.1.1, .int p0, .int p1] (wC cI cZ g x)) (vp_Si (fun r => r = M_C_core g x p0 p1)) 0 0 (fun _ => False) := by
  refine Met.ofW (cc := b_C_core) (maxL := 3) (ret := (some .int)) (by decide) rfl ?_
  intro p e s m args below meth c s₁ B hml hv
  obtain ⟨rfl, hP, hK⟩ := hv
  have hx := B.exec
  have hb := B.bytes
  have hr := B.returns
  have htb : ∀ w ∈ tbW, w.before _ s = true := fun w h => atoms_spec (ws := w_C_core) B.pre w (List.mem_cons_of_mem _ h)
  have hown : s.vm.findClass R_C = some m.cls := findClass_of_methodNamed B.named
  have hlocks := B.notSynchronized
  have hl := lv_entry ([.ref g.1.1, .int p0, .int p1]) (n := 3) (Nat.le_of_ble_eq_true rfl)
  rw [lg_entry_eq]
  generalize (lg_sl ([.ref g.1.1, .int p0, .int p1]) ++ List.replicate (3 - (lg_sl ([.ref g.1.1, .int p0, .int p1])).length) Slot.unset).toArray = ls at hl ⊢
  have hl : lv_has ls 3 [(0, .ref g.1.1), (1, .int p0), (2, .int p1)] := hl
  have hF := M_C_core_eq g x p0 p1
  refine lv_aload_n hx hb d_C_core_0 rfl (lv_at hl 0 rfl) ?_
  refine lv_iload_n hx hb d_C_core_1 rfl (lv_at hl 1 rfl) ?_
  refine cpv (As := [.int p0]) (rest := []) ⟨hx, hb, hml, hown, htb⟩ (c_C_requireCore l D cI cZ g hg x p0 hv0 hv1) (cwv (n := 1) htb cd_C_requireCore k_C_57 in_C_requireCore se_C_requireCore ini_C hd_C_requireCore ⟨Nat.le_of_ble_eq_true rfl, Nat.le_of_ble_eq_true rfl⟩) hK hP [0, 1, 2, 3, 4, 5, 6, 7, 8, 9, 10, 11, 12, 13, 14, 15, 16, 17, 18] rfl (ci := 2) rfl rfl rfl hl.1 rfl (Nat.le_of_ble_eq_true rfl) d_C_core_2 ⟨Nat.zero_le _, Nat.zero_le _⟩ (?_)
  refine lv_iload_n hx hb d_C_core_5 rfl (lv_at hl 2 rfl) ?_
  refine lv_if_lt (tgt := 15) hx hb d_C_core_6 (by decide) (fun c_6 => ?_) (fun c_6 => ?_)
  · exact absurd c_6 hw0
  · skip
    refine lv_iload_n hx hb d_C_core_9 rfl (lv_at hl 2 rfl) ?_
    refine lv_bipush (v := 7) hx hb d_C_core_10 (by decide) ?_
    refine lv_icmp_le (tgt := 25) hx hb d_C_core_12 (by decide) (fun c_12 => ?_) (fun c_12 => ?_)
    · skip
      refine lv_iload_n hx hb d_C_core_25 rfl (lv_at hl 2 rfl) ?_
      refine lv_bipush (v := 7) hx hb d_C_core_26 (by decide) ?_
      refine lv_icmp_ne (tgt := 42) hx hb d_C_core_28 (by decide) (fun c_28 => ?_) (fun c_28 => ?_)
      · have hF := hF.trans (if_neg c_28)
        refine lv_aload_n hx hb d_C_core_42 rfl (lv_at hl 0 rfl) ?_
        refine va_get (D := D) (ci := 2) (v := .ref g.1.2.2) (C := R_C) (T := T_C) (N := 10) hx hb htb i_C hown hK hP 0 rfl rfl 6 (by decide) (htb _ k_C_45) (fun _ h9 => h9) rfl d_C_core_43 ?_
        refine lv_iload_n hx hb d_C_core_46 rfl (lv_at hl 1 rfl) ?_
        refine lv_bipush (v := 7) hx hb d_C_core_47 (by decide) ?_
        refine lv_imul hx hb d_C_core_49 ?_
        refine lv_iload_n hx hb d_C_core_50 rfl (lv_at hl 2 rfl) ?_
        refine lv_iadd hx hb d_C_core_51 ?_
        refine va_iald hx hb hK hP 18 0 rfl rfl (tally_in hg.1 hv0 hv1 hw0 hw1 c_28) d_C_core_52 ?_
        exact W.iret (v := (x.2.2.2.2.2 ((p0 * (7 : Int32)) + p1).toNatClampNeg)) hx hb hr (fun t ht hW => ⟨_, rfl, hF.symm, ht⟩) (fun q h => by cases h) d_C_core_53
      · have hF := hF.trans (if_pos c_28)
        refine lv_aload_n hx hb d_C_core_31 rfl (lv_at hl 0 rfl) ?_
        refine va_get (D := D) (ci := 2) (v := .ref g.2.2.2.2.1.1.1) (C := R_C) (T := T_C) (N := 10) hx hb htb i_C hown hK hP 0 rfl rfl 3 (by decide) (htb _ k_C_31) (fun _ h9 => h9) rfl d_C_core_32 ?_
        refine lv_iload_n hx hb d_C_core_35 rfl (lv_at hl 1 rfl) ?_
        refine cpi (As := [.int p0]) (rest := []) ⟨hx, hb, hml, hown, htb⟩ (c_B_ownedBy l D cI cZ g.2.2.2.2.1 hg.2.2.1 x.2.2.1 p0) (cwv (n := 1) htb cd_B_ownedBy k_C_150 in_B_ownedBy se_B_ownedBy ini_B hd_B_ownedBy ⟨Nat.le_of_ble_eq_true rfl, Nat.le_of_ble_eq_true rfl⟩) hK hP [7, 8, 9, 10, 11, 12] rfl (ci := 0) rfl rfl rfl hl.1 rfl (Nat.le_of_ble_eq_true rfl) d_C_core_36 ⟨Nat.zero_le _, Nat.zero_le _⟩ (fun r_36 hw_36 => ?_)
        have hF := hF.trans (bnd_eq hw_36)
        refine lv_goto (tgt := 53) hx hb d_C_core_39 (by decide) ?_
        exact W.iret (v := r_36) hx hb hr (fun t ht hW => ⟨_, rfl, hF.symm, ht⟩) (fun q h => by cases h) d_C_core_53
    · exact absurd hw1 c_12

def M_C_count (g : GC) (x : Cs) (p0 : Int32) : Int32 := (if p0 = 0 then x.2.2.2.1.1 else (if p0 = 1 then x.1.2.2 else (if p0 = 2 then (bnd (M_B_total g.2.2.2.1 x.2.1) (fun r_65 => r_65)) else (if p0 = 3 then (bnd (M_B_total g.2.2.2.2.1 x.2.2.1) (fun r_73 => r_73)) else (if p0 = 4 then g.2.1.1 else (if p0 = 5 then g.2.1.2 else (if p0 = 6 then g.2.2.2.1.2.1.1 else (if p0 = 7 then g.2.2.2.2.1.2.1.1 else (-1 : Int32)))))))))
theorem M_C_count_eq (g : GC) (x : Cs) (p0 : Int32) : M_C_count g x p0 = (if p0 = 0 then x.2.2.2.1.1 else (if p0 = 1 then x.1.2.2 else (if p0 = 2 then (bnd (M_B_total g.2.2.2.1 x.2.1) (fun r_65 => r_65)) else (if p0 = 3 then (bnd (M_B_total g.2.2.2.2.1 x.2.2.1) (fun r_73 => r_73)) else (if p0 = 4 then g.2.1.1 else (if p0 = 5 then g.2.1.2 else (if p0 = 6 then g.2.2.2.1.2.1.1 else (if p0 = 7 then g.2.2.2.2.1.2.1.1 else (-1 : Int32))))))))) := rfl
abbrev w_C_count : List Cond := .code y_C_count b_C_count 2 (some .int) :: tbW
abbrev rm_C_count : Room := { frames := 1, cells := 0, slots := 0, locals := 22 }
set_option maxHeartbeats 4000000 in
set_option maxRecDepth 100000 in
theorem c_C_count (l : Launch) (D : va_G) (cI cZ : ClassId) (g : GC) (hg : okC g) (x : Cs) (p0 : Int32) : Met l y_C_count w_C_count rm_C_count (PcR D vwCl (tyK cI cZ) [.ref g.1.1, .int p0] (wC cI cZ g x)) (vp_Si (fun r => r = M_C_count g x p0)) 0 0 (fun _ => False) := by
  refine Met.ofW (cc := b_C_count) (maxL := 2) (ret := (some .int)) (by decide) rfl ?_
  intro p e s m args below meth c s₁ B hml hv
  obtain ⟨rfl, hP, hK⟩ := hv
  have hx := B.exec
  have hb := B.bytes
  have hr := B.returns
  have htb : ∀ w ∈ tbW, w.before _ s = true := fun w h => atoms_spec (ws := w_C_count) B.pre w (List.mem_cons_of_mem _ h)
  have hown : s.vm.findClass R_C = some m.cls := findClass_of_methodNamed B.named
  have hlocks := B.notSynchronized
  have hl := lv_entry ([.ref g.1.1, .int p0]) (n := 2) (Nat.le_of_ble_eq_true rfl)
  rw [lg_entry_eq]
  generalize (lg_sl ([.ref g.1.1, .int p0]) ++ List.replicate (2 - (lg_sl ([.ref g.1.1, .int p0])).length) Slot.unset).toArray = ls at hl ⊢
  have hl : lv_has ls 2 [(0, .ref g.1.1), (1, .int p0)] := hl
  have hF := M_C_count_eq g x p0
  refine lv_iload_n hx hb d_C_count_0 rfl (lv_at hl 1 rfl) ?_
  by_cases c_1_0 : p0 = 0
  · have hF := hF.trans (if_pos c_1_0)
    refine lv_tableIn (tgt := 48) hx hb d_C_count_1 (by rw [c_1_0]; decide) (by rw [c_1_0]; decide) (by rw [c_1_0]; rfl) (by decide) ?_
    refine lv_aload_n hx hb d_C_count_48 rfl (lv_at hl 0 rfl) ?_
    refine va_get (D := D) (ci := 2) (v := .ref g.2.2.2.2.2.1.1) (C := R_C) (T := T_C) (N := 10) hx hb htb i_C hown hK hP 0 rfl rfl 4 (by decide) (htb _ k_C_37) (fun _ h9 => h9) rfl d_C_count_49 ?_
    refine va_get (D := D) (ci := 1) (v := .int x.2.2.2.1.1) (C := R_V) (T := T_V) (N := 5) hx hb htb i_V hown hK hP 13 rfl rfl 0 (by decide) (htb _ k_C_89) (fun _ h9 => h9) rfl d_C_count_52 ?_
    exact W.iret (v := x.2.2.2.1.1) hx hb hr (fun t ht hW => ⟨_, rfl, hF.symm, ht⟩) (fun q h => by cases h) d_C_count_55
  have hF := hF.trans (if_neg c_1_0)
  by_cases c_1_1 : p0 = 1
  · have hF := hF.trans (if_pos c_1_1)
    refine lv_tableIn (tgt := 56) hx hb d_C_count_1 (by rw [c_1_1]; decide) (by rw [c_1_1]; decide) (by rw [c_1_1]; rfl) (by decide) ?_
    refine lv_aload_n hx hb d_C_count_56 rfl (lv_at hl 0 rfl) ?_
    refine va_get (D := D) (ci := 2) (v := .int x.1.2.2) (C := R_C) (T := T_C) (N := 10) hx hb htb i_C hown hK hP 0 rfl rfl 9 (by decide) (htb _ k_C_54) (fun _ h9 => h9) rfl d_C_count_57 ?_
    exact W.iret (v := x.1.2.2) hx hb hr (fun t ht hW => ⟨_, rfl, hF.symm, ht⟩) (fun q h => by cases h) d_C_count_60
  have hF := hF.trans (if_neg c_1_1)
  by_cases c_1_2 : p0 = 2
  · have hF := hF.trans (if_pos c_1_2)
    refine lv_tableIn (tgt := 61) hx hb d_C_count_1 (by rw [c_1_2]; decide) (by rw [c_1_2]; decide) (by rw [c_1_2]; rfl) (by decide) ?_
    refine lv_aload_n hx hb d_C_count_61 rfl (lv_at hl 0 rfl) ?_
    refine va_get (D := D) (ci := 2) (v := .ref g.2.2.2.1.1.1) (C := R_C) (T := T_C) (N := 10) hx hb htb i_C hown hK hP 0 rfl rfl 2 (by decide) (htb _ k_C_27) (fun _ h9 => h9) rfl d_C_count_62 ?_
    refine cpi (As := []) (rest := []) ⟨hx, hb, hml, hown, htb⟩ (c_B_total l D cI cZ g.2.2.2.1 hg.2.1 x.2.1) (cwv (n := 0) htb cd_B_total k_C_153 in_B_total se_B_total ini_B hd_B_total ⟨Nat.le_of_ble_eq_true rfl, Nat.le_of_ble_eq_true rfl⟩) hK hP [1, 2, 3, 4, 5, 6] rfl (ci := 0) rfl rfl rfl hl.1 rfl (Nat.le_of_ble_eq_true rfl) d_C_count_65 ⟨Nat.zero_le _, Nat.zero_le _⟩ (fun r_65 hw_65 => ?_)
    have hF := hF.trans (bnd_eq hw_65)
    exact W.iret (v := r_65) hx hb hr (fun t ht hW => ⟨_, rfl, hF.symm, ht⟩) (fun q h => by cases h) d_C_count_68
  have hF := hF.trans (if_neg c_1_2)
  by_cases c_1_3 : p0 = 3
  · have hF := hF.trans (if_pos c_1_3)
    refine lv_tableIn (tgt := 69) hx hb d_C_count_1 (by rw [c_1_3]; decide) (by rw [c_1_3]; decide) (by rw [c_1_3]; rfl) (by decide) ?_
    refine lv_aload_n hx hb d_C_count_69 rfl (lv_at hl 0 rfl) ?_
    refine va_get (D := D) (ci := 2) (v := .ref g.2.2.2.2.1.1.1) (C := R_C) (T := T_C) (N := 10) hx hb htb i_C hown hK hP 0 rfl rfl 3 (by decide) (htb _ k_C_31) (fun _ h9 => h9) rfl d_C_count_70 ?_
    refine cpi (As := []) (rest := []) ⟨hx, hb, hml, hown, htb⟩ (c_B_total l D cI cZ g.2.2.2.2.1 hg.2.2.1 x.2.2.1) (cwv (n := 0) htb cd_B_total k_C_153 in_B_total se_B_total ini_B hd_B_total ⟨Nat.le_of_ble_eq_true rfl, Nat.le_of_ble_eq_true rfl⟩) hK hP [7, 8, 9, 10, 11, 12] rfl (ci := 0) rfl rfl rfl hl.1 rfl (Nat.le_of_ble_eq_true rfl) d_C_count_73 ⟨Nat.zero_le _, Nat.zero_le _⟩ (fun r_73 hw_73 => ?_)
    have hF := hF.trans (bnd_eq hw_73)
    exact W.iret (v := r_73) hx hb hr (fun t ht hW => ⟨_, rfl, hF.symm, ht⟩) (fun q h => by cases h) d_C_count_76
  have hF := hF.trans (if_neg c_1_3)
  by_cases c_1_4 : p0 = 4
  · have hF := hF.trans (if_pos c_1_4)
    refine lv_tableIn (tgt := 77) hx hb d_C_count_1 (by rw [c_1_4]; decide) (by rw [c_1_4]; decide) (by rw [c_1_4]; rfl) (by decide) ?_
    refine lv_aload_n hx hb d_C_count_77 rfl (lv_at hl 0 rfl) ?_
    refine va_get (D := D) (ci := 2) (v := .int g.2.1.1) (C := R_C) (T := T_C) (N := 10) hx hb htb i_C hown hK hP 0 rfl rfl 0 (by decide) (htb _ k_C_15) (fun _ h9 => h9) rfl d_C_count_78 ?_
    exact W.iret (v := g.2.1.1) hx hb hr (fun t ht hW => ⟨_, rfl, hF.symm, ht⟩) (fun q h => by cases h) d_C_count_81
  have hF := hF.trans (if_neg c_1_4)
  by_cases c_1_5 : p0 = 5
  · have hF := hF.trans (if_pos c_1_5)
    refine lv_tableIn (tgt := 82) hx hb d_C_count_1 (by rw [c_1_5]; decide) (by rw [c_1_5]; decide) (by rw [c_1_5]; rfl) (by decide) ?_
    refine lv_aload_n hx hb d_C_count_82 rfl (lv_at hl 0 rfl) ?_
    refine va_get (D := D) (ci := 2) (v := .int g.2.1.2) (C := R_C) (T := T_C) (N := 10) hx hb htb i_C hown hK hP 0 rfl rfl 1 (by decide) (htb _ k_C_19) (fun _ h9 => h9) rfl d_C_count_83 ?_
    exact W.iret (v := g.2.1.2) hx hb hr (fun t ht hW => ⟨_, rfl, hF.symm, ht⟩) (fun q h => by cases h) d_C_count_86
  have hF := hF.trans (if_neg c_1_5)
  by_cases c_1_6 : p0 = 6
  · have hF := hF.trans (if_pos c_1_6)
    refine lv_tableIn (tgt := 87) hx hb d_C_count_1 (by rw [c_1_6]; decide) (by rw [c_1_6]; decide) (by rw [c_1_6]; rfl) (by decide) ?_
    refine lv_aload_n hx hb d_C_count_87 rfl (lv_at hl 0 rfl) ?_
    refine va_get (D := D) (ci := 2) (v := .ref g.2.2.2.1.1.1) (C := R_C) (T := T_C) (N := 10) hx hb htb i_C hown hK hP 0 rfl rfl 2 (by decide) (htb _ k_C_27) (fun _ h9 => h9) rfl d_C_count_88 ?_
    refine va_get (D := D) (ci := 0) (v := .int g.2.2.2.1.2.1.1) (C := R_B) (T := T_B) (N := 7) hx hb htb i_B hown hK hP 1 rfl rfl 0 (by decide) (htb _ k_C_129) (fun _ h9 => h9) rfl d_C_count_91 ?_
    exact W.iret (v := g.2.2.2.1.2.1.1) hx hb hr (fun t ht hW => ⟨_, rfl, hF.symm, ht⟩) (fun q h => by cases h) d_C_count_94
  have hF := hF.trans (if_neg c_1_6)
  by_cases c_1_7 : p0 = 7
  · have hF := hF.trans (if_pos c_1_7)
    refine lv_tableIn (tgt := 95) hx hb d_C_count_1 (by rw [c_1_7]; decide) (by rw [c_1_7]; decide) (by rw [c_1_7]; rfl) (by decide) ?_
    refine lv_aload_n hx hb d_C_count_95 rfl (lv_at hl 0 rfl) ?_
    refine va_get (D := D) (ci := 2) (v := .ref g.2.2.2.2.1.1.1) (C := R_C) (T := T_C) (N := 10) hx hb htb i_C hown hK hP 0 rfl rfl 3 (by decide) (htb _ k_C_31) (fun _ h9 => h9) rfl d_C_count_96 ?_
    refine va_get (D := D) (ci := 0) (v := .int g.2.2.2.2.1.2.1.1) (C := R_B) (T := T_B) (N := 7) hx hb htb i_B hown hK hP 7 rfl rfl 0 (by decide) (htb _ k_C_129) (fun _ h9 => h9) rfl d_C_count_99 ?_
    exact W.iret (v := g.2.2.2.2.1.2.1.1) hx hb hr (fun t ht hW => ⟨_, rfl, hF.symm, ht⟩) (fun q h => by cases h) d_C_count_102
  have hF := hF.trans (if_neg c_1_7)
  refine lv_tableOut (tgt := 103) hx hb d_C_count_1 (tab_out c_1_0 c_1_1 c_1_2 c_1_3 c_1_4 c_1_5 c_1_6 c_1_7) (by decide) ?_
  refine lv_iconst (v := -1) hx hb d_C_count_103 (by decide) ?_
  exact W.iret (v := (-1 : Int32)) hx hb hr (fun t ht hW => ⟨_, rfl, hF.symm, ht⟩) (fun q h => by cases h) d_C_count_104
