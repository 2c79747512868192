def M_B_slots (g : GB) (x : Bk) : Int32 := (nI g.2.2.2)
theorem M_B_slots_eq (g : GB) (x : Bk) : M_B_slots g x = (nI g.2.2.2) := rfl
abbrev w_B_slots : List Cond := .code y_B_slots b_B_slots 1 (some .int) :: tbW
abbrev rm_B_slots : Room := { frames := 0, cells := 0, slots := 0, locals := 0 }
set_option maxHeartbeats 4000000 in
set_option maxRecDepth 100000 in
theorem c_B_slots (l : Launch) (D : va_G) (cI cZ : ClassId) (g : GB) (hg : okB g) (x : Bk) : Met l y_B_slots w_B_slots rm_B_slots (PcR D vwCl (tyK cI cZ) [.ref g.1.1] (wB cI cZ g x)) (vp_Si (fun r => r = M_B_slots g x)) 0 0 (fun _ => False) := by
  refine Met.ofW (cc := b_B_slots) (maxL := 1) (ret := (some .int)) (by decide) rfl ?_
  intro p e s m args below meth c s₁ B hml hv
  obtain ⟨rfl, hP, hK⟩ := hv
  have hx := B.exec
  have hb := B.bytes
  have hr := B.returns
  have htb : ∀ w ∈ tbW, w.before _ s = true := fun w h => atoms_spec (ws := w_B_slots) B.pre w (List.mem_cons_of_mem _ h)
  have hown : s.vm.findClass R_B = some m.cls := findClass_of_methodNamed B.named
  have hlocks := B.notSynchronized
  have hl := lv_entry ([.ref g.1.1]) (n := 1) (Nat.le_of_ble_eq_true rfl)
  rw [lg_entry_eq]
  generalize (lg_sl ([.ref g.1.1]) ++ List.replicate (1 - (lg_sl ([.ref g.1.1])).length) Slot.unset).toArray = ls at hl ⊢
  have hl : lv_has ls 1 [(0, .ref g.1.1)] := hl
  have hF := M_B_slots_eq g x
  refine lv_aload_n hx hb d_B_slots_0 rfl (lv_at hl 0 rfl) ?_
  refine va_get (D := D) (ci := 0) (v := .ref g.1.2.2.1) (C := R_B) (T := T_B) (N := 7) hx hb htb i_B hown hK hP 0 rfl rfl 3 (by decide) (htb _ k_B_28) (fun _ h9 => h9) rfl d_B_slots_1 ?_
  refine va_alen hx hb hK hP 2 0 rfl rfl (v := nI g.2.2.2) rfl d_B_slots_4 ?_
  exact W.iret (v := (nI g.2.2.2)) hx hb hr (fun t ht hW => ⟨_, rfl, hF.symm, ht⟩) (fun q h => by cases h) d_B_slots_5

def M_B_placeOf (g : GB) (x : Bk) (p0 p1 : Int32) : Int32 := (bnd (M_Math_floorMod p1 g.2.1.1) (fun r_11 => ((p0 * g.2.1.1) + r_11)))
theorem M_B_placeOf_eq (g : GB) (x : Bk) (p0 p1 : Int32) : M_B_placeOf g x p0 p1 = (bnd (M_Math_floorMod p1 g.2.1.1) (fun r_11 => ((p0 * g.2.1.1) + r_11))) := rfl
abbrev w_B_placeOf : List Cond := .code y_B_placeOf b_B_placeOf 3 (some .int) :: tbW
abbrev rm_B_placeOf : Room := { frames := 1, cells := 0, slots := 0, locals := 22 }
set_option maxHeartbeats 4000000 in
set_option maxRecDepth 100000 in
theorem c_B_placeOf (l : Launch) (D : va_G) (cI cZ : ClassId) (g : GB) (hg : okB g) (x : Bk) (p0 p1 : Int32) : Met l y_B_placeOf w_B_placeOf rm_B_placeOf (PcR D vwCl (tyK cI cZ) [.ref g.1.1, .int p0, .int p1] (wB cI cZ g x)) (vp_Si (fun r => r = M_B_placeOf g x p0 p1)) 0 0 (fun _ => False) := by
  refine Met.ofW (cc := b_B_placeOf) (maxL := 3) (ret := (some .int)) (by decide) rfl ?_
  intro p e s m args below meth c s₁ B hml hv
  obtain ⟨rfl, hP, hK⟩ := hv
  have hx := B.exec
  have hb := B.bytes
  have hr := B.returns
  have htb : ∀ w ∈ tbW, w.before _ s = true := fun w h => atoms_spec (ws := w_B_placeOf) B.pre w (List.mem_cons_of_mem _ h)
  have hown : s.vm.findClass R_B = some m.cls := findClass_of_methodNamed B.named
  have hlocks := B.notSynchronized
  have hl := lv_entry ([.ref g.1.1, .int p0, .int p1]) (n := 3) (Nat.le_of_ble_eq_true rfl)
  rw [lg_entry_eq]
  generalize (lg_sl ([.ref g.1.1, .int p0, .int p1]) ++ List.replicate (3 - (lg_sl ([.ref g.1.1, .int p0, .int p1])).length) Slot.unset).toArray = ls at hl ⊢
  have hl : lv_has ls 3 [(0, .ref g.1.1), (1, .int p0), (2, .int p1)] := hl
  have hF := M_B_placeOf_eq g x p0 p1
  refine lv_iload_n hx hb d_B_placeOf_0 rfl (lv_at hl 1 rfl) ?_
  refine lv_aload_n hx hb d_B_placeOf_1 rfl (lv_at hl 0 rfl) ?_
  refine va_get (D := D) (ci := 0) (v := .int g.2.1.1) (C := R_B) (T := T_B) (N := 7) hx hb htb i_B hown hK hP 0 rfl rfl 0 (by decide) (htb _ k_B_15) (fun _ h9 => h9) rfl d_B_placeOf_2 ?_
  refine lv_imul hx hb d_B_placeOf_5 ?_
  refine lv_iload_n hx hb d_B_placeOf_6 rfl (lv_at hl 2 rfl) ?_
  refine lv_aload_n hx hb d_B_placeOf_7 rfl (lv_at hl 0 rfl) ?_
  refine va_get (D := D) (ci := 0) (v := .int g.2.1.1) (C := R_B) (T := T_B) (N := 7) hx hb htb i_B hown hK hP 0 rfl rfl 0 (by decide) (htb _ k_B_15) (fun _ h9 => h9) rfl d_B_placeOf_8 ?_
  refine cps (As := [.int p1, .int g.2.1.1]) (rest := [.int (p0 * g.2.1.1)]) ⟨hx, hb, hml, hown, htb⟩ (c_Math_floorMod l p1 g.2.1.1 hg.2.2.1) (cws (n := 2) htb cd_Math_floorMod k_B_41 st_Math_floorMod ini_Math hd_Math_floorMod ⟨Nat.le_of_ble_eq_true rfl, Nat.le_of_ble_eq_true rfl⟩) rfl hl.1 rfl (Nat.le_of_ble_eq_true rfl) d_B_placeOf_11 ⟨Nat.zero_le _, Nat.zero_le _⟩ (fun r_11 hw_11 => ?_)
  have hF := hF.trans (bnd_eq hw_11)
  refine lv_iadd hx hb d_B_placeOf_14 ?_
  exact W.iret (v := ((p0 * g.2.1.1) + r_11)) hx hb hr (fun t ht hW => ⟨_, rfl, hF.symm, ht⟩) (fun q h => by cases h) d_B_placeOf_15

def M_B_size (g : GB) (x : Bk) (p0 : Int32) : Int32 := (if p0 < 0 then (0 : Int32) else (if (nI g.2.2.1) ≤ p0 then (0 : Int32) else (x.1 p0.toNatClampNeg)))
theorem M_B_size_eq (g : GB) (x : Bk) (p0 : Int32) : M_B_size g x p0 = (if p0 < 0 then (0 : Int32) else (if (nI g.2.2.1) ≤ p0 then (0 : Int32) else (x.1 p0.toNatClampNeg))) := rfl
abbrev w_B_size : List Cond := .code y_B_size b_B_size 2 (some .int) :: tbW
abbrev rm_B_size : Room := { frames := 0, cells := 0, slots := 0, locals := 0 }
set_option maxHeartbeats 4000000 in
set_option maxRecDepth 100000 in
theorem c_B_size (l : Launch) (D : va_G) (cI cZ : ClassId) (g : GB) (hg : okB g) (x : Bk) (p0 : Int32) : Met l y_B_size w_B_size rm_B_size (PcR D vwCl (tyK cI cZ) [.ref g.1.1, .int p0] (wB cI cZ g x)) (vp_Si (fun r => r = M_B_size g x p0)) 0 0 (fun _ => False) := by
  refine Met.ofW (cc := b_B_size) (maxL := 2) (ret := (some .int)) (by decide) rfl ?_
  intro p e s m args below meth c s₁ B hml hv
  obtain ⟨rfl, hP, hK⟩ := hv
  have hx := B.exec
  have hb := B.bytes
  have hr := B.returns
  have htb : ∀ w ∈ tbW, w.before _ s = true := fun w h => atoms_spec (ws := w_B_size) B.pre w (List.mem_cons_of_mem _ h)
  have hown : s.vm.findClass R_B = some m.cls := findClass_of_methodNamed B.named
  have hlocks := B.notSynchronized
  have hl := lv_entry ([.ref g.1.1, .int p0]) (n := 2) (Nat.le_of_ble_eq_true rfl)
  rw [lg_entry_eq]
  generalize (lg_sl ([.ref g.1.1, .int p0]) ++ List.replicate (2 - (lg_sl ([.ref g.1.1, .int p0])).length) Slot.unset).toArray = ls at hl ⊢
  have hl : lv_has ls 2 [(0, .ref g.1.1), (1, .int p0)] := hl
  have hF := M_B_size_eq g x p0
  refine lv_iload_n hx hb d_B_size_0 rfl (lv_at hl 1 rfl) ?_
  refine lv_if_lt (tgt := 22) hx hb d_B_size_1 (by decide) (fun c_1 => ?_) (fun c_1 => ?_)
  · have hF := hF.trans (if_pos c_1)
    refine lv_iconst (v := 0) hx hb d_B_size_22 (by decide) ?_
    exact W.iret (v := (0 : Int32)) hx hb hr (fun t ht hW => ⟨_, rfl, hF.symm, ht⟩) (fun q h => by cases h) d_B_size_23
  · have hF := hF.trans (if_neg c_1)
    refine lv_iload_n hx hb d_B_size_4 rfl (lv_at hl 1 rfl) ?_
    refine lv_aload_n hx hb d_B_size_5 rfl (lv_at hl 0 rfl) ?_
    refine va_get (D := D) (ci := 0) (v := .ref g.1.2.1) (C := R_B) (T := T_B) (N := 7) hx hb htb i_B hown hK hP 0 rfl rfl 2 (by decide) (htb _ k_B_24) (fun _ h9 => h9) rfl d_B_size_6 ?_
    refine va_alen hx hb hK hP 1 0 rfl rfl (v := nI g.2.2.1) rfl d_B_size_9 ?_
    refine lv_icmp_ge (tgt := 22) hx hb d_B_size_10 (by decide) (fun c_10 => ?_) (fun c_10 => ?_)
    · have hF := hF.trans (if_pos c_10)
      refine lv_iconst (v := 0) hx hb d_B_size_22 (by decide) ?_
      exact W.iret (v := (0 : Int32)) hx hb hr (fun t ht hW => ⟨_, rfl, hF.symm, ht⟩) (fun q h => by cases h) d_B_size_23
    · have hF := hF.trans (if_neg c_10)
      refine lv_aload_n hx hb d_B_size_13 rfl (lv_at hl 0 rfl) ?_
      refine va_get (D := D) (ci := 0) (v := .ref g.1.2.1) (C := R_B) (T := T_B) (N := 7) hx hb htb i_B hown hK hP 0 rfl rfl 2 (by decide) (htb _ k_B_24) (fun _ h9 => h9) rfl d_B_size_14 ?_
      refine lv_iload_n hx hb d_B_size_17 rfl (lv_at hl 1 rfl) ?_
      refine va_iald hx hb hK hP 1 0 rfl rfl (in_ok hg.1 c_1 c_10) d_B_size_18 ?_
      refine lv_goto (tgt := 23) hx hb d_B_size_19 (by decide) ?_
      exact W.iret (v := (x.1 p0.toNatClampNeg)) hx hb hr (fun t ht hW => ⟨_, rfl, hF.symm, ht⟩) (fun q h => by cases h) d_B_size_23

def M_B_isFull (g : GB) (x : Bk) (p0 : Int32) : Int32 := (bnd (M_B_size g x p0) (fun r_2 => (if r_2 < g.2.1.2 then (0 : Int32) else (1 : Int32))))
theorem M_B_isFull_eq (g : GB) (x : Bk) (p0 : Int32) : M_B_isFull g x p0 = (bnd (M_B_size g x p0) (fun r_2 => (if r_2 < g.2.1.2 then (0 : Int32) else (1 : Int32)))) := rfl
abbrev w_B_isFull : List Cond := .code y_B_isFull b_B_isFull 2 (some .boolean) :: tbW
abbrev rm_B_isFull : Room := { frames := 1, cells := 0, slots := 0, locals := 21 }
set_option maxHeartbeats 4000000 in
set_option maxRecDepth 100000 in
theorem c_B_isFull (l : Launch) (D : va_G) (cI cZ : ClassId) (g : GB) (hg : okB g) (x : Bk) (p0 : Int32) : Met l y_B_isFull w_B_isFull rm_B_isFull (PcR D vwCl (tyK cI cZ) [.ref g.1.1, .int p0] (wB cI cZ g x)) (vp_Si (fun r => r = M_B_isFull g x p0)) 0 0 (fun _ => False) := by
  refine Met.ofW (cc := b_B_isFull) (maxL := 2) (ret := (some .boolean)) (by decide) rfl ?_
  intro p e s m args below meth c s₁ B hml hv
  obtain ⟨rfl, hP, hK⟩ := hv
  have hx := B.exec
  have hb := B.bytes
  have hr := B.returns
  have htb : ∀ w ∈ tbW, w.before _ s = true := fun w h => atoms_spec (ws := w_B_isFull) B.pre w (List.mem_cons_of_mem _ h)
  have hown : s.vm.findClass R_B = some m.cls := findClass_of_methodNamed B.named
  have hlocks := B.notSynchronized
  have hl := lv_entry ([.ref g.1.1, .int p0]) (n := 2) (Nat.le_of_ble_eq_true rfl)
  rw [lg_entry_eq]
  generalize (lg_sl ([.ref g.1.1, .int p0]) ++ List.replicate (2 - (lg_sl ([.ref g.1.1, .int p0])).length) Slot.unset).toArray = ls at hl ⊢
  have hl : lv_has ls 2 [(0, .ref g.1.1), (1, .int p0)] := hl
  have hF := M_B_isFull_eq g x p0
  refine lv_aload_n hx hb d_B_isFull_0 rfl (lv_at hl 0 rfl) ?_
  refine lv_iload_n hx hb d_B_isFull_1 rfl (lv_at hl 1 rfl) ?_
  refine cpi (As := [.int p0]) (rest := []) ⟨hx, hb, hml, hown, htb⟩ (c_B_size l D cI cZ g hg x p0) (cwv (n := 1) htb cd_B_size k_B_44 in_B_size se_B_size ini_B hd_B_size ⟨Nat.le_of_ble_eq_true rfl, Nat.le_of_ble_eq_true rfl⟩) hK hP [0, 1, 2, 3, 4, 5] rfl (ci := 0) rfl rfl rfl hl.1 rfl (Nat.le_of_ble_eq_true rfl) d_B_isFull_2 ⟨Nat.zero_le _, Nat.zero_le _⟩ (fun r_2 hw_2 => ?_)
  have hF := hF.trans (bnd_eq hw_2)
  refine lv_aload_n hx hb d_B_isFull_5 rfl (lv_at hl 0 rfl) ?_
  refine va_get (D := D) (ci := 0) (v := .int g.2.1.2) (C := R_B) (T := T_B) (N := 7) hx hb htb i_B hown hK hP 0 rfl rfl 1 (by decide) (htb _ k_B_21) (fun _ h9 => h9) rfl d_B_isFull_6 ?_
  refine lv_icmp_lt (tgt := 16) hx hb d_B_isFull_9 (by decide) (fun c_9 => ?_) (fun c_9 => ?_)
  · have hF := hF.trans (if_pos c_9)
    refine lv_iconst (v := 0) hx hb d_B_isFull_16 (by decide) ?_
    exact W.zret (v := (0 : Int32)) (ty := .boolean) hx hb hr rfl (fun t ht hW => ⟨_, rfl, hF.symm, ht⟩) (fun q h => by cases h) d_B_isFull_17
  · have hF := hF.trans (if_neg c_9)
    refine lv_iconst (v := 1) hx hb d_B_isFull_12 (by decide) ?_
    refine lv_goto (tgt := 17) hx hb d_B_isFull_13 (by decide) ?_
    exact W.zret (v := (1 : Int32)) (ty := .boolean) hx hb hr rfl (fun t ht hW => ⟨_, rfl, hF.symm, ht⟩) (fun q h => by cases h) d_B_isFull_17

def L_B_total_4 (g : GB) (x : Bk) : Nat → Int32 → Int32 → Int32
  | 0, _, _ => 0
  | n + 1, v1, v2 => (if (nI g.2.2.1) ≤ v2 then v1 else L_B_total_4 g x n (v1 + (x.1 v2.toNatClampNeg)) (v2 + 1))
theorem L_B_total_4_eq (g : GB) (x : Bk) (n : Nat) (v1 v2 : Int32) : L_B_total_4 g x (n + 1) v1 v2 = (if (nI g.2.2.1) ≤ v2 then v1 else L_B_total_4 g x n (v1 + (x.1 v2.toNatClampNeg)) (v2 + 1)) := by first | rfl | rw [L_B_total_4]
def M_B_total (g : GB) (x : Bk) : Int32 := L_B_total_4 g x (mu (0 : Int32) (nI g.2.2.1) + 1) (0 : Int32) (0 : Int32)
theorem M_B_total_eq (g : GB) (x : Bk) : M_B_total g x = L_B_total_4 g x (mu (0 : Int32) (nI g.2.2.1) + 1) (0 : Int32) (0 : Int32) := rfl
abbrev w_B_total : List Cond := .code y_B_total b_B_total 3 (some .int) :: tbW
abbrev rm_B_total : Room := { frames := 0, cells := 0, slots := 0, locals := 0 }
set_option maxHeartbeats 4000000 in
set_option maxRecDepth 100000 in
theorem c_B_total (l : Launch) (D : va_G) (cI cZ : ClassId) (g : GB) (hg : okB g) (x : Bk) : Met l y_B_total w_B_total rm_B_total (PcR D vwCl (tyK cI cZ) [.ref g.1.1] (wB cI cZ g x)) (vp_Si (fun r => r = M_B_total g x)) 0 0 (fun _ => False) := by
  refine Met.ofW (cc := b_B_total) (maxL := 3) (ret := (some .int)) (by decide) rfl ?_
  intro p e s m args below meth c s₁ B hml hv
  obtain ⟨rfl, hP, hK⟩ := hv
  have hx := B.exec
  have hb := B.bytes
  have hr := B.returns
  have htb : ∀ w ∈ tbW, w.before _ s = true := fun w h => atoms_spec (ws := w_B_total) B.pre w (List.mem_cons_of_mem _ h)
  have hown : s.vm.findClass R_B = some m.cls := findClass_of_methodNamed B.named
  have hlocks := B.notSynchronized
  have cut_4 : ∀ (n : Nat) (v1 v2 : Int32) (ls : Array Slot), mu v2 (nI g.2.2.1) < n → ¬ v2 < 0 → M_B_total g x = L_B_total_4 g x n v1 v2 → lv_has ls 3 [(0, .ref g.1.1), (1, .int v1), (2, .int v2)] → W p l e (headSpec w_B_total rm_B_total).room s m ([.ref g.1.1] : List Value).toArray below meth c s.heap [] 0 0 (MQ below (vp_Si (fun r => r = M_B_total g x)) ([.ref g.1.1] : List Value).toArray s 0 0 (fun _ => False)) (F0 m 4 ls []) := by
    intro n
    induction n with
    | zero => intro v1 v2 ls hm _ _ _; exact absurd hm (Nat.not_lt_zero _)
    | succ n ih =>
      intro v1 v2 ls hm h0 hF hl
      have hF := hF.trans (L_B_total_4_eq g x n v1 v2)
      refine lv_iload_n hx hb d_B_total_4 rfl (lv_at hl 2 rfl) ?_
      refine lv_aload_n hx hb d_B_total_5 rfl (lv_at hl 0 rfl) ?_
      refine va_get (D := D) (ci := 0) (v := .ref g.1.2.1) (C := R_B) (T := T_B) (N := 7) hx hb htb i_B hown hK hP 0 rfl rfl 2 (by decide) (htb _ k_B_24) (fun _ h9 => h9) rfl d_B_total_6 ?_
      refine va_alen hx hb hK hP 1 0 rfl rfl (v := nI g.2.2.1) rfl d_B_total_9 ?_
      refine lv_icmp_ge (tgt := 28) hx hb d_B_total_10 (by decide) (fun c_10 => ?_) (fun c_10 => ?_)
      · have hF := hF.trans (if_pos c_10)
        refine lv_iload_n hx hb d_B_total_28 rfl (lv_at hl 1 rfl) ?_
        exact W.iret (v := v1) hx hb hr (fun t ht hW => ⟨_, rfl, hF.symm, ht⟩) (fun q h => by cases h) d_B_total_29
      · have hF := hF.trans (if_neg c_10)
        refine lv_iload_n hx hb d_B_total_13 rfl (lv_at hl 1 rfl) ?_
        refine lv_aload_n hx hb d_B_total_14 rfl (lv_at hl 0 rfl) ?_
        refine va_get (D := D) (ci := 0) (v := .ref g.1.2.1) (C := R_B) (T := T_B) (N := 7) hx hb htb i_B hown hK hP 0 rfl rfl 2 (by decide) (htb _ k_B_24) (fun _ h9 => h9) rfl d_B_total_15 ?_
        refine lv_iload_n hx hb d_B_total_18 rfl (lv_at hl 2 rfl) ?_
        refine va_iald hx hb hK hP 1 0 rfl rfl (in_ok hg.1 h0 c_10) d_B_total_19 ?_
        refine lv_iadd hx hb d_B_total_20 ?_
        refine lv_istore_n (lv' := [(1, .int (v1 + (x.1 v2.toNatClampNeg))), (0, .ref g.1.1), (2, .int v2)]) hx hb d_B_total_21 rfl hl (by decide) rfl (fun ls hl => ?_)
        refine lv_iinc (v := (v2 + 1)) (lv' := [(2, .int (v2 + 1)), (1, .int (v1 + (x.1 v2.toNatClampNeg))), (0, .ref g.1.1)]) hx hb d_B_total_22 hl (k := 2) rfl rfl (by decide) rfl (fun ls hl => ?_)
        refine lv_goto (tgt := 4) hx hb d_B_total_25 (by decide) ?_
        have hl := lv_sub (l' := [(0, .ref g.1.1), (1, .int (v1 + (x.1 v2.toNatClampNeg))), (2, .int (v2 + 1))]) hl [2, 1, 0] rfl
        exact ih (v1 + (x.1 v2.toNatClampNeg)) (v2 + 1) _ (Nat.lt_of_lt_of_le (mu_dec c_10) (Nat.le_of_lt_succ hm)) (up_nn h0 c_10) hF hl
  have hl := lv_entry ([.ref g.1.1]) (n := 3) (Nat.le_of_ble_eq_true rfl)
  rw [lg_entry_eq]
  generalize (lg_sl ([.ref g.1.1]) ++ List.replicate (3 - (lg_sl ([.ref g.1.1])).length) Slot.unset).toArray = ls at hl ⊢
  have hl : lv_has ls 3 [(0, .ref g.1.1)] := hl
  have hF := M_B_total_eq g x
  refine lv_iconst (v := 0) hx hb d_B_total_0 (by decide) ?_
  refine lv_istore_n (lv' := [(1, .int (0 : Int32)), (0, .ref g.1.1)]) hx hb d_B_total_1 rfl hl (by decide) rfl (fun ls hl => ?_)
  refine lv_iconst (v := 0) hx hb d_B_total_2 (by decide) ?_
  refine lv_istore_n (lv' := [(2, .int (0 : Int32)), (1, .int (0 : Int32)), (0, .ref g.1.1)]) hx hb d_B_total_3 rfl hl (by decide) rfl (fun ls hl => ?_)
  have hl := lv_sub (l' := [(0, .ref g.1.1), (1, .int (0 : Int32)), (2, .int (0 : Int32))]) hl [2, 1, 0] rfl
  exact cut_4 (mu (0 : Int32) (nI g.2.2.1) + 1) (0 : Int32) (0 : Int32) _ (Nat.lt_succ_self _) (by decide) hF hl

def M_B_isSlot (g : GB) (x : Bk) (p0 : Int32) : Int32 := (if p0 < 0 then (0 : Int32) else (if (nI g.2.2.2) ≤ p0 then (0 : Int32) else (1 : Int32)))
theorem M_B_isSlot_eq (g : GB) (x : Bk) (p0 : Int32) : M_B_isSlot g x p0 = (if p0 < 0 then (0 : Int32) else (if (nI g.2.2.2) ≤ p0 then (0 : Int32) else (1 : Int32))) := rfl
abbrev w_B_isSlot : List Cond := .code y_B_isSlot b_B_isSlot 2 (some .boolean) :: tbW
abbrev rm_B_isSlot : Room := { frames := 0, cells := 0, slots := 0, locals := 0 }
set_option maxHeartbeats 4000000 in
set_option maxRecDepth 100000 in
theorem c_B_isSlot (l : Launch) (D : va_G) (cI cZ : ClassId) (g : GB) (hg : okB g) (x : Bk) (p0 : Int32) : Met l y_B_isSlot w_B_isSlot rm_B_isSlot (PcR D vwCl (tyK cI cZ) [.ref g.1.1, .int p0] (wB cI cZ g x)) (vp_Si (fun r => r = M_B_isSlot g x p0)) 0 0 (fun _ => False) := by
  refine Met.ofW (cc := b_B_isSlot) (maxL := 2) (ret := (some .boolean)) (by decide) rfl ?_
  intro p e s m args below meth c s₁ B hml hv
  obtain ⟨rfl, hP, hK⟩ := hv
  have hx := B.exec
  have hb := B.bytes
  have hr := B.returns
  have htb : ∀ w ∈ tbW, w.before _ s = true := fun w h => atoms_spec (ws := w_B_isSlot) B.pre w (List.mem_cons_of_mem _ h)
  have hown : s.vm.findClass R_B = some m.cls := findClass_of_methodNamed B.named
  have hlocks := B.notSynchronized
  have hl := lv_entry ([.ref g.1.1, .int p0]) (n := 2) (Nat.le_of_ble_eq_true rfl)
  rw [lg_entry_eq]
  generalize (lg_sl ([.ref g.1.1, .int p0]) ++ List.replicate (2 - (lg_sl ([.ref g.1.1, .int p0])).length) Slot.unset).toArray = ls at hl ⊢
  have hl : lv_has ls 2 [(0, .ref g.1.1), (1, .int p0)] := hl
  have hF := M_B_isSlot_eq g x p0
  refine lv_iload_n hx hb d_B_isSlot_0 rfl (lv_at hl 1 rfl) ?_
  refine lv_if_lt (tgt := 17) hx hb d_B_isSlot_1 (by decide) (fun c_1 => ?_) (fun c_1 => ?_)
  · have hF := hF.trans (if_pos c_1)
    refine lv_iconst (v := 0) hx hb d_B_isSlot_17 (by decide) ?_
    exact W.zret (v := (0 : Int32)) (ty := .boolean) hx hb hr rfl (fun t ht hW => ⟨_, rfl, hF.symm, ht⟩) (fun q h => by cases h) d_B_isSlot_18
  · have hF := hF.trans (if_neg c_1)
    refine lv_iload_n hx hb d_B_isSlot_4 rfl (lv_at hl 1 rfl) ?_
    refine lv_aload_n hx hb d_B_isSlot_5 rfl (lv_at hl 0 rfl) ?_
    refine va_get (D := D) (ci := 0) (v := .ref g.1.2.2.1) (C := R_B) (T := T_B) (N := 7) hx hb htb i_B hown hK hP 0 rfl rfl 3 (by decide) (htb _ k_B_28) (fun _ h9 => h9) rfl d_B_isSlot_6 ?_
    refine va_alen hx hb hK hP 2 0 rfl rfl (v := nI g.2.2.2) rfl d_B_isSlot_9 ?_
    refine lv_icmp_ge (tgt := 17) hx hb d_B_isSlot_10 (by decide) (fun c_10 => ?_) (fun c_10 => ?_)
    · have hF := hF.trans (if_pos c_10)
      refine lv_iconst (v := 0) hx hb d_B_isSlot_17 (by decide) ?_
      exact W.zret (v := (0 : Int32)) (ty := .boolean) hx hb hr rfl (fun t ht hW => ⟨_, rfl, hF.symm, ht⟩) (fun q h => by cases h) d_B_isSlot_18
    · have hF := hF.trans (if_neg c_10)
      refine lv_iconst (v := 1) hx hb d_B_isSlot_13 (by decide) ?_
      refine lv_goto (tgt := 18) hx hb d_B_isSlot_14 (by decide) ?_
      exact W.zret (v := (1 : Int32)) (ty := .boolean) hx hb hr rfl (fun t ht hW => ⟨_, rfl, hF.symm, ht⟩) (fun q h => by cases h) d_B_isSlot_18
theorem isSlot_in {g : GB} {x : Bk} {q r : Int32} (hg : okB g) (hw : r = M_B_isSlot g x q) (h : ¬ r = 0) : vp_in q g.2.2.2 := by
  rw [hw, M_B_isSlot_eq] at h
  by_cases c1 : q < 0
  · rw [if_pos c1] at h
    exact absurd rfl h
  · rw [if_neg c1] at h
    by_cases c2 : nI g.2.2.2 ≤ q
    · rw [if_pos c2] at h
      exact absurd rfl h
    · exact in_ok hg.2.1 c1 c2

def M_B_lineAt (g : GB) (x : Bk) (p0 : Int32) : Int32 := (bnd (M_B_isSlot g x p0) (fun r_2 => (if r_2 = 0 then (0 : Int32) else (x.2.1 p0.toNatClampNeg))))
theorem M_B_lineAt_eq (g : GB) (x : Bk) (p0 : Int32) : M_B_lineAt g x p0 = (bnd (M_B_isSlot g x p0) (fun r_2 => (if r_2 = 0 then (0 : Int32) else (x.2.1 p0.toNatClampNeg)))) := rfl
abbrev w_B_lineAt : List Cond := .code y_B_lineAt b_B_lineAt 2 (some .int) :: tbW
abbrev rm_B_lineAt : Room := { frames := 1, cells := 0, slots := 0, locals := 21 }
set_option maxHeartbeats 4000000 in
set_option maxRecDepth 100000 in
theorem c_B_lineAt (l : Launch) (D : va_G) (cI cZ : ClassId) (g : GB) (hg : okB g) (x : Bk) (p0 : Int32) : Met l y_B_lineAt w_B_lineAt rm_B_lineAt (PcR D vwCl (tyK cI cZ) [.ref g.1.1, .int p0] (wB cI cZ g x)) (vp_Si (fun r => r = M_B_lineAt g x p0)) 0 0 (fun _ => False) := by
  refine Met.ofW (cc := b_B_lineAt) (maxL := 2) (ret := (some .int)) (by decide) rfl ?_
  intro p e s m args below meth c s₁ B hml hv
  obtain ⟨rfl, hP, hK⟩ := hv
  have hx := B.exec
  have hb := B.bytes
  have hr := B.returns
  have htb : ∀ w ∈ tbW, w.before _ s = true := fun w h => atoms_spec (ws := w_B_lineAt) B.pre w (List.mem_cons_of_mem _ h)
  have hown : s.vm.findClass R_B = some m.cls := findClass_of_methodNamed B.named
  have hlocks := B.notSynchronized
  have hl := lv_entry ([.ref g.1.1, .int p0]) (n := 2) (Nat.le_of_ble_eq_true rfl)
  rw [lg_entry_eq]
  generalize (lg_sl ([.ref g.1.1, .int p0]) ++ List.replicate (2 - (lg_sl ([.ref g.1.1, .int p0])).length) Slot.unset).toArray = ls at hl ⊢
  have hl : lv_has ls 2 [(0, .ref g.1.1), (1, .int p0)] := hl
  have hF := M_B_lineAt_eq g x p0
  refine lv_aload_n hx hb d_B_lineAt_0 rfl (lv_at hl 0 rfl) ?_
  refine lv_iload_n hx hb d_B_lineAt_1 rfl (lv_at hl 1 rfl) ?_
  refine cpi (As := [.int p0]) (rest := []) ⟨hx, hb, hml, hown, htb⟩ (c_B_isSlot l D cI cZ g hg x p0) (cwv (n := 1) htb cd_B_isSlot k_B_48 in_B_isSlot se_B_isSlot ini_B hd_B_isSlot ⟨Nat.le_of_ble_eq_true rfl, Nat.le_of_ble_eq_true rfl⟩) hK hP [0, 1, 2, 3, 4, 5] rfl (ci := 0) rfl rfl rfl hl.1 rfl (Nat.le_of_ble_eq_true rfl) d_B_lineAt_2 ⟨Nat.zero_le _, Nat.zero_le _⟩ (fun r_2 hw_2 => ?_)
  have hF := hF.trans (bnd_eq hw_2)
  refine lv_if_eq (tgt := 17) hx hb d_B_lineAt_5 (by decide) (fun c_5 => ?_) (fun c_5 => ?_)
  · have hF := hF.trans (if_pos c_5)
    refine lv_iconst (v := 0) hx hb d_B_lineAt_17 (by decide) ?_
    exact W.iret (v := (0 : Int32)) hx hb hr (fun t ht hW => ⟨_, rfl, hF.symm, ht⟩) (fun q h => by cases h) d_B_lineAt_18
  · have hF := hF.trans (if_neg c_5)
    refine lv_aload_n hx hb d_B_lineAt_8 rfl (lv_at hl 0 rfl) ?_
    refine va_get (D := D) (ci := 0) (v := .ref g.1.2.2.1) (C := R_B) (T := T_B) (N := 7) hx hb htb i_B hown hK hP 0 rfl rfl 3 (by decide) (htb _ k_B_28) (fun _ h9 => h9) rfl d_B_lineAt_9 ?_
    refine lv_iload_n hx hb d_B_lineAt_12 rfl (lv_at hl 1 rfl) ?_
    refine va_iald hx hb hK hP 2 0 rfl rfl (isSlot_in hg hw_2 c_5) d_B_lineAt_13 ?_
    refine lv_goto (tgt := 18) hx hb d_B_lineAt_14 (by decide) ?_
    exact W.iret (v := (x.2.1 p0.toNatClampNeg)) hx hb hr (fun t ht hW => ⟨_, rfl, hF.symm, ht⟩) (fun q h => by cases h) d_B_lineAt_18

def M_B_versionAt (g : GB) (x : Bk) (p0 : Int32) : Int32 := (bnd (M_B_isSlot g x p0) (fun r_2 => (if r_2 = 0 then (0 : Int32) else (x.2.2.1 p0.toNatClampNeg))))
theorem M_B_versionAt_eq (g : GB) (x : Bk) (p0 : Int32) : M_B_versionAt g x p0 = (bnd (M_B_isSlot g x p0) (fun r_2 => (if r_2 = 0 then (0 : Int32) else (x.2.2.1 p0.toNatClampNeg)))) := rfl
abbrev w_B_versionAt : List Cond := .code y_B_versionAt b_B_versionAt 2 (some .int) :: tbW
abbrev rm_B_versionAt : Room := { frames := 1, cells := 0, slots := 0, locals := 21 }
set_option maxHeartbeats 4000000 in
set_option maxRecDepth 100000 in
theorem c_B_versionAt (l : Launch) (D : va_G) (cI cZ : ClassId) (g : GB) (hg : okB g) (x : Bk) (p0 : Int32) : Met l y_B_versionAt w_B_versionAt rm_B_versionAt (PcR D vwCl (tyK cI cZ) [.ref g.1.1, .int p0] (wB cI cZ g x)) (vp_Si (fun r => r = M_B_versionAt g x p0)) 0 0 (fun _ => False) := by
  refine Met.ofW (cc := b_B_versionAt) (maxL := 2) (ret := (some .int)) (by decide) rfl ?_
  intro p e s m args below meth c s₁ B hml hv
  obtain ⟨rfl, hP, hK⟩ := hv
  have hx := B.exec
  have hb := B.bytes
  have hr := B.returns
  have htb : ∀ w ∈ tbW, w.before _ s = true := fun w h => atoms_spec (ws := w_B_versionAt) B.pre w (List.mem_cons_of_mem _ h)
  have hown : s.vm.findClass R_B = some m.cls := findClass_of_methodNamed B.named
  have hlocks := B.notSynchronized
  have hl := lv_entry ([.ref g.1.1, .int p0]) (n := 2) (Nat.le_of_ble_eq_true rfl)
  rw [lg_entry_eq]
  generalize (lg_sl ([.ref g.1.1, .int p0]) ++ List.replicate (2 - (lg_sl ([.ref g.1.1, .int p0])).length) Slot.unset).toArray = ls at hl ⊢
  have hl : lv_has ls 2 [(0, .ref g.1.1), (1, .int p0)] := hl
  have hF := M_B_versionAt_eq g x p0
  refine lv_aload_n hx hb d_B_versionAt_0 rfl (lv_at hl 0 rfl) ?_
  refine lv_iload_n hx hb d_B_versionAt_1 rfl (lv_at hl 1 rfl) ?_
  refine cpi (As := [.int p0]) (rest := []) ⟨hx, hb, hml, hown, htb⟩ (c_B_isSlot l D cI cZ g hg x p0) (cwv (n := 1) htb cd_B_isSlot k_B_48 in_B_isSlot se_B_isSlot ini_B hd_B_isSlot ⟨Nat.le_of_ble_eq_true rfl, Nat.le_of_ble_eq_true rfl⟩) hK hP [0, 1, 2, 3, 4, 5] rfl (ci := 0) rfl rfl rfl hl.1 rfl (Nat.le_of_ble_eq_true rfl) d_B_versionAt_2 ⟨Nat.zero_le _, Nat.zero_le _⟩ (fun r_2 hw_2 => ?_)
  have hF := hF.trans (bnd_eq hw_2)
  refine lv_if_eq (tgt := 17) hx hb d_B_versionAt_5 (by decide) (fun c_5 => ?_) (fun c_5 => ?_)
  · have hF := hF.trans (if_pos c_5)
    refine lv_iconst (v := 0) hx hb d_B_versionAt_17 (by decide) ?_
    exact W.iret (v := (0 : Int32)) hx hb hr (fun t ht hW => ⟨_, rfl, hF.symm, ht⟩) (fun q h => by cases h) d_B_versionAt_18
  · have hF := hF.trans (if_neg c_5)
    refine lv_aload_n hx hb d_B_versionAt_8 rfl (lv_at hl 0 rfl) ?_
    refine va_get (D := D) (ci := 0) (v := .ref g.1.2.2.2.1) (C := R_B) (T := T_B) (N := 7) hx hb htb i_B hown hK hP 0 rfl rfl 4 (by decide) (htb _ k_B_31) (fun _ h9 => h9) rfl d_B_versionAt_9 ?_
    refine lv_iload_n hx hb d_B_versionAt_12 rfl (lv_at hl 1 rfl) ?_
    refine va_iald hx hb hK hP 3 0 rfl rfl (isSlot_in hg hw_2 c_5) d_B_versionAt_13 ?_
    refine lv_goto (tgt := 18) hx hb d_B_versionAt_14 (by decide) ?_
    exact W.iret (v := (x.2.2.1 p0.toNatClampNeg)) hx hb hr (fun t ht hW => ⟨_, rfl, hF.symm, ht⟩) (fun q h => by cases h) d_B_versionAt_18

def M_B_ownerAt (g : GB) (x : Bk) (p0 : Int32) : Int32 := (bnd (M_B_isSlot g x p0) (fun r_2 => (if r_2 = 0 then (-1 : Int32) else (x.2.2.2.1 p0.toNatClampNeg))))
theorem M_B_ownerAt_eq (g : GB) (x : Bk) (p0 : Int32) : M_B_ownerAt g x p0 = (bnd (M_B_isSlot g x p0) (fun r_2 => (if r_2 = 0 then (-1 : Int32) else (x.2.2.2.1 p0.toNatClampNeg)))) := rfl
abbrev w_B_ownerAt : List Cond := .code y_B_ownerAt b_B_ownerAt 2 (some .int) :: tbW
abbrev rm_B_ownerAt : Room := { frames := 1, cells := 0, slots := 0, locals := 21 }
set_option maxHeartbeats 4000000 in
set_option maxRecDepth 100000 in
theorem c_B_ownerAt (l : Launch) (D : va_G) (cI cZ : ClassId) (g : GB) (hg : okB g) (x : Bk) (p0 : Int32) : Met l y_B_ownerAt w_B_ownerAt rm_B_ownerAt (PcR D vwCl (tyK cI cZ) [.ref g.1.1, .int p0] (wB cI cZ g x)) (vp_Si (fun r => r = M_B_ownerAt g x p0)) 0 0 (fun _ => False) := by
  refine Met.ofW (cc := b_B_ownerAt) (maxL := 2) (ret := (some .int)) (by decide) rfl ?_
  intro p e s m args below meth c s₁ B hml hv
  obtain ⟨rfl, hP, hK⟩ := hv
  have hx := B.exec
  have hb := B.bytes
  have hr := B.returns
  have htb : ∀ w ∈ tbW, w.before _ s = true := fun w h => atoms_spec (ws := w_B_ownerAt) B.pre w (List.mem_cons_of_mem _ h)
  have hown : s.vm.findClass R_B = some m.cls := findClass_of_methodNamed B.named
  have hlocks := B.notSynchronized
  have hl := lv_entry ([.ref g.1.1, .int p0]) (n := 2) (Nat.le_of_ble_eq_true rfl)
  rw [lg_entry_eq]
  generalize (lg_sl ([.ref g.1.1, .int p0]) ++ List.replicate (2 - (lg_sl ([.ref g.1.1, .int p0])).length) Slot.unset).toArray = ls at hl ⊢
  have hl : lv_has ls 2 [(0, .ref g.1.1), (1, .int p0)] := hl
  have hF := M_B_ownerAt_eq g x p0
  refine lv_aload_n hx hb d_B_ownerAt_0 rfl (lv_at hl 0 rfl) ?_
  refine lv_iload_n hx hb d_B_ownerAt_1 rfl (lv_at hl 1 rfl) ?_
  refine cpi (As := [.int p0]) (rest := []) ⟨hx, hb, hml, hown, htb⟩ (c_B_isSlot l D cI cZ g hg x p0) (cwv (n := 1) htb cd_B_isSlot k_B_48 in_B_isSlot se_B_isSlot ini_B hd_B_isSlot ⟨Nat.le_of_ble_eq_true rfl, Nat.le_of_ble_eq_true rfl⟩) hK hP [0, 1, 2, 3, 4, 5] rfl (ci := 0) rfl rfl rfl hl.1 rfl (Nat.le_of_ble_eq_true rfl) d_B_ownerAt_2 ⟨Nat.zero_le _, Nat.zero_le _⟩ (fun r_2 hw_2 => ?_)
  have hF := hF.trans (bnd_eq hw_2)
  refine lv_if_eq (tgt := 17) hx hb d_B_ownerAt_5 (by decide) (fun c_5 => ?_) (fun c_5 => ?_)
  · have hF := hF.trans (if_pos c_5)
    refine lv_iconst (v := -1) hx hb d_B_ownerAt_17 (by decide) ?_
    exact W.iret (v := (-1 : Int32)) hx hb hr (fun t ht hW => ⟨_, rfl, hF.symm, ht⟩) (fun q h => by cases h) d_B_ownerAt_18
  · have hF := hF.trans (if_neg c_5)
    refine lv_aload_n hx hb d_B_ownerAt_8 rfl (lv_at hl 0 rfl) ?_
    refine va_get (D := D) (ci := 0) (v := .ref g.1.2.2.2.2.1) (C := R_B) (T := T_B) (N := 7) hx hb htb i_B hown hK hP 0 rfl rfl 5 (by decide) (htb _ k_B_34) (fun _ h9 => h9) rfl d_B_ownerAt_9 ?_
    refine lv_iload_n hx hb d_B_ownerAt_12 rfl (lv_at hl 1 rfl) ?_
    refine va_iald hx hb hK hP 4 0 rfl rfl (isSlot_in hg hw_2 c_5) d_B_ownerAt_13 ?_
    refine lv_goto (tgt := 18) hx hb d_B_ownerAt_14 (by decide) ?_
    exact W.iret (v := (x.2.2.2.1 p0.toNatClampNeg)) hx hb hr (fun t ht hW => ⟨_, rfl, hF.symm, ht⟩) (fun q h => by cases h) d_B_ownerAt_18

def M_B_isWritten (g : GB) (x : Bk) (p0 : Int32) : Int32 := (bnd (M_B_isSlot g x p0) (fun r_2 => (if r_2 = 0 then (0 : Int32) else (if (x.2.2.2.2 p0.toNatClampNeg) = 0 then (0 : Int32) else (1 : Int32)))))
theorem M_B_isWritten_eq (g : GB) (x : Bk) (p0 : Int32) : M_B_isWritten g x p0 = (bnd (M_B_isSlot g x p0) (fun r_2 => (if r_2 = 0 then (0 : Int32) else (if (x.2.2.2.2 p0.toNatClampNeg) = 0 then (0 : Int32) else (1 : Int32))))) := rfl
abbrev w_B_isWritten : List Cond := .code y_B_isWritten b_B_isWritten 2 (some .boolean) :: tbW
abbrev rm_B_isWritten : Room := { frames := 1, cells := 0, slots := 0, locals := 21 }
set_option maxHeartbeats 4000000 in
set_option maxRecDepth 100000 in
theorem c_B_isWritten (l : Launch) (D : va_G) (cI cZ : ClassId) (g : GB) (hg : okB g) (x : Bk) (p0 : Int32) : Met l y_B_isWritten w_B_isWritten rm_B_isWritten (PcR D vwCl (tyK cI cZ) [.ref g.1.1, .int p0] (wB cI cZ g x)) (vp_Si (fun r => r = M_B_isWritten g x p0)) 0 0 (fun _ => False) := by
  refine Met.ofW (cc := b_B_isWritten) (maxL := 2) (ret := (some .boolean)) (by decide) rfl ?_
  intro p e s m args below meth c s₁ B hml hv
  obtain ⟨rfl, hP, hK⟩ := hv
  have hx := B.exec
  have hb := B.bytes
  have hr := B.returns
  have htb : ∀ w ∈ tbW, w.before _ s = true := fun w h => atoms_spec (ws := w_B_isWritten) B.pre w (List.mem_cons_of_mem _ h)
  have hown : s.vm.findClass R_B = some m.cls := findClass_of_methodNamed B.named
  have hlocks := B.notSynchronized
  have hl := lv_entry ([.ref g.1.1, .int p0]) (n := 2) (Nat.le_of_ble_eq_true rfl)
  rw [lg_entry_eq]
  generalize (lg_sl ([.ref g.1.1, .int p0]) ++ List.replicate (2 - (lg_sl ([.ref g.1.1, .int p0])).length) Slot.unset).toArray = ls at hl ⊢
  have hl : lv_has ls 2 [(0, .ref g.1.1), (1, .int p0)] := hl
  have hF := M_B_isWritten_eq g x p0
  refine lv_aload_n hx hb d_B_isWritten_0 rfl (lv_at hl 0 rfl) ?_
  refine lv_iload_n hx hb d_B_isWritten_1 rfl (lv_at hl 1 rfl) ?_
  refine cpi (As := [.int p0]) (rest := []) ⟨hx, hb, hml, hown, htb⟩ (c_B_isSlot l D cI cZ g hg x p0) (cwv (n := 1) htb cd_B_isSlot k_B_48 in_B_isSlot se_B_isSlot ini_B hd_B_isSlot ⟨Nat.le_of_ble_eq_true rfl, Nat.le_of_ble_eq_true rfl⟩) hK hP [0, 1, 2, 3, 4, 5] rfl (ci := 0) rfl rfl rfl hl.1 rfl (Nat.le_of_ble_eq_true rfl) d_B_isWritten_2 ⟨Nat.zero_le _, Nat.zero_le _⟩ (fun r_2 hw_2 => ?_)
  have hF := hF.trans (bnd_eq hw_2)
  refine lv_if_eq (tgt := 21) hx hb d_B_isWritten_5 (by decide) (fun c_5 => ?_) (fun c_5 => ?_)
  · have hF := hF.trans (if_pos c_5)
    refine lv_iconst (v := 0) hx hb d_B_isWritten_21 (by decide) ?_
    exact W.zret (v := (0 : Int32)) (ty := .boolean) hx hb hr rfl (fun t ht hW => ⟨_, rfl, hF.symm, ht⟩) (fun q h => by cases h) d_B_isWritten_22
  · have hF := hF.trans (if_neg c_5)
    refine lv_aload_n hx hb d_B_isWritten_8 rfl (lv_at hl 0 rfl) ?_
    refine va_get (D := D) (ci := 0) (v := .ref g.1.2.2.2.2.2) (C := R_B) (T := T_B) (N := 7) hx hb htb i_B hown hK hP 0 rfl rfl 6 (by decide) (htb _ k_B_37) (fun _ h9 => h9) rfl d_B_isWritten_9 ?_
    refine lv_iload_n hx hb d_B_isWritten_12 rfl (lv_at hl 1 rfl) ?_
    refine va_zald hx hb hK hP 5 1 rfl rfl (isSlot_in hg hw_2 c_5) d_B_isWritten_13 ?_
    refine lv_if_eq (tgt := 21) hx hb d_B_isWritten_14 (by decide) (fun c_14 => ?_) (fun c_14 => ?_)
    · have hF := hF.trans (if_pos c_14)
      refine lv_iconst (v := 0) hx hb d_B_isWritten_21 (by decide) ?_
      exact W.zret (v := (0 : Int32)) (ty := .boolean) hx hb hr rfl (fun t ht hW => ⟨_, rfl, hF.symm, ht⟩) (fun q h => by cases h) d_B_isWritten_22
    · have hF := hF.trans (if_neg c_14)
      refine lv_iconst (v := 1) hx hb d_B_isWritten_17 (by decide) ?_
      refine lv_goto (tgt := 22) hx hb d_B_isWritten_18 (by decide) ?_
      exact W.zret (v := (1 : Int32)) (ty := .boolean) hx hb hr rfl (fun t ht hW => ⟨_, rfl, hF.symm, ht⟩) (fun q h => by cases h) d_B_isWritten_22

def M_B_clean (g : GB) (x : Bk) (p0 : Int32) : Bk := (bnd (M_B_isSlot g x p0) (fun r_2 => (if r_2 = 0 then x else (x.1, x.2.1, x.2.2.1, x.2.2.2.1, (upd x.2.2.2.2 p0.toNatClampNeg (vp_nar .boolean (0 : Int32)))))))
theorem M_B_clean_eq (g : GB) (x : Bk) (p0 : Int32) : M_B_clean g x p0 = (bnd (M_B_isSlot g x p0) (fun r_2 => (if r_2 = 0 then x else (x.1, x.2.1, x.2.2.1, x.2.2.2.1, (upd x.2.2.2.2 p0.toNatClampNeg (vp_nar .boolean (0 : Int32))))))) := rfl
abbrev w_B_clean : List Cond := .code y_B_clean b_B_clean 2 none :: tbW
abbrev rm_B_clean : Room := { frames := 1, cells := 0, slots := 0, locals := 21 }
set_option maxHeartbeats 4000000 in
set_option maxRecDepth 100000 in
theorem c_B_clean (l : Launch) (D : va_G) (cI cZ : ClassId) (g : GB) (hg : okB g) (x : Bk) (p0 : Int32) : Met l y_B_clean w_B_clean rm_B_clean (PcW D vwCl (tyK cI cZ) [.ref g.1.1, .int p0] (wB cI cZ g x)) (va_Qv (fun (u : Bk) => u = M_B_clean g x p0) (fun (u : Bk) (t : State) => va_P D vwCl (wB cI cZ g u) t.heap) (Aw (wB cI cZ g x))) 0 0 (Aw (wB cI cZ g x)) := by
  refine Met.ofW (cc := b_B_clean) (maxL := 2) (ret := none) (by decide) rfl ?_
  intro p e s m args below meth c s₁ B hml hv
  obtain ⟨rfl, hP, hK, hD0⟩ := hv
  have hx := B.exec
  have hb := B.bytes
  have hr := B.returns
  have htb : ∀ w ∈ tbW, w.before _ s = true := fun w h => atoms_spec (ws := w_B_clean) B.pre w (List.mem_cons_of_mem _ h)
  have hown : s.vm.findClass R_B = some m.cls := findClass_of_methodNamed B.named
  have hlocks := B.notSynchronized
  have hD : va_D (Aw (wB cI cZ g x)) (wB cI cZ g x) := ⟨hD0.1, fun k q hk => ⟨k, q.2, hk⟩⟩
  have hS : va_S (Aw (wB cI cZ g x)) s.heap s.heap [] := va_S.rf
  have hl := lv_entry ([.ref g.1.1, .int p0]) (n := 2) (Nat.le_of_ble_eq_true rfl)
  rw [lg_entry_eq]
  generalize (lg_sl ([.ref g.1.1, .int p0]) ++ List.replicate (2 - (lg_sl ([.ref g.1.1, .int p0])).length) Slot.unset).toArray = ls at hl ⊢
  have hl : lv_has ls 2 [(0, .ref g.1.1), (1, .int p0)] := hl
  have hF := M_B_clean_eq g x p0
  refine lv_aload_n hx hb d_B_clean_0 rfl (lv_at hl 0 rfl) ?_
  refine lv_iload_n hx hb d_B_clean_1 rfl (lv_at hl 1 rfl) ?_
  refine cpi (As := [.int p0]) (rest := []) ⟨hx, hb, hml, hown, htb⟩ (c_B_isSlot l D cI cZ g hg x p0) (cwv (n := 1) htb cd_B_isSlot k_B_48 in_B_isSlot se_B_isSlot ini_B hd_B_isSlot ⟨Nat.le_of_ble_eq_true rfl, Nat.le_of_ble_eq_true rfl⟩) hK hP [0, 1, 2, 3, 4, 5] rfl (ci := 0) rfl rfl rfl hl.1 rfl (Nat.le_of_ble_eq_true rfl) d_B_clean_2 ⟨Nat.zero_le _, Nat.zero_le _⟩ (fun r_2 hw_2 => ?_)
  have hF := hF.trans (bnd_eq hw_2)
  refine lv_if_eq (tgt := 15) hx hb d_B_clean_5 (by decide) (fun c_5 => ?_) (fun c_5 => ?_)
  · have hF := hF.trans (if_pos c_5)
    exact W.vret hx hb hr (fun t ht hW => ⟨⟨x, rfl, hF.symm, by dsimp only; rw [ht]; exact hP⟩, hS.F ht⟩) hS.2.2 d_B_clean_15
  · have hF := hF.trans (if_neg c_5)
    refine lv_aload_n hx hb d_B_clean_8 rfl (lv_at hl 0 rfl) ?_
    refine va_get (D := D) (ci := 0) (v := .ref g.1.2.2.2.2.2) (C := R_B) (T := T_B) (N := 7) hx hb htb i_B hown hK hP 0 rfl rfl 6 (by decide) (htb _ k_B_37) (fun _ h9 => h9) rfl d_B_clean_9 ?_
    refine lv_iload_n hx hb d_B_clean_12 rfl (lv_at hl 1 rfl) ?_
    refine lv_iconst (v := 0) hx hb d_B_clean_13 (by decide) ?_
    refine va_zast hx hb hK hP hD hS 5 1 rfl rfl (isSlot_in hg hw_2 c_5) d_B_clean_14 (fun H locs hP hD hS => ?_)
    have hP : va_P D vwCl (wB cI cZ g (x.1, x.2.1, x.2.2.1, x.2.2.2.1, (upd x.2.2.2.2 p0.toNatClampNeg (vp_nar .boolean (0 : Int32))))) H := hP
    have hD : va_D _ (wB cI cZ g (x.1, x.2.1, x.2.2.1, x.2.2.2.1, (upd x.2.2.2.2 p0.toNatClampNeg (vp_nar .boolean (0 : Int32))))) := hD
    exact W.vret hx hb hr (fun t ht hW => ⟨⟨(x.1, x.2.1, x.2.2.1, x.2.2.2.1, (upd x.2.2.2.2 p0.toNatClampNeg (vp_nar .boolean (0 : Int32)))), rfl, hF.symm, by dsimp only; rw [ht]; exact hP⟩, hS.F ht⟩) hS.2.2 d_B_clean_15

def M_B_rewrite (g : GB) (x : Bk) (p0 p1 : Int32) : Bk := (bnd (M_B_isSlot g x p0) (fun r_2 => (if r_2 = 0 then x else (x.1, x.2.1, (upd x.2.2.1 p0.toNatClampNeg p1), x.2.2.2.1, (upd x.2.2.2.2 p0.toNatClampNeg (vp_nar .boolean (1 : Int32)))))))
theorem M_B_rewrite_eq (g : GB) (x : Bk) (p0 p1 : Int32) : M_B_rewrite g x p0 p1 = (bnd (M_B_isSlot g x p0) (fun r_2 => (if r_2 = 0 then x else (x.1, x.2.1, (upd x.2.2.1 p0.toNatClampNeg p1), x.2.2.2.1, (upd x.2.2.2.2 p0.toNatClampNeg (vp_nar .boolean (1 : Int32))))))) := rfl
abbrev w_B_rewrite : List Cond := .code y_B_rewrite b_B_rewrite 3 none :: tbW
abbrev rm_B_rewrite : Room := { frames := 1, cells := 0, slots := 0, locals := 21 }
set_option maxHeartbeats 4000000 in
set_option maxRecDepth 100000 in
theorem c_B_rewrite (l : Launch) (D : va_G) (cI cZ : ClassId) (g : GB) (hg : okB g) (x : Bk) (p0 p1 : Int32) : Met l y_B_rewrite w_B_rewrite rm_B_rewrite (PcW D vwCl (tyK cI cZ) [.ref g.1.1, .int p0, .int p1] (wB cI cZ g x)) (va_Qv (fun (u : Bk) => u = M_B_rewrite g x p0 p1) (fun (u : Bk) (t : State) => va_P D vwCl (wB cI cZ g u) t.heap) (Aw (wB cI cZ g x))) 0 0 (Aw (wB cI cZ g x)) := by
  refine Met.ofW (cc := b_B_rewrite) (maxL := 3) (ret := none) (by decide) rfl ?_
  intro p e s m args below meth c s₁ B hml hv
  obtain ⟨rfl, hP, hK, hD0⟩ := hv
  have hx := B.exec
  have hb := B.bytes
  have hr := B.returns
  have htb : ∀ w ∈ tbW, w.before _ s = true := fun w h => atoms_spec (ws := w_B_rewrite) B.pre w (List.mem_cons_of_mem _ h)
  have hown : s.vm.findClass R_B = some m.cls := findClass_of_methodNamed B.named
  have hlocks := B.notSynchronized
  have hD : va_D (Aw (wB cI cZ g x)) (wB cI cZ g x) := ⟨hD0.1, fun k q hk => ⟨k, q.2, hk⟩⟩
  have hS : va_S (Aw (wB cI cZ g x)) s.heap s.heap [] := va_S.rf
  have hl := lv_entry ([.ref g.1.1, .int p0, .int p1]) (n := 3) (Nat.le_of_ble_eq_true rfl)
  rw [lg_entry_eq]
  generalize (lg_sl ([.ref g.1.1, .int p0, .int p1]) ++ List.replicate (3 - (lg_sl ([.ref g.1.1, .int p0, .int p1])).length) Slot.unset).toArray = ls at hl ⊢
  have hl : lv_has ls 3 [(0, .ref g.1.1), (1, .int p0), (2, .int p1)] := hl
  have hF := M_B_rewrite_eq g x p0 p1
  refine lv_aload_n hx hb d_B_rewrite_0 rfl (lv_at hl 0 rfl) ?_
  refine lv_iload_n hx hb d_B_rewrite_1 rfl (lv_at hl 1 rfl) ?_
  refine cpi (As := [.int p0]) (rest := []) ⟨hx, hb, hml, hown, htb⟩ (c_B_isSlot l D cI cZ g hg x p0) (cwv (n := 1) htb cd_B_isSlot k_B_48 in_B_isSlot se_B_isSlot ini_B hd_B_isSlot ⟨Nat.le_of_ble_eq_true rfl, Nat.le_of_ble_eq_true rfl⟩) hK hP [0, 1, 2, 3, 4, 5] rfl (ci := 0) rfl rfl rfl hl.1 rfl (Nat.le_of_ble_eq_true rfl) d_B_rewrite_2 ⟨Nat.zero_le _, Nat.zero_le _⟩ (fun r_2 hw_2 => ?_)
  have hF := hF.trans (bnd_eq hw_2)
  refine lv_if_eq (tgt := 22) hx hb d_B_rewrite_5 (by decide) (fun c_5 => ?_) (fun c_5 => ?_)
  · have hF := hF.trans (if_pos c_5)
    exact W.vret hx hb hr (fun t ht hW => ⟨⟨x, rfl, hF.symm, by dsimp only; rw [ht]; exact hP⟩, hS.F ht⟩) hS.2.2 d_B_rewrite_22
  · have hF := hF.trans (if_neg c_5)
    refine lv_aload_n hx hb d_B_rewrite_8 rfl (lv_at hl 0 rfl) ?_
    refine va_get (D := D) (ci := 0) (v := .ref g.1.2.2.2.1) (C := R_B) (T := T_B) (N := 7) hx hb htb i_B hown hK hP 0 rfl rfl 4 (by decide) (htb _ k_B_31) (fun _ h9 => h9) rfl d_B_rewrite_9 ?_
    refine lv_iload_n hx hb d_B_rewrite_12 rfl (lv_at hl 1 rfl) ?_
    refine lv_iload_n hx hb d_B_rewrite_13 rfl (lv_at hl 2 rfl) ?_
    refine va_iast hx hb hK hP hD hS 3 0 rfl rfl (isSlot_in hg hw_2 c_5) d_B_rewrite_14 (fun H locs hP hD hS => ?_)
    have hP : va_P D vwCl (wB cI cZ g (x.1, x.2.1, (upd x.2.2.1 p0.toNatClampNeg p1), x.2.2.2.1, x.2.2.2.2)) H := hP
    have hD : va_D _ (wB cI cZ g (x.1, x.2.1, (upd x.2.2.1 p0.toNatClampNeg p1), x.2.2.2.1, x.2.2.2.2)) := hD
    refine lv_aload_n hx hb d_B_rewrite_15 rfl (lv_at hl 0 rfl) ?_
    refine va_get (D := D) (ci := 0) (v := .ref g.1.2.2.2.2.2) (C := R_B) (T := T_B) (N := 7) hx hb htb i_B hown hK hP 0 rfl rfl 6 (by decide) (htb _ k_B_37) (fun _ h9 => h9) rfl d_B_rewrite_16 ?_
    refine lv_iload_n hx hb d_B_rewrite_19 rfl (lv_at hl 1 rfl) ?_
    refine lv_iconst (v := 1) hx hb d_B_rewrite_20 (by decide) ?_
    refine va_zast hx hb hK hP hD hS 5 1 rfl rfl (isSlot_in hg hw_2 c_5) d_B_rewrite_21 (fun H locs hP hD hS => ?_)
    have hP : va_P D vwCl (wB cI cZ g (x.1, x.2.1, (upd x.2.2.1 p0.toNatClampNeg p1), x.2.2.2.1, (upd x.2.2.2.2 p0.toNatClampNeg (vp_nar .boolean (1 : Int32))))) H := hP
    have hD : va_D _ (wB cI cZ g (x.1, x.2.1, (upd x.2.2.1 p0.toNatClampNeg p1), x.2.2.2.1, (upd x.2.2.2.2 p0.toNatClampNeg (vp_nar .boolean (1 : Int32))))) := hD
    exact W.vret hx hb hr (fun t ht hW => ⟨⟨(x.1, x.2.1, (upd x.2.2.1 p0.toNatClampNeg p1), x.2.2.2.1, (upd x.2.2.2.2 p0.toNatClampNeg (vp_nar .boolean (1 : Int32)))), rfl, hF.symm, by dsimp only; rw [ht]; exact hP⟩, hS.F ht⟩) hS.2.2 d_B_rewrite_22

def L_B_find_10 (g : GB) (x : Bk) (p0 p1 : Int32) : Nat → Int32 → Int32 → Int32
  | 0, _, _ => 0
  | n + 1, v3, v4 => (bnd (M_B_size g x v3) (fun r_14 => (if r_14 ≤ v4 then (-1 : Int32) else (bnd (M_B_lineAt g x ((v3 * g.2.1.2) + v4)) (fun r_30 => (if r_30 = p1 then ((v3 * g.2.1.2) + v4) else L_B_find_10 g x p0 p1 n v3 (v4 + 1)))))))
theorem L_B_find_10_eq (g : GB) (x : Bk) (p0 p1 : Int32) (n : Nat) (v3 v4 : Int32) : L_B_find_10 g x p0 p1 (n + 1) v3 v4 = (bnd (M_B_size g x v3) (fun r_14 => (if r_14 ≤ v4 then (-1 : Int32) else (bnd (M_B_lineAt g x ((v3 * g.2.1.2) + v4)) (fun r_30 => (if r_30 = p1 then ((v3 * g.2.1.2) + v4) else L_B_find_10 g x p0 p1 n v3 (v4 + 1))))))) := by first | rfl | rw [L_B_find_10]
def M_B_find (g : GB) (x : Bk) (p0 p1 : Int32) : Int32 := (bnd (M_B_placeOf g x p0 p1) (fun r_3 => L_B_find_10 g x p0 p1 (mu (0 : Int32) (M_B_size g x r_3) + 1) r_3 (0 : Int32)))
theorem M_B_find_eq (g : GB) (x : Bk) (p0 p1 : Int32) : M_B_find g x p0 p1 = (bnd (M_B_placeOf g x p0 p1) (fun r_3 => L_B_find_10 g x p0 p1 (mu (0 : Int32) (M_B_size g x r_3) + 1) r_3 (0 : Int32))) := rfl
abbrev w_B_find : List Cond := .code y_B_find b_B_find 5 (some .int) :: tbW
abbrev rm_B_find : Room := { frames := 2, cells := 0, slots := 0, locals := 44 }
set_option maxHeartbeats 4000000 in
set_option maxRecDepth 100000 in
theorem c_B_find (l : Launch) (D : va_G) (cI cZ : ClassId) (g : GB) (hg : okB g) (x : Bk) (p0 p1 : Int32) : Met l y_B_find w_B_find rm_B_find (PcR D vwCl (tyK cI cZ) [.ref g.1.1, .int p0, .int p1] (wB cI cZ g x)) (vp_Si (fun r => r = M_B_find g x p0 p1)) 0 0 (fun _ => False) := by
  refine Met.ofW (cc := b_B_find) (maxL := 5) (ret := (some .int)) (by decide) rfl ?_
  intro p e s m args below meth c s₁ B hml hv
  obtain ⟨rfl, hP, hK⟩ := hv
  have hx := B.exec
  have hb := B.bytes
  have hr := B.returns
  have htb : ∀ w ∈ tbW, w.before _ s = true := fun w h => atoms_spec (ws := w_B_find) B.pre w (List.mem_cons_of_mem _ h)
  have hown : s.vm.findClass R_B = some m.cls := findClass_of_methodNamed B.named
  have hlocks := B.notSynchronized
  have cut_10 : ∀ (n : Nat) (v3 v4 : Int32) (ls : Array Slot), mu v4 (M_B_size g x v3) < n → M_B_find g x p0 p1 = L_B_find_10 g x p0 p1 n v3 v4 → lv_has ls 5 [(0, .ref g.1.1), (1, .int p0), (2, .int p1), (3, .int v3), (4, .int v4)] → W p l e (headSpec w_B_find rm_B_find).room s m ([.ref g.1.1, .int p0, .int p1] : List Value).toArray below meth c s.heap [] 0 0 (MQ below (vp_Si (fun r => r = M_B_find g x p0 p1)) ([.ref g.1.1, .int p0, .int p1] : List Value).toArray s 0 0 (fun _ => False)) (F0 m 10 ls []) := by
    intro n
    induction n with
    | zero => intro v3 v4 ls hm _ _; exact absurd hm (Nat.not_lt_zero _)
    | succ n ih =>
      intro v3 v4 ls hm hF hl
      have hF := hF.trans (L_B_find_10_eq g x p0 p1 n v3 v4)
      refine lv_iload hx hb d_B_find_10 (lv_at hl 4 rfl) ?_
      refine lv_aload_n hx hb d_B_find_12 rfl (lv_at hl 0 rfl) ?_
      refine lv_iload_n hx hb d_B_find_13 rfl (lv_at hl 3 rfl) ?_
      refine cpi (As := [.int v3]) (rest := [.int v4]) ⟨hx, hb, hml, hown, htb⟩ (c_B_size l D cI cZ g hg x v3) (cwv (n := 1) htb cd_B_size k_B_44 in_B_size se_B_size ini_B hd_B_size ⟨Nat.le_of_ble_eq_true rfl, Nat.le_of_ble_eq_true rfl⟩) hK hP [0, 1, 2, 3, 4, 5] rfl (ci := 0) rfl rfl rfl hl.1 rfl (Nat.le_of_ble_eq_true rfl) d_B_find_14 ⟨Nat.zero_le _, Nat.zero_le _⟩ (fun r_14 hw_14 => ?_)
      have hF := hF.trans (bnd_eq hw_14)
      refine lv_icmp_ge (tgt := 53) hx hb d_B_find_17 (by decide) (fun c_17 => ?_) (fun c_17 => ?_)
      · have hF := hF.trans (if_pos c_17)
        refine lv_iconst (v := -1) hx hb d_B_find_53 (by decide) ?_
        exact W.iret (v := (-1 : Int32)) hx hb hr (fun t ht hW => ⟨_, rfl, hF.symm, ht⟩) (fun q h => by cases h) d_B_find_54
      · have hF := hF.trans (if_neg c_17)
        refine lv_aload_n hx hb d_B_find_20 rfl (lv_at hl 0 rfl) ?_
        refine lv_iload_n hx hb d_B_find_21 rfl (lv_at hl 3 rfl) ?_
        refine lv_aload_n hx hb d_B_find_22 rfl (lv_at hl 0 rfl) ?_
        refine va_get (D := D) (ci := 0) (v := .int g.2.1.2) (C := R_B) (T := T_B) (N := 7) hx hb htb i_B hown hK hP 0 rfl rfl 1 (by decide) (htb _ k_B_21) (fun _ h9 => h9) rfl d_B_find_23 ?_
        refine lv_imul hx hb d_B_find_26 ?_
        refine lv_iload hx hb d_B_find_27 (lv_at hl 4 rfl) ?_
        refine lv_iadd hx hb d_B_find_29 ?_
        refine cpi (As := [.int ((v3 * g.2.1.2) + v4)]) (rest := []) ⟨hx, hb, hml, hown, htb⟩ (c_B_lineAt l D cI cZ g hg x ((v3 * g.2.1.2) + v4)) (cwv (n := 1) htb cd_B_lineAt k_B_55 in_B_lineAt se_B_lineAt ini_B hd_B_lineAt ⟨Nat.le_of_ble_eq_true rfl, Nat.le_of_ble_eq_true rfl⟩) hK hP [0, 1, 2, 3, 4, 5] rfl (ci := 0) rfl rfl rfl hl.1 rfl (Nat.le_of_ble_eq_true rfl) d_B_find_30 ⟨Nat.zero_le _, Nat.zero_le _⟩ (fun r_30 hw_30 => ?_)
        have hF := hF.trans (bnd_eq hw_30)
        refine lv_iload_n hx hb d_B_find_33 rfl (lv_at hl 2 rfl) ?_
        refine lv_icmp_ne (tgt := 47) hx hb d_B_find_34 (by decide) (fun c_34 => ?_) (fun c_34 => ?_)
        · have hF := hF.trans (if_neg c_34)
          refine lv_iinc (v := (v4 + 1)) (lv' := [(4, .int (v4 + 1)), (0, .ref g.1.1), (1, .int p0), (2, .int p1), (3, .int v3)]) hx hb d_B_find_47 hl (k := 4) rfl rfl (by decide) rfl (fun ls hl => ?_)
          refine lv_goto (tgt := 10) hx hb d_B_find_50 (by decide) ?_
          have hl := lv_sub (l' := [(0, .ref g.1.1), (1, .int p0), (2, .int p1), (3, .int v3), (4, .int (v4 + 1))]) hl [1, 2, 3, 4, 0] rfl
          exact ih v3 (v4 + 1) _ (Nat.lt_of_lt_of_le (mu_decr hw_14 c_17) (Nat.le_of_lt_succ hm)) hF hl
        · have hF := hF.trans (if_pos c_34)
          refine lv_iload_n hx hb d_B_find_37 rfl (lv_at hl 3 rfl) ?_
          refine lv_aload_n hx hb d_B_find_38 rfl (lv_at hl 0 rfl) ?_
          refine va_get (D := D) (ci := 0) (v := .int g.2.1.2) (C := R_B) (T := T_B) (N := 7) hx hb htb i_B hown hK hP 0 rfl rfl 1 (by decide) (htb _ k_B_21) (fun _ h9 => h9) rfl d_B_find_39 ?_
          refine lv_imul hx hb d_B_find_42 ?_
          refine lv_iload hx hb d_B_find_43 (lv_at hl 4 rfl) ?_
          refine lv_iadd hx hb d_B_find_45 ?_
          exact W.iret (v := ((v3 * g.2.1.2) + v4)) hx hb hr (fun t ht hW => ⟨_, rfl, hF.symm, ht⟩) (fun q h => by cases h) d_B_find_46
  have hl := lv_entry ([.ref g.1.1, .int p0, .int p1]) (n := 5) (Nat.le_of_ble_eq_true rfl)
  rw [lg_entry_eq]
  generalize (lg_sl ([.ref g.1.1, .int p0, .int p1]) ++ List.replicate (5 - (lg_sl ([.ref g.1.1, .int p0, .int p1])).length) Slot.unset).toArray = ls at hl ⊢
  have hl : lv_has ls 5 [(0, .ref g.1.1), (1, .int p0), (2, .int p1)] := hl
  have hF := M_B_find_eq g x p0 p1
  refine lv_aload_n hx hb d_B_find_0 rfl (lv_at hl 0 rfl) ?_
  refine lv_iload_n hx hb d_B_find_1 rfl (lv_at hl 1 rfl) ?_
  refine lv_iload_n hx hb d_B_find_2 rfl (lv_at hl 2 rfl) ?_
  refine cpi (As := [.int p0, .int p1]) (rest := []) ⟨hx, hb, hml, hown, htb⟩ (c_B_placeOf l D cI cZ g hg x p0 p1) (cwv (n := 2) htb cd_B_placeOf k_B_52 in_B_placeOf se_B_placeOf ini_B hd_B_placeOf ⟨Nat.le_of_ble_eq_true rfl, Nat.le_of_ble_eq_true rfl⟩) hK hP [0, 1, 2, 3, 4, 5] rfl (ci := 0) rfl rfl rfl hl.1 rfl (Nat.le_of_ble_eq_true rfl) d_B_find_3 ⟨Nat.zero_le _, Nat.zero_le _⟩ (fun r_3 hw_3 => ?_)
  have hF := hF.trans (bnd_eq hw_3)
  refine lv_istore_n (lv' := [(3, .int r_3), (0, .ref g.1.1), (1, .int p0), (2, .int p1)]) hx hb d_B_find_6 rfl hl (by decide) rfl (fun ls hl => ?_)
  refine lv_iconst (v := 0) hx hb d_B_find_7 (by decide) ?_
  refine lv_istore (lv' := [(4, .int (0 : Int32)), (3, .int r_3), (0, .ref g.1.1), (1, .int p0), (2, .int p1)]) hx hb d_B_find_8 hl (by decide) rfl (fun ls hl => ?_)
  have hl := lv_sub (l' := [(0, .ref g.1.1), (1, .int p0), (2, .int p1), (3, .int r_3), (4, .int (0 : Int32))]) hl [2, 3, 4, 1, 0] rfl
  exact cut_10 (mu (0 : Int32) (M_B_size g x r_3) + 1) r_3 (0 : Int32) _ (Nat.lt_succ_self _) hF hl

def M_B_oldest (g : GB) (x : Bk) (p0 : Int32) : Int32 := (bnd (M_B_size g x p0) (fun r_2 => (if r_2 ≤ 0 then (-1 : Int32) else (((p0 * g.2.1.2) + r_2) - (1 : Int32)))))
theorem M_B_oldest_eq (g : GB) (x : Bk) (p0 : Int32) : M_B_oldest g x p0 = (bnd (M_B_size g x p0) (fun r_2 => (if r_2 ≤ 0 then (-1 : Int32) else (((p0 * g.2.1.2) + r_2) - (1 : Int32))))) := rfl
abbrev w_B_oldest : List Cond := .code y_B_oldest b_B_oldest 3 (some .int) :: tbW
abbrev rm_B_oldest : Room := { frames := 1, cells := 0, slots := 0, locals := 21 }
set_option maxHeartbeats 4000000 in
set_option maxRecDepth 100000 in
theorem c_B_oldest (l : Launch) (D : va_G) (cI cZ : ClassId) (g : GB) (hg : okB g) (x : Bk) (p0 : Int32) : Met l y_B_oldest w_B_oldest rm_B_oldest (PcR D vwCl (tyK cI cZ) [.ref g.1.1, .int p0] (wB cI cZ g x)) (vp_Si (fun r => r = M_B_oldest g x p0)) 0 0 (fun _ => False) := by
  refine Met.ofW (cc := b_B_oldest) (maxL := 3) (ret := (some .int)) (by decide) rfl ?_
  intro p e s m args below meth c s₁ B hml hv
  obtain ⟨rfl, hP, hK⟩ := hv
  have hx := B.exec
  have hb := B.bytes
  have hr := B.returns
  have htb : ∀ w ∈ tbW, w.before _ s = true := fun w h => atoms_spec (ws := w_B_oldest) B.pre w (List.mem_cons_of_mem _ h)
  have hown : s.vm.findClass R_B = some m.cls := findClass_of_methodNamed B.named
  have hlocks := B.notSynchronized
  have hl := lv_entry ([.ref g.1.1, .int p0]) (n := 3) (Nat.le_of_ble_eq_true rfl)
  rw [lg_entry_eq]
  generalize (lg_sl ([.ref g.1.1, .int p0]) ++ List.replicate (3 - (lg_sl ([.ref g.1.1, .int p0])).length) Slot.unset).toArray = ls at hl ⊢
  have hl : lv_has ls 3 [(0, .ref g.1.1), (1, .int p0)] := hl
  have hF := M_B_oldest_eq g x p0
  refine lv_aload_n hx hb d_B_oldest_0 rfl (lv_at hl 0 rfl) ?_
  refine lv_iload_n hx hb d_B_oldest_1 rfl (lv_at hl 1 rfl) ?_
  refine cpi (As := [.int p0]) (rest := []) ⟨hx, hb, hml, hown, htb⟩ (c_B_size l D cI cZ g hg x p0) (cwv (n := 1) htb cd_B_size k_B_44 in_B_size se_B_size ini_B hd_B_size ⟨Nat.le_of_ble_eq_true rfl, Nat.le_of_ble_eq_true rfl⟩) hK hP [0, 1, 2, 3, 4, 5] rfl (ci := 0) rfl rfl rfl hl.1 rfl (Nat.le_of_ble_eq_true rfl) d_B_oldest_2 ⟨Nat.zero_le _, Nat.zero_le _⟩ (fun r_2 hw_2 => ?_)
  have hF := hF.trans (bnd_eq hw_2)
  refine lv_istore_n (lv' := [(2, .int r_2), (0, .ref g.1.1), (1, .int p0)]) hx hb d_B_oldest_5 rfl hl (by decide) rfl (fun ls hl => ?_)
  refine lv_iload_n hx hb d_B_oldest_6 rfl (lv_at hl 0 rfl) ?_
  refine lv_if_le (tgt := 23) hx hb d_B_oldest_7 (by decide) (fun c_7 => ?_) (fun c_7 => ?_)
  · have hF := hF.trans (if_pos c_7)
    refine lv_iconst (v := -1) hx hb d_B_oldest_23 (by decide) ?_
    exact W.iret (v := (-1 : Int32)) hx hb hr (fun t ht hW => ⟨_, rfl, hF.symm, ht⟩) (fun q h => by cases h) d_B_oldest_24
  · have hF := hF.trans (if_neg c_7)
    refine lv_iload_n hx hb d_B_oldest_10 rfl (lv_at hl 2 rfl) ?_
    refine lv_aload_n hx hb d_B_oldest_11 rfl (lv_at hl 1 rfl) ?_
    refine va_get (D := D) (ci := 0) (v := .int g.2.1.2) (C := R_B) (T := T_B) (N := 7) hx hb htb i_B hown hK hP 0 rfl rfl 1 (by decide) (htb _ k_B_21) (fun _ h9 => h9) rfl d_B_oldest_12 ?_
    refine lv_imul hx hb d_B_oldest_15 ?_
    refine lv_iload_n hx hb d_B_oldest_16 rfl (lv_at hl 0 rfl) ?_
    refine lv_iadd hx hb d_B_oldest_17 ?_
    refine lv_iconst (v := 1) hx hb d_B_oldest_18 (by decide) ?_
    refine lv_isub hx hb d_B_oldest_19 ?_
    refine lv_goto (tgt := 24) hx hb d_B_oldest_20 (by decide) ?_
    exact W.iret (v := (((p0 * g.2.1.2) + r_2) - (1 : Int32))) hx hb hr (fun t ht hW => ⟨_, rfl, hF.symm, ht⟩) (fun q h => by cases h) d_B_oldest_24

def L_B_oldestOwned_8 (g : GB) (x : Bk) (p0 p1 : Int32) : Nat → Int32 → Int32
  | 0, _ => 0
  | n + 1, v3 => (if v3 < 0 then (-1 : Int32) else (bnd (M_B_ownerAt g x ((p0 * g.2.1.2) + v3)) (fun r_21 => (if r_21 = p1 then ((p0 * g.2.1.2) + v3) else L_B_oldestOwned_8 g x p0 p1 n (v3 + (-1))))))
theorem L_B_oldestOwned_8_eq (g : GB) (x : Bk) (p0 p1 : Int32) (n : Nat) (v3 : Int32) : L_B_oldestOwned_8 g x p0 p1 (n + 1) v3 = (if v3 < 0 then (-1 : Int32) else (bnd (M_B_ownerAt g x ((p0 * g.2.1.2) + v3)) (fun r_21 => (if r_21 = p1 then ((p0 * g.2.1.2) + v3) else L_B_oldestOwned_8 g x p0 p1 n (v3 + (-1)))))) := by first | rfl | rw [L_B_oldestOwned_8]
def M_B_oldestOwned (g : GB) (x : Bk) (p0 p1 : Int32) : Int32 := (bnd (M_B_size g x p0) (fun r_2 => L_B_oldestOwned_8 g x p0 p1 (dn (r_2 - (1 : Int32)) + 1) (r_2 - (1 : Int32))))
theorem M_B_oldestOwned_eq (g : GB) (x : Bk) (p0 p1 : Int32) : M_B_oldestOwned g x p0 p1 = (bnd (M_B_size g x p0) (fun r_2 => L_B_oldestOwned_8 g x p0 p1 (dn (r_2 - (1 : Int32)) + 1) (r_2 - (1 : Int32)))) := rfl
abbrev w_B_oldestOwned : List Cond := .code y_B_oldestOwned b_B_oldestOwned 4 (some .int) :: tbW
abbrev rm_B_oldestOwned : Room := { frames := 2, cells := 0, slots := 0, locals := 42 }
set_option maxHeartbeats 4000000 in
set_option maxRecDepth 100000 in
theorem c_B_oldestOwned (l : Launch) (D : va_G) (cI cZ : ClassId) (g : GB) (hg : okB g) (x : Bk) (p0 p1 : Int32) : Met l y_B_oldestOwned w_B_oldestOwned rm_B_oldestOwned (PcR D vwCl (tyK cI cZ) [.ref g.1.1, .int p0, .int p1] (wB cI cZ g x)) (vp_Si (fun r => r = M_B_oldestOwned g x p0 p1)) 0 0 (fun _ => False) := by
  refine Met.ofW (cc := b_B_oldestOwned) (maxL := 4) (ret := (some .int)) (by decide) rfl ?_
  intro p e s m args below meth c s₁ B hml hv
  obtain ⟨rfl, hP, hK⟩ := hv
  have hx := B.exec
  have hb := B.bytes
  have hr := B.returns
  have htb : ∀ w ∈ tbW, w.before _ s = true := fun w h => atoms_spec (ws := w_B_oldestOwned) B.pre w (List.mem_cons_of_mem _ h)
  have hown : s.vm.findClass R_B = some m.cls := findClass_of_methodNamed B.named
  have hlocks := B.notSynchronized
  have cut_8 : ∀ (n : Nat) (v3 : Int32) (ls : Array Slot), dn v3 < n → M_B_oldestOwned g x p0 p1 = L_B_oldestOwned_8 g x p0 p1 n v3 → lv_has ls 4 [(0, .ref g.1.1), (1, .int p0), (2, .int p1), (3, .int v3)] → W p l e (headSpec w_B_oldestOwned rm_B_oldestOwned).room s m ([.ref g.1.1, .int p0, .int p1] : List Value).toArray below meth c s.heap [] 0 0 (MQ below (vp_Si (fun r => r = M_B_oldestOwned g x p0 p1)) ([.ref g.1.1, .int p0, .int p1] : List Value).toArray s 0 0 (fun _ => False)) (F0 m 8 ls []) := by
    intro n
    induction n with
    | zero => intro v3 ls hm _ _; exact absurd hm (Nat.not_lt_zero _)
    | succ n ih =>
      intro v3 ls hm hF hl
      have hF := hF.trans (L_B_oldestOwned_8_eq g x p0 p1 n v3)
      refine lv_iload_n hx hb d_B_oldestOwned_8 rfl (lv_at hl 3 rfl) ?_
      refine lv_if_lt (tgt := 43) hx hb d_B_oldestOwned_9 (by decide) (fun c_9 => ?_) (fun c_9 => ?_)
      · have hF := hF.trans (if_pos c_9)
        refine lv_iconst (v := -1) hx hb d_B_oldestOwned_43 (by decide) ?_
        exact W.iret (v := (-1 : Int32)) hx hb hr (fun t ht hW => ⟨_, rfl, hF.symm, ht⟩) (fun q h => by cases h) d_B_oldestOwned_44
      · have hF := hF.trans (if_neg c_9)
        refine lv_aload_n hx hb d_B_oldestOwned_12 rfl (lv_at hl 0 rfl) ?_
        refine lv_iload_n hx hb d_B_oldestOwned_13 rfl (lv_at hl 1 rfl) ?_
        refine lv_aload_n hx hb d_B_oldestOwned_14 rfl (lv_at hl 0 rfl) ?_
        refine va_get (D := D) (ci := 0) (v := .int g.2.1.2) (C := R_B) (T := T_B) (N := 7) hx hb htb i_B hown hK hP 0 rfl rfl 1 (by decide) (htb _ k_B_21) (fun _ h9 => h9) rfl d_B_oldestOwned_15 ?_
        refine lv_imul hx hb d_B_oldestOwned_18 ?_
        refine lv_iload_n hx hb d_B_oldestOwned_19 rfl (lv_at hl 3 rfl) ?_
        refine lv_iadd hx hb d_B_oldestOwned_20 ?_
        refine cpi (As := [.int ((p0 * g.2.1.2) + v3)]) (rest := []) ⟨hx, hb, hml, hown, htb⟩ (c_B_ownerAt l D cI cZ g hg x ((p0 * g.2.1.2) + v3)) (cwv (n := 1) htb cd_B_ownerAt k_B_58 in_B_ownerAt se_B_ownerAt ini_B hd_B_ownerAt ⟨Nat.le_of_ble_eq_true rfl, Nat.le_of_ble_eq_true rfl⟩) hK hP [0, 1, 2, 3, 4, 5] rfl (ci := 0) rfl rfl rfl hl.1 rfl (Nat.le_of_ble_eq_true rfl) d_B_oldestOwned_21 ⟨Nat.zero_le _, Nat.zero_le _⟩ (fun r_21 hw_21 => ?_)
        have hF := hF.trans (bnd_eq hw_21)
        refine lv_iload_n hx hb d_B_oldestOwned_24 rfl (lv_at hl 2 rfl) ?_
        refine lv_icmp_ne (tgt := 37) hx hb d_B_oldestOwned_25 (by decide) (fun c_25 => ?_) (fun c_25 => ?_)
        · have hF := hF.trans (if_neg c_25)
          refine lv_iinc (v := (v3 + (-1))) (lv' := [(3, .int (v3 + (-1))), (0, .ref g.1.1), (1, .int p0), (2, .int p1)]) hx hb d_B_oldestOwned_37 hl (k := 3) rfl rfl (by decide) rfl (fun ls hl => ?_)
          refine lv_goto (tgt := 8) hx hb d_B_oldestOwned_40 (by decide) ?_
          have hl := lv_sub (l' := [(0, .ref g.1.1), (1, .int p0), (2, .int p1), (3, .int (v3 + (-1)))]) hl [1, 2, 3, 0] rfl
          exact ih (v3 + (-1)) _ (Nat.lt_of_lt_of_le (dn_dec c_9) (Nat.le_of_lt_succ hm)) hF hl
        · have hF := hF.trans (if_pos c_25)
          refine lv_iload_n hx hb d_B_oldestOwned_28 rfl (lv_at hl 1 rfl) ?_
          refine lv_aload_n hx hb d_B_oldestOwned_29 rfl (lv_at hl 0 rfl) ?_
          refine va_get (D := D) (ci := 0) (v := .int g.2.1.2) (C := R_B) (T := T_B) (N := 7) hx hb htb i_B hown hK hP 0 rfl rfl 1 (by decide) (htb _ k_B_21) (fun _ h9 => h9) rfl d_B_oldestOwned_30 ?_
          refine lv_imul hx hb d_B_oldestOwned_33 ?_
          refine lv_iload_n hx hb d_B_oldestOwned_34 rfl (lv_at hl 3 rfl) ?_
          refine lv_iadd hx hb d_B_oldestOwned_35 ?_
          exact W.iret (v := ((p0 * g.2.1.2) + v3)) hx hb hr (fun t ht hW => ⟨_, rfl, hF.symm, ht⟩) (fun q h => by cases h) d_B_oldestOwned_36
  have hl := lv_entry ([.ref g.1.1, .int p0, .int p1]) (n := 4) (Nat.le_of_ble_eq_true rfl)
  rw [lg_entry_eq]
  generalize (lg_sl ([.ref g.1.1, .int p0, .int p1]) ++ List.replicate (4 - (lg_sl ([.ref g.1.1, .int p0, .int p1])).length) Slot.unset).toArray = ls at hl ⊢
  have hl : lv_has ls 4 [(0, .ref g.1.1), (1, .int p0), (2, .int p1)] := hl
  have hF := M_B_oldestOwned_eq g x p0 p1
  refine lv_aload_n hx hb d_B_oldestOwned_0 rfl (lv_at hl 0 rfl) ?_
  refine lv_iload_n hx hb d_B_oldestOwned_1 rfl (lv_at hl 1 rfl) ?_
  refine cpi (As := [.int p0]) (rest := []) ⟨hx, hb, hml, hown, htb⟩ (c_B_size l D cI cZ g hg x p0) (cwv (n := 1) htb cd_B_size k_B_44 in_B_size se_B_size ini_B hd_B_size ⟨Nat.le_of_ble_eq_true rfl, Nat.le_of_ble_eq_true rfl⟩) hK hP [0, 1, 2, 3, 4, 5] rfl (ci := 0) rfl rfl rfl hl.1 rfl (Nat.le_of_ble_eq_true rfl) d_B_oldestOwned_2 ⟨Nat.zero_le _, Nat.zero_le _⟩ (fun r_2 hw_2 => ?_)
  have hF := hF.trans (bnd_eq hw_2)
  refine lv_iconst (v := 1) hx hb d_B_oldestOwned_5 (by decide) ?_
  refine lv_isub hx hb d_B_oldestOwned_6 ?_
  refine lv_istore_n (lv' := [(3, .int (r_2 - (1 : Int32))), (0, .ref g.1.1), (1, .int p0), (2, .int p1)]) hx hb d_B_oldestOwned_7 rfl hl (by decide) rfl (fun ls hl => ?_)
  have hl := lv_sub (l' := [(0, .ref g.1.1), (1, .int p0), (2, .int p1), (3, .int (r_2 - (1 : Int32)))]) hl [1, 2, 3, 0] rfl
  exact cut_8 (dn (r_2 - (1 : Int32)) + 1) (r_2 - (1 : Int32)) _ (Nat.lt_succ_self _) hF hl

def L_B_ownedAt_5 (g : GB) (x : Bk) (p0 p1 : Int32) : Nat → Int32 → Int32 → Int32
  | 0, _, _ => 0
  | n + 1, v3, v4 => (bnd (M_B_size g x p0) (fun r_9 => (if r_9 ≤ v4 then v3 else (bnd (M_B_ownerAt g x ((p0 * g.2.1.2) + v4)) (fun r_25 => (if r_25 = p1 then L_B_ownedAt_5 g x p0 p1 n (v3 + 1) (v4 + 1) else L_B_ownedAt_5 g x p0 p1 n v3 (v4 + 1)))))))
theorem L_B_ownedAt_5_eq (g : GB) (x : Bk) (p0 p1 : Int32) (n : Nat) (v3 v4 : Int32) : L_B_ownedAt_5 g x p0 p1 (n + 1) v3 v4 = (bnd (M_B_size g x p0) (fun r_9 => (if r_9 ≤ v4 then v3 else (bnd (M_B_ownerAt g x ((p0 * g.2.1.2) + v4)) (fun r_25 => (if r_25 = p1 then L_B_ownedAt_5 g x p0 p1 n (v3 + 1) (v4 + 1) else L_B_ownedAt_5 g x p0 p1 n v3 (v4 + 1))))))) := by first | rfl | rw [L_B_ownedAt_5]
def M_B_ownedAt (g : GB) (x : Bk) (p0 p1 : Int32) : Int32 := L_B_ownedAt_5 g x p0 p1 (mu (0 : Int32) (M_B_size g x p0) + 1) (0 : Int32) (0 : Int32)
theorem M_B_ownedAt_eq (g : GB) (x : Bk) (p0 p1 : Int32) : M_B_ownedAt g x p0 p1 = L_B_ownedAt_5 g x p0 p1 (mu (0 : Int32) (M_B_size g x p0) + 1) (0 : Int32) (0 : Int32) := rfl
abbrev w_B_ownedAt : List Cond := .code y_B_ownedAt b_B_ownedAt 5 (some .int) :: tbW
abbrev rm_B_ownedAt : Room := { frames := 2, cells := 0, slots := 0, locals := 42 }
set_option maxHeartbeats 4000000 in
set_option maxRecDepth 100000 in
theorem c_B_ownedAt (l : Launch) (D : va_G) (cI cZ : ClassId) (g : GB) (hg : okB g) (x : Bk) (p0 p1 : Int32) : Met l y_B_ownedAt w_B_ownedAt rm_B_ownedAt (PcR D vwCl (tyK cI cZ) [.ref g.1.1, .int p0, .int p1] (wB cI cZ g x)) (vp_Si (fun r => r = M_B_ownedAt g x p0 p1)) 0 0 (fun _ => False) := by
  refine Met.ofW (cc := b_B_ownedAt) (maxL := 5) (ret := (some .int)) (by decide) rfl ?_
  intro p e s m args below meth c s₁ B hml hv
  obtain ⟨rfl, hP, hK⟩ := hv
  have hx := B.exec
  have hb := B.bytes
  have hr := B.returns
  have htb : ∀ w ∈ tbW, w.before _ s = true := fun w h => atoms_spec (ws := w_B_ownedAt) B.pre w (List.mem_cons_of_mem _ h)
  have hown : s.vm.findClass R_B = some m.cls := findClass_of_methodNamed B.named
  have hlocks := B.notSynchronized
  have cut_5 : ∀ (n : Nat) (v3 v4 : Int32) (ls : Array Slot), mu v4 (M_B_size g x p0) < n → M_B_ownedAt g x p0 p1 = L_B_ownedAt_5 g x p0 p1 n v3 v4 → lv_has ls 5 [(0, .ref g.1.1), (1, .int p0), (2, .int p1), (3, .int v3), (4, .int v4)] → W p l e (headSpec w_B_ownedAt rm_B_ownedAt).room s m ([.ref g.1.1, .int p0, .int p1] : List Value).toArray below meth c s.heap [] 0 0 (MQ below (vp_Si (fun r => r = M_B_ownedAt g x p0 p1)) ([.ref g.1.1, .int p0, .int p1] : List Value).toArray s 0 0 (fun _ => False)) (F0 m 5 ls []) := by
    intro n
    induction n with
    | zero => intro v3 v4 ls hm _ _; exact absurd hm (Nat.not_lt_zero _)
    | succ n ih =>
      intro v3 v4 ls hm hF hl
      have hF := hF.trans (L_B_ownedAt_5_eq g x p0 p1 n v3 v4)
      refine lv_iload hx hb d_B_ownedAt_5 (lv_at hl 4 rfl) ?_
      refine lv_aload_n hx hb d_B_ownedAt_7 rfl (lv_at hl 0 rfl) ?_
      refine lv_iload_n hx hb d_B_ownedAt_8 rfl (lv_at hl 1 rfl) ?_
      refine cpi (As := [.int p0]) (rest := [.int v4]) ⟨hx, hb, hml, hown, htb⟩ (c_B_size l D cI cZ g hg x p0) (cwv (n := 1) htb cd_B_size k_B_44 in_B_size se_B_size ini_B hd_B_size ⟨Nat.le_of_ble_eq_true rfl, Nat.le_of_ble_eq_true rfl⟩) hK hP [0, 1, 2, 3, 4, 5] rfl (ci := 0) rfl rfl rfl hl.1 rfl (Nat.le_of_ble_eq_true rfl) d_B_ownedAt_9 ⟨Nat.zero_le _, Nat.zero_le _⟩ (fun r_9 hw_9 => ?_)
      have hF := hF.trans (bnd_eq hw_9)
      refine lv_icmp_ge (tgt := 41) hx hb d_B_ownedAt_12 (by decide) (fun c_12 => ?_) (fun c_12 => ?_)
      · have hF := hF.trans (if_pos c_12)
        refine lv_iload_n hx hb d_B_ownedAt_41 rfl (lv_at hl 3 rfl) ?_
        exact W.iret (v := v3) hx hb hr (fun t ht hW => ⟨_, rfl, hF.symm, ht⟩) (fun q h => by cases h) d_B_ownedAt_42
      · have hF := hF.trans (if_neg c_12)
        refine lv_aload_n hx hb d_B_ownedAt_15 rfl (lv_at hl 0 rfl) ?_
        refine lv_iload_n hx hb d_B_ownedAt_16 rfl (lv_at hl 1 rfl) ?_
        refine lv_aload_n hx hb d_B_ownedAt_17 rfl (lv_at hl 0 rfl) ?_
        refine va_get (D := D) (ci := 0) (v := .int g.2.1.2) (C := R_B) (T := T_B) (N := 7) hx hb htb i_B hown hK hP 0 rfl rfl 1 (by decide) (htb _ k_B_21) (fun _ h9 => h9) rfl d_B_ownedAt_18 ?_
        refine lv_imul hx hb d_B_ownedAt_21 ?_
        refine lv_iload hx hb d_B_ownedAt_22 (lv_at hl 4 rfl) ?_
        refine lv_iadd hx hb d_B_ownedAt_24 ?_
        refine cpi (As := [.int ((p0 * g.2.1.2) + v4)]) (rest := []) ⟨hx, hb, hml, hown, htb⟩ (c_B_ownerAt l D cI cZ g hg x ((p0 * g.2.1.2) + v4)) (cwv (n := 1) htb cd_B_ownerAt k_B_58 in_B_ownerAt se_B_ownerAt ini_B hd_B_ownerAt ⟨Nat.le_of_ble_eq_true rfl, Nat.le_of_ble_eq_true rfl⟩) hK hP [0, 1, 2, 3, 4, 5] rfl (ci := 0) rfl rfl rfl hl.1 rfl (Nat.le_of_ble_eq_true rfl) d_B_ownedAt_25 ⟨Nat.zero_le _, Nat.zero_le _⟩ (fun r_25 hw_25 => ?_)
        have hF := hF.trans (bnd_eq hw_25)
        refine lv_iload_n hx hb d_B_ownedAt_28 rfl (lv_at hl 2 rfl) ?_
        refine lv_icmp_ne (tgt := 35) hx hb d_B_ownedAt_29 (by decide) (fun c_29 => ?_) (fun c_29 => ?_)
        · have hF := hF.trans (if_neg c_29)
          refine lv_iinc (v := (v4 + 1)) (lv' := [(4, .int (v4 + 1)), (0, .ref g.1.1), (1, .int p0), (2, .int p1), (3, .int v3)]) hx hb d_B_ownedAt_35 hl (k := 4) rfl rfl (by decide) rfl (fun ls hl => ?_)
          refine lv_goto (tgt := 5) hx hb d_B_ownedAt_38 (by decide) ?_
          have hl := lv_sub (l' := [(0, .ref g.1.1), (1, .int p0), (2, .int p1), (3, .int v3), (4, .int (v4 + 1))]) hl [1, 2, 3, 4, 0] rfl
          exact ih v3 (v4 + 1) _ (Nat.lt_of_lt_of_le (mu_decr hw_9 c_12) (Nat.le_of_lt_succ hm)) hF hl
        · have hF := hF.trans (if_pos c_29)
          refine lv_iinc (v := (v3 + 1)) (lv' := [(3, .int (v3 + 1)), (0, .ref g.1.1), (1, .int p0), (2, .int p1), (4, .int v4)]) hx hb d_B_ownedAt_32 hl (k := 3) rfl rfl (by decide) rfl (fun ls hl => ?_)
          refine lv_iinc (v := (v4 + 1)) (lv' := [(4, .int (v4 + 1)), (3, .int (v3 + 1)), (0, .ref g.1.1), (1, .int p0), (2, .int p1)]) hx hb d_B_ownedAt_35 hl (k := 4) rfl rfl (by decide) rfl (fun ls hl => ?_)
          refine lv_goto (tgt := 5) hx hb d_B_ownedAt_38 (by decide) ?_
          have hl := lv_sub (l' := [(0, .ref g.1.1), (1, .int p0), (2, .int p1), (3, .int (v3 + 1)), (4, .int (v4 + 1))]) hl [2, 3, 4, 1, 0] rfl
          exact ih (v3 + 1) (v4 + 1) _ (Nat.lt_of_lt_of_le (mu_decr hw_9 c_12) (Nat.le_of_lt_succ hm)) hF hl
  have hl := lv_entry ([.ref g.1.1, .int p0, .int p1]) (n := 5) (Nat.le_of_ble_eq_true rfl)
  rw [lg_entry_eq]
  generalize (lg_sl ([.ref g.1.1, .int p0, .int p1]) ++ List.replicate (5 - (lg_sl ([.ref g.1.1, .int p0, .int p1])).length) Slot.unset).toArray = ls at hl ⊢
  have hl : lv_has ls 5 [(0, .ref g.1.1), (1, .int p0), (2, .int p1)] := hl
  have hF := M_B_ownedAt_eq g x p0 p1
  refine lv_iconst (v := 0) hx hb d_B_ownedAt_0 (by decide) ?_
  refine lv_istore_n (lv' := [(3, .int (0 : Int32)), (0, .ref g.1.1), (1, .int p0), (2, .int p1)]) hx hb d_B_ownedAt_1 rfl hl (by decide) rfl (fun ls hl => ?_)
  refine lv_iconst (v := 0) hx hb d_B_ownedAt_2 (by decide) ?_
  refine lv_istore (lv' := [(4, .int (0 : Int32)), (3, .int (0 : Int32)), (0, .ref g.1.1), (1, .int p0), (2, .int p1)]) hx hb d_B_ownedAt_3 hl (by decide) rfl (fun ls hl => ?_)
  have hl := lv_sub (l' := [(0, .ref g.1.1), (1, .int p0), (2, .int p1), (3, .int (0 : Int32)), (4, .int (0 : Int32))]) hl [2, 3, 4, 1, 0] rfl
  exact cut_5 (mu (0 : Int32) (M_B_size g x p0) + 1) (0 : Int32) (0 : Int32) _ (Nat.lt_succ_self _) hF hl

def L_B_ownedBy_4 (g : GB) (x : Bk) (p0 : Int32) : Nat → Int32 → Int32 → Int32
  | 0, _, _ => 0
  | n + 1, v2, v3 => (if (nI g.2.2.1) ≤ v3 then v2 else (bnd (M_B_ownedAt g x v3 p0) (fun r_17 => L_B_ownedBy_4 g x p0 n (v2 + r_17) (v3 + 1))))
theorem L_B_ownedBy_4_eq (g : GB) (x : Bk) (p0 : Int32) (n : Nat) (v2 v3 : Int32) : L_B_ownedBy_4 g x p0 (n + 1) v2 v3 = (if (nI g.2.2.1) ≤ v3 then v2 else (bnd (M_B_ownedAt g x v3 p0) (fun r_17 => L_B_ownedBy_4 g x p0 n (v2 + r_17) (v3 + 1)))) := by first | rfl | rw [L_B_ownedBy_4]
def M_B_ownedBy (g : GB) (x : Bk) (p0 : Int32) : Int32 := L_B_ownedBy_4 g x p0 (mu (0 : Int32) (nI g.2.2.1) + 1) (0 : Int32) (0 : Int32)
theorem M_B_ownedBy_eq (g : GB) (x : Bk) (p0 : Int32) : M_B_ownedBy g x p0 = L_B_ownedBy_4 g x p0 (mu (0 : Int32) (nI g.2.2.1) + 1) (0 : Int32) (0 : Int32) := rfl
abbrev w_B_ownedBy : List Cond := .code y_B_ownedBy b_B_ownedBy 4 (some .int) :: tbW
abbrev rm_B_ownedBy : Room := { frames := 3, cells := 0, slots := 0, locals := 66 }
set_option maxHeartbeats 4000000 in
set_option maxRecDepth 100000 in
theorem c_B_ownedBy (l : Launch) (D : va_G) (cI cZ : ClassId) (g : GB) (hg : okB g) (x : Bk) (p0 : Int32) : Met l y_B_ownedBy w_B_ownedBy rm_B_ownedBy (PcR D vwCl (tyK cI cZ) [.ref g.1.1, .int p0] (wB cI cZ g x)) (vp_Si (fun r => r = M_B_ownedBy g x p0)) 0 0 (fun _ => False) := by
  refine Met.ofW (cc := b_B_ownedBy) (maxL := 4) (ret := (some .int)) (by decide) rfl ?_
  intro p e s m args below meth c s₁ B hml hv
  obtain ⟨rfl, hP, hK⟩ := hv
  have hx := B.exec
  have hb := B.bytes
  have hr := B.returns
  have htb : ∀ w ∈ tbW, w.before _ s = true := fun w h => atoms_spec (ws := w_B_ownedBy) B.pre w (List.mem_cons_of_mem _ h)
  have hown : s.vm.findClass R_B = some m.cls := findClass_of_methodNamed B.named
  have hlocks := B.notSynchronized
  have cut_4 : ∀ (n : Nat) (v2 v3 : Int32) (ls : Array Slot), mu v3 (nI g.2.2.1) < n → M_B_ownedBy g x p0 = L_B_ownedBy_4 g x p0 n v2 v3 → lv_has ls 4 [(0, .ref g.1.1), (1, .int p0), (2, .int v2), (3, .int v3)] → W p l e (headSpec w_B_ownedBy rm_B_ownedBy).room s m ([.ref g.1.1, .int p0] : List Value).toArray below meth c s.heap [] 0 0 (MQ below (vp_Si (fun r => r = M_B_ownedBy g x p0)) ([.ref g.1.1, .int p0] : List Value).toArray s 0 0 (fun _ => False)) (F0 m 4 ls []) := by
    intro n
    induction n with
    | zero => intro v2 v3 ls hm _ _; exact absurd hm (Nat.not_lt_zero _)
    | succ n ih =>
      intro v2 v3 ls hm hF hl
      have hF := hF.trans (L_B_ownedBy_4_eq g x p0 n v2 v3)
      refine lv_iload_n hx hb d_B_ownedBy_4 rfl (lv_at hl 3 rfl) ?_
      refine lv_aload_n hx hb d_B_ownedBy_5 rfl (lv_at hl 0 rfl) ?_
      refine va_get (D := D) (ci := 0) (v := .ref g.1.2.1) (C := R_B) (T := T_B) (N := 7) hx hb htb i_B hown hK hP 0 rfl rfl 2 (by decide) (htb _ k_B_24) (fun _ h9 => h9) rfl d_B_ownedBy_6 ?_
      refine va_alen hx hb hK hP 1 0 rfl rfl (v := nI g.2.2.1) rfl d_B_ownedBy_9 ?_
      refine lv_icmp_ge (tgt := 28) hx hb d_B_ownedBy_10 (by decide) (fun c_10 => ?_) (fun c_10 => ?_)
      · have hF := hF.trans (if_pos c_10)
        refine lv_iload_n hx hb d_B_ownedBy_28 rfl (lv_at hl 2 rfl) ?_
        exact W.iret (v := v2) hx hb hr (fun t ht hW => ⟨_, rfl, hF.symm, ht⟩) (fun q h => by cases h) d_B_ownedBy_29
      · have hF := hF.trans (if_neg c_10)
        refine lv_iload_n hx hb d_B_ownedBy_13 rfl (lv_at hl 2 rfl) ?_
        refine lv_aload_n hx hb d_B_ownedBy_14 rfl (lv_at hl 0 rfl) ?_
        refine lv_iload_n hx hb d_B_ownedBy_15 rfl (lv_at hl 3 rfl) ?_
        refine lv_iload_n hx hb d_B_ownedBy_16 rfl (lv_at hl 1 rfl) ?_
        refine cpi (As := [.int v3, .int p0]) (rest := [.int v2]) ⟨hx, hb, hml, hown, htb⟩ (c_B_ownedAt l D cI cZ g hg x v3 p0) (cwv (n := 2) htb cd_B_ownedAt k_B_61 in_B_ownedAt se_B_ownedAt ini_B hd_B_ownedAt ⟨Nat.le_of_ble_eq_true rfl, Nat.le_of_ble_eq_true rfl⟩) hK hP [0, 1, 2, 3, 4, 5] rfl (ci := 0) rfl rfl rfl hl.1 rfl (Nat.le_of_ble_eq_true rfl) d_B_ownedBy_17 ⟨Nat.zero_le _, Nat.zero_le _⟩ (fun r_17 hw_17 => ?_)
        have hF := hF.trans (bnd_eq hw_17)
        refine lv_iadd hx hb d_B_ownedBy_20 ?_
        refine lv_istore_n (lv' := [(2, .int (v2 + r_17)), (0, .ref g.1.1), (1, .int p0), (3, .int v3)]) hx hb d_B_ownedBy_21 rfl hl (by decide) rfl (fun ls hl => ?_)
        refine lv_iinc (v := (v3 + 1)) (lv' := [(3, .int (v3 + 1)), (2, .int (v2 + r_17)), (0, .ref g.1.1), (1, .int p0)]) hx hb d_B_ownedBy_22 hl (k := 3) rfl rfl (by decide) rfl (fun ls hl => ?_)
        refine lv_goto (tgt := 4) hx hb d_B_ownedBy_25 (by decide) ?_
        have hl := lv_sub (l' := [(0, .ref g.1.1), (1, .int p0), (2, .int (v2 + r_17)), (3, .int (v3 + 1))]) hl [2, 3, 1, 0] rfl
        exact ih (v2 + r_17) (v3 + 1) _ (Nat.lt_of_lt_of_le (mu_dec c_10) (Nat.le_of_lt_succ hm)) hF hl
  have hl := lv_entry ([.ref g.1.1, .int p0]) (n := 4) (Nat.le_of_ble_eq_true rfl)
  rw [lg_entry_eq]
  generalize (lg_sl ([.ref g.1.1, .int p0]) ++ List.replicate (4 - (lg_sl ([.ref g.1.1, .int p0])).length) Slot.unset).toArray = ls at hl ⊢
  have hl : lv_has ls 4 [(0, .ref g.1.1), (1, .int p0)] := hl
  have hF := M_B_ownedBy_eq g x p0
  refine lv_iconst (v := 0) hx hb d_B_ownedBy_0 (by decide) ?_
  refine lv_istore_n (lv' := [(2, .int (0 : Int32)), (0, .ref g.1.1), (1, .int p0)]) hx hb d_B_ownedBy_1 rfl hl (by decide) rfl (fun ls hl => ?_)
  refine lv_iconst (v := 0) hx hb d_B_ownedBy_2 (by decide) ?_
  refine lv_istore_n (lv' := [(3, .int (0 : Int32)), (2, .int (0 : Int32)), (0, .ref g.1.1), (1, .int p0)]) hx hb d_B_ownedBy_3 rfl hl (by decide) rfl (fun ls hl => ?_)
  have hl := lv_sub (l' := [(0, .ref g.1.1), (1, .int p0), (2, .int (0 : Int32)), (3, .int (0 : Int32))]) hl [2, 3, 1, 0] rfl
  exact cut_4 (mu (0 : Int32) (nI g.2.2.1) + 1) (0 : Int32) (0 : Int32) _ (Nat.lt_succ_self _) hF hl

def M_B_swap (g : GB) (x : Bk) (p0 p1 : Int32) : Bk := (bnd (M_B_isSlot g x p0) (fun r_2 => (if r_2 = 0 then x else (bnd (M_B_isSlot g x p1) (fun r_10 => (if r_10 = 0 then x else (x.1, (upd (upd x.2.1 p0.toNatClampNeg (x.2.1 p1.toNatClampNeg)) p1.toNatClampNeg (x.2.1 p0.toNatClampNeg)), (upd (upd x.2.2.1 p0.toNatClampNeg (x.2.2.1 p1.toNatClampNeg)) p1.toNatClampNeg (x.2.2.1 p0.toNatClampNeg)), (upd (upd x.2.2.2.1 p0.toNatClampNeg (x.2.2.2.1 p1.toNatClampNeg)) p1.toNatClampNeg (x.2.2.2.1 p0.toNatClampNeg)), (upd (upd x.2.2.2.2 p0.toNatClampNeg (vp_nar .boolean (x.2.2.2.2 p1.toNatClampNeg))) p1.toNatClampNeg (vp_nar .boolean (x.2.2.2.2 p0.toNatClampNeg))))))))))
theorem M_B_swap_eq (g : GB) (x : Bk) (p0 p1 : Int32) : M_B_swap g x p0 p1 = (bnd (M_B_isSlot g x p0) (fun r_2 => (if r_2 = 0 then x else (bnd (M_B_isSlot g x p1) (fun r_10 => (if r_10 = 0 then x else (x.1, (upd (upd x.2.1 p0.toNatClampNeg (x.2.1 p1.toNatClampNeg)) p1.toNatClampNeg (x.2.1 p0.toNatClampNeg)), (upd (upd x.2.2.1 p0.toNatClampNeg (x.2.2.1 p1.toNatClampNeg)) p1.toNatClampNeg (x.2.2.1 p0.toNatClampNeg)), (upd (upd x.2.2.2.1 p0.toNatClampNeg (x.2.2.2.1 p1.toNatClampNeg)) p1.toNatClampNeg (x.2.2.2.1 p0.toNatClampNeg)), (upd (upd x.2.2.2.2 p0.toNatClampNeg (vp_nar .boolean (x.2.2.2.2 p1.toNatClampNeg))) p1.toNatClampNeg (vp_nar .boolean (x.2.2.2.2 p0.toNatClampNeg)))))))))) := rfl
abbrev w_B_swap : List Cond := .code y_B_swap b_B_swap 7 none :: tbW
abbrev rm_B_swap : Room := { frames := 1, cells := 0, slots := 0, locals := 21 }
set_option maxHeartbeats 4000000 in
set_option maxRecDepth 100000 in
theorem c_B_swap (l : Launch) (D : va_G) (cI cZ : ClassId) (g : GB) (hg : okB g) (x : Bk) (p0 p1 : Int32) : Met l y_B_swap w_B_swap rm_B_swap (PcW D vwCl (tyK cI cZ) [.ref g.1.1, .int p0, .int p1] (wB cI cZ g x)) (va_Qv (fun (u : Bk) => u = M_B_swap g x p0 p1) (fun (u : Bk) (t : State) => va_P D vwCl (wB cI cZ g u) t.heap) (Aw (wB cI cZ g x))) 0 0 (Aw (wB cI cZ g x)) := by
  refine Met.ofW (cc := b_B_swap) (maxL := 7) (ret := none) (by decide) rfl ?_
  intro p e s m args below meth c s₁ B hml hv
  obtain ⟨rfl, hP, hK, hD0⟩ := hv
  have hx := B.exec
  have hb := B.bytes
  have hr := B.returns
  have htb : ∀ w ∈ tbW, w.before _ s = true := fun w h => atoms_spec (ws := w_B_swap) B.pre w (List.mem_cons_of_mem _ h)
  have hown : s.vm.findClass R_B = some m.cls := findClass_of_methodNamed B.named
  have hlocks := B.notSynchronized
  have hD : va_D (Aw (wB cI cZ g x)) (wB cI cZ g x) := ⟨hD0.1, fun k q hk => ⟨k, q.2, hk⟩⟩
  have hS : va_S (Aw (wB cI cZ g x)) s.heap s.heap [] := va_S.rf
  have hl := lv_entry ([.ref g.1.1, .int p0, .int p1]) (n := 7) (Nat.le_of_ble_eq_true rfl)
  rw [lg_entry_eq]
  generalize (lg_sl ([.ref g.1.1, .int p0, .int p1]) ++ List.replicate (7 - (lg_sl ([.ref g.1.1, .int p0, .int p1])).length) Slot.unset).toArray = ls at hl ⊢
  have hl : lv_has ls 7 [(0, .ref g.1.1), (1, .int p0), (2, .int p1)] := hl
  have hF := M_B_swap_eq g x p0 p1
  refine lv_aload_n hx hb d_B_swap_0 rfl (lv_at hl 0 rfl) ?_
  refine lv_iload_n hx hb d_B_swap_1 rfl (lv_at hl 1 rfl) ?_
  refine cpi (As := [.int p0]) (rest := []) ⟨hx, hb, hml, hown, htb⟩ (c_B_isSlot l D cI cZ g hg x p0) (cwv (n := 1) htb cd_B_isSlot k_B_48 in_B_isSlot se_B_isSlot ini_B hd_B_isSlot ⟨Nat.le_of_ble_eq_true rfl, Nat.le_of_ble_eq_true rfl⟩) hK hP [0, 1, 2, 3, 4, 5] rfl (ci := 0) rfl rfl rfl hl.1 rfl (Nat.le_of_ble_eq_true rfl) d_B_swap_2 ⟨Nat.zero_le _, Nat.zero_le _⟩ (fun r_2 hw_2 => ?_)
  have hF := hF.trans (bnd_eq hw_2)
  refine lv_if_eq (tgt := 16) hx hb d_B_swap_5 (by decide) (fun c_5 => ?_) (fun c_5 => ?_)
  · have hF := hF.trans (if_pos c_5)
    exact W.vret hx hb hr (fun t ht hW => ⟨⟨x, rfl, hF.symm, by dsimp only; rw [ht]; exact hP⟩, hS.F ht⟩) hS.2.2 d_B_swap_16
  · have hF := hF.trans (if_neg c_5)
    refine lv_aload_n hx hb d_B_swap_8 rfl (lv_at hl 0 rfl) ?_
    refine lv_iload_n hx hb d_B_swap_9 rfl (lv_at hl 2 rfl) ?_
    refine cpi (As := [.int p1]) (rest := []) ⟨hx, hb, hml, hown, htb⟩ (c_B_isSlot l D cI cZ g hg x p1) (cwv (n := 1) htb cd_B_isSlot k_B_48 in_B_isSlot se_B_isSlot ini_B hd_B_isSlot ⟨Nat.le_of_ble_eq_true rfl, Nat.le_of_ble_eq_true rfl⟩) hK hP [0, 1, 2, 3, 4, 5] rfl (ci := 0) rfl rfl rfl hl.1 rfl (Nat.le_of_ble_eq_true rfl) d_B_swap_10 ⟨Nat.zero_le _, Nat.zero_le _⟩ (fun r_10 hw_10 => ?_)
    have hF := hF.trans (bnd_eq hw_10)
    refine lv_if_ne (tgt := 17) hx hb d_B_swap_13 (by decide) (fun c_13 => ?_) (fun c_13 => ?_)
    · have hF := hF.trans (if_neg c_13)
      refine lv_aload_n hx hb d_B_swap_17 rfl (lv_at hl 0 rfl) ?_
      refine va_get (D := D) (ci := 0) (v := .ref g.1.2.2.1) (C := R_B) (T := T_B) (N := 7) hx hb htb i_B hown hK hP 0 rfl rfl 3 (by decide) (htb _ k_B_28) (fun _ h9 => h9) rfl d_B_swap_18 ?_
      refine lv_iload_n hx hb d_B_swap_21 rfl (lv_at hl 1 rfl) ?_
      refine va_iald hx hb hK hP 2 0 rfl rfl (isSlot_in hg hw_2 c_5) d_B_swap_22 ?_
      refine lv_istore_n (lv' := [(3, .int (x.2.1 p0.toNatClampNeg)), (0, .ref g.1.1), (1, .int p0), (2, .int p1)]) hx hb d_B_swap_23 rfl hl (by decide) rfl (fun ls hl => ?_)
      refine lv_aload_n hx hb d_B_swap_24 rfl (lv_at hl 1 rfl) ?_
      refine va_get (D := D) (ci := 0) (v := .ref g.1.2.2.1) (C := R_B) (T := T_B) (N := 7) hx hb htb i_B hown hK hP 0 rfl rfl 3 (by decide) (htb _ k_B_28) (fun _ h9 => h9) rfl d_B_swap_25 ?_
      refine lv_iload_n hx hb d_B_swap_28 rfl (lv_at hl 2 rfl) ?_
      refine lv_aload_n hx hb d_B_swap_29 rfl (lv_at hl 1 rfl) ?_
      refine va_get (D := D) (ci := 0) (v := .ref g.1.2.2.1) (C := R_B) (T := T_B) (N := 7) hx hb htb i_B hown hK hP 0 rfl rfl 3 (by decide) (htb _ k_B_28) (fun _ h9 => h9) rfl d_B_swap_30 ?_
      refine lv_iload_n hx hb d_B_swap_33 rfl (lv_at hl 3 rfl) ?_
      refine va_iald hx hb hK hP 2 0 rfl rfl (isSlot_in hg hw_10 c_13) d_B_swap_34 ?_
      refine va_iast hx hb hK hP hD hS 2 0 rfl rfl (isSlot_in hg hw_2 c_5) d_B_swap_35 (fun H locs hP hD hS => ?_)
      have hP : va_P D vwCl (wB cI cZ g (x.1, (upd x.2.1 p0.toNatClampNeg (x.2.1 p1.toNatClampNeg)), x.2.2.1, x.2.2.2.1, x.2.2.2.2)) H := hP
      have hD : va_D _ (wB cI cZ g (x.1, (upd x.2.1 p0.toNatClampNeg (x.2.1 p1.toNatClampNeg)), x.2.2.1, x.2.2.2.1, x.2.2.2.2)) := hD
      refine lv_aload_n hx hb d_B_swap_36 rfl (lv_at hl 1 rfl) ?_
      refine va_get (D := D) (ci := 0) (v := .ref g.1.2.2.1) (C := R_B) (T := T_B) (N := 7) hx hb htb i_B hown hK hP 0 rfl rfl 3 (by decide) (htb _ k_B_28) (fun _ h9 => h9) rfl d_B_swap_37 ?_
      refine lv_iload_n hx hb d_B_swap_40 rfl (lv_at hl 3 rfl) ?_
      refine lv_iload_n hx hb d_B_swap_41 rfl (lv_at hl 0 rfl) ?_
      refine va_iast hx hb hK hP hD hS 2 0 rfl rfl (isSlot_in hg hw_10 c_13) d_B_swap_42 (fun H locs hP hD hS => ?_)
      have hP : va_P D vwCl (wB cI cZ g (x.1, (upd (upd x.2.1 p0.toNatClampNeg (x.2.1 p1.toNatClampNeg)) p1.toNatClampNeg (x.2.1 p0.toNatClampNeg)), x.2.2.1, x.2.2.2.1, x.2.2.2.2)) H := hP
      have hD : va_D _ (wB cI cZ g (x.1, (upd (upd x.2.1 p0.toNatClampNeg (x.2.1 p1.toNatClampNeg)) p1.toNatClampNeg (x.2.1 p0.toNatClampNeg)), x.2.2.1, x.2.2.2.1, x.2.2.2.2)) := hD
      refine lv_aload_n hx hb d_B_swap_43 rfl (lv_at hl 1 rfl) ?_
      refine va_get (D := D) (ci := 0) (v := .ref g.1.2.2.2.1) (C := R_B) (T := T_B) (N := 7) hx hb htb i_B hown hK hP 0 rfl rfl 4 (by decide) (htb _ k_B_31) (fun _ h9 => h9) rfl d_B_swap_44 ?_
      refine lv_iload_n hx hb d_B_swap_47 rfl (lv_at hl 2 rfl) ?_
      refine va_iald hx hb hK hP 3 0 rfl rfl (isSlot_in hg hw_2 c_5) d_B_swap_48 ?_
      refine lv_istore (lv' := [(4, .int (x.2.2.1 p0.toNatClampNeg)), (3, .int (x.2.1 p0.toNatClampNeg)), (0, .ref g.1.1), (1, .int p0), (2, .int p1)]) hx hb d_B_swap_49 hl (by decide) rfl (fun ls hl => ?_)
      refine lv_aload_n hx hb d_B_swap_51 rfl (lv_at hl 2 rfl) ?_
      refine va_get (D := D) (ci := 0) (v := .ref g.1.2.2.2.1) (C := R_B) (T := T_B) (N := 7) hx hb htb i_B hown hK hP 0 rfl rfl 4 (by decide) (htb _ k_B_31) (fun _ h9 => h9) rfl d_B_swap_52 ?_
      refine lv_iload_n hx hb d_B_swap_55 rfl (lv_at hl 3 rfl) ?_
      refine lv_aload_n hx hb d_B_swap_56 rfl (lv_at hl 2 rfl) ?_
      refine va_get (D := D) (ci := 0) (v := .ref g.1.2.2.2.1) (C := R_B) (T := T_B) (N := 7) hx hb htb i_B hown hK hP 0 rfl rfl 4 (by decide) (htb _ k_B_31) (fun _ h9 => h9) rfl d_B_swap_57 ?_
      refine lv_iload_n hx hb d_B_swap_60 rfl (lv_at hl 4 rfl) ?_
      refine va_iald hx hb hK hP 3 0 rfl rfl (isSlot_in hg hw_10 c_13) d_B_swap_61 ?_
      refine va_iast hx hb hK hP hD hS 3 0 rfl rfl (isSlot_in hg hw_2 c_5) d_B_swap_62 (fun H locs hP hD hS => ?_)
      have hP : va_P D vwCl (wB cI cZ g (x.1, (upd (upd x.2.1 p0.toNatClampNeg (x.2.1 p1.toNatClampNeg)) p1.toNatClampNeg (x.2.1 p0.toNatClampNeg)), (upd x.2.2.1 p0.toNatClampNeg (x.2.2.1 p1.toNatClampNeg)), x.2.2.2.1, x.2.2.2.2)) H := hP
      have hD : va_D _ (wB cI cZ g (x.1, (upd (upd x.2.1 p0.toNatClampNeg (x.2.1 p1.toNatClampNeg)) p1.toNatClampNeg (x.2.1 p0.toNatClampNeg)), (upd x.2.2.1 p0.toNatClampNeg (x.2.2.1 p1.toNatClampNeg)), x.2.2.2.1, x.2.2.2.2)) := hD
      refine lv_aload_n hx hb d_B_swap_63 rfl (lv_at hl 2 rfl) ?_
      refine va_get (D := D) (ci := 0) (v := .ref g.1.2.2.2.1) (C := R_B) (T := T_B) (N := 7) hx hb htb i_B hown hK hP 0 rfl rfl 4 (by decide) (htb _ k_B_31) (fun _ h9 => h9) rfl d_B_swap_64 ?_
      refine lv_iload_n hx hb d_B_swap_67 rfl (lv_at hl 4 rfl) ?_
      refine lv_iload hx hb d_B_swap_68 (lv_at hl 0 rfl) ?_
      refine va_iast hx hb hK hP hD hS 3 0 rfl rfl (isSlot_in hg hw_10 c_13) d_B_swap_70 (fun H locs hP hD hS => ?_)
      have hP : va_P D vwCl (wB cI cZ g (x.1, (upd (upd x.2.1 p0.toNatClampNeg (x.2.1 p1.toNatClampNeg)) p1.toNatClampNeg (x.2.1 p0.toNatClampNeg)), (upd (upd x.2.2.1 p0.toNatClampNeg (x.2.2.1 p1.toNatClampNeg)) p1.toNatClampNeg (x.2.2.1 p0.toNatClampNeg)), x.2.2.2.1, x.2.2.2.2)) H := hP
      have hD : va_D _ (wB cI cZ g (x.1, (upd (upd x.2.1 p0.toNatClampNeg (x.2.1 p1.toNatClampNeg)) p1.toNatClampNeg (x.2.1 p0.toNatClampNeg)), (upd (upd x.2.2.1 p0.toNatClampNeg (x.2.2.1 p1.toNatClampNeg)) p1.toNatClampNeg (x.2.2.1 p0.toNatClampNeg)), x.2.2.2.1, x.2.2.2.2)) := hD
      refine lv_aload_n hx hb d_B_swap_71 rfl (lv_at hl 2 rfl) ?_
      refine va_get (D := D) (ci := 0) (v := .ref g.1.2.2.2.2.1) (C := R_B) (T := T_B) (N := 7) hx hb htb i_B hown hK hP 0 rfl rfl 5 (by decide) (htb _ k_B_34) (fun _ h9 => h9) rfl d_B_swap_72 ?_
      refine lv_iload_n hx hb d_B_swap_75 rfl (lv_at hl 3 rfl) ?_
      refine va_iald hx hb hK hP 4 0 rfl rfl (isSlot_in hg hw_2 c_5) d_B_swap_76 ?_
      refine lv_istore (lv' := [(5, .int (x.2.2.2.1 p0.toNatClampNeg)), (4, .int (x.2.2.1 p0.toNatClampNeg)), (3, .int (x.2.1 p0.toNatClampNeg)), (0, .ref g.1.1), (1, .int p0), (2, .int p1)]) hx hb d_B_swap_77 hl (by decide) rfl (fun ls hl => ?_)
      refine lv_aload_n hx hb d_B_swap_79 rfl (lv_at hl 3 rfl) ?_
      refine va_get (D := D) (ci := 0) (v := .ref g.1.2.2.2.2.1) (C := R_B) (T := T_B) (N := 7) hx hb htb i_B hown hK hP 0 rfl rfl 5 (by decide) (htb _ k_B_34) (fun _ h9 => h9) rfl d_B_swap_80 ?_
      refine lv_iload_n hx hb d_B_swap_83 rfl (lv_at hl 4 rfl) ?_
      refine lv_aload_n hx hb d_B_swap_84 rfl (lv_at hl 3 rfl) ?_
      refine va_get (D := D) (ci := 0) (v := .ref g.1.2.2.2.2.1) (C := R_B) (T := T_B) (N := 7) hx hb htb i_B hown hK hP 0 rfl rfl 5 (by decide) (htb _ k_B_34) (fun _ h9 => h9) rfl d_B_swap_85 ?_
      refine lv_iload_n hx hb d_B_swap_88 rfl (lv_at hl 5 rfl) ?_
      refine va_iald hx hb hK hP 4 0 rfl rfl (isSlot_in hg hw_10 c_13) d_B_swap_89 ?_
      refine va_iast hx hb hK hP hD hS 4 0 rfl rfl (isSlot_in hg hw_2 c_5) d_B_swap_90 (fun H locs hP hD hS => ?_)
      have hP : va_P D vwCl (wB cI cZ g (x.1, (upd (upd x.2.1 p0.toNatClampNeg (x.2.1 p1.toNatClampNeg)) p1.toNatClampNeg (x.2.1 p0.toNatClampNeg)), (upd (upd x.2.2.1 p0.toNatClampNeg (x.2.2.1 p1.toNatClampNeg)) p1.toNatClampNeg (x.2.2.1 p0.toNatClampNeg)), (upd x.2.2.2.1 p0.toNatClampNeg (x.2.2.2.1 p1.toNatClampNeg)), x.2.2.2.2)) H := hP
      have hD : va_D _ (wB cI cZ g (x.1, (upd (upd x.2.1 p0.toNatClampNeg (x.2.1 p1.toNatClampNeg)) p1.toNatClampNeg (x.2.1 p0.toNatClampNeg)), (upd (upd x.2.2.1 p0.toNatClampNeg (x.2.2.1 p1.toNatClampNeg)) p1.toNatClampNeg (x.2.2.1 p0.toNatClampNeg)), (upd x.2.2.2.1 p0.toNatClampNeg (x.2.2.2.1 p1.toNatClampNeg)), x.2.2.2.2)) := hD
      refine lv_aload_n hx hb d_B_swap_91 rfl (lv_at hl 3 rfl) ?_
      refine va_get (D := D) (ci := 0) (v := .ref g.1.2.2.2.2.1) (C := R_B) (T := T_B) (N := 7) hx hb htb i_B hown hK hP 0 rfl rfl 5 (by decide) (htb _ k_B_34) (fun _ h9 => h9) rfl d_B_swap_92 ?_
      refine lv_iload_n hx hb d_B_swap_95 rfl (lv_at hl 5 rfl) ?_
      refine lv_iload hx hb d_B_swap_96 (lv_at hl 0 rfl) ?_
      refine va_iast hx hb hK hP hD hS 4 0 rfl rfl (isSlot_in hg hw_10 c_13) d_B_swap_98 (fun H locs hP hD hS => ?_)
      have hP : va_P D vwCl (wB cI cZ g (x.1, (upd (upd x.2.1 p0.toNatClampNeg (x.2.1 p1.toNatClampNeg)) p1.toNatClampNeg (x.2.1 p0.toNatClampNeg)), (upd (upd x.2.2.1 p0.toNatClampNeg (x.2.2.1 p1.toNatClampNeg)) p1.toNatClampNeg (x.2.2.1 p0.toNatClampNeg)), (upd (upd x.2.2.2.1 p0.toNatClampNeg (x.2.2.2.1 p1.toNatClampNeg)) p1.toNatClampNeg (x.2.2.2.1 p0.toNatClampNeg)), x.2.2.2.2)) H := hP
      have hD : va_D _ (wB cI cZ g (x.1, (upd (upd x.2.1 p0.toNatClampNeg (x.2.1 p1.toNatClampNeg)) p1.toNatClampNeg (x.2.1 p0.toNatClampNeg)), (upd (upd x.2.2.1 p0.toNatClampNeg (x.2.2.1 p1.toNatClampNeg)) p1.toNatClampNeg (x.2.2.1 p0.toNatClampNeg)), (upd (upd x.2.2.2.1 p0.toNatClampNeg (x.2.2.2.1 p1.toNatClampNeg)) p1.toNatClampNeg (x.2.2.2.1 p0.toNatClampNeg)), x.2.2.2.2)) := hD
      refine lv_aload_n hx hb d_B_swap_99 rfl (lv_at hl 3 rfl) ?_
      refine va_get (D := D) (ci := 0) (v := .ref g.1.2.2.2.2.2) (C := R_B) (T := T_B) (N := 7) hx hb htb i_B hown hK hP 0 rfl rfl 6 (by decide) (htb _ k_B_37) (fun _ h9 => h9) rfl d_B_swap_100 ?_
      refine lv_iload_n hx hb d_B_swap_103 rfl (lv_at hl 4 rfl) ?_
      refine va_zald hx hb hK hP 5 1 rfl rfl (isSlot_in hg hw_2 c_5) d_B_swap_104 ?_
      refine lv_istore (lv' := [(6, .int (x.2.2.2.2 p0.toNatClampNeg)), (5, .int (x.2.2.2.1 p0.toNatClampNeg)), (4, .int (x.2.2.1 p0.toNatClampNeg)), (3, .int (x.2.1 p0.toNatClampNeg)), (0, .ref g.1.1), (1, .int p0), (2, .int p1)]) hx hb d_B_swap_105 hl (by decide) rfl (fun ls hl => ?_)
      refine lv_aload_n hx hb d_B_swap_107 rfl (lv_at hl 4 rfl) ?_
      refine va_get (D := D) (ci := 0) (v := .ref g.1.2.2.2.2.2) (C := R_B) (T := T_B) (N := 7) hx hb htb i_B hown hK hP 0 rfl rfl 6 (by decide) (htb _ k_B_37) (fun _ h9 => h9) rfl d_B_swap_108 ?_
      refine lv_iload_n hx hb d_B_swap_111 rfl (lv_at hl 5 rfl) ?_
      refine lv_aload_n hx hb d_B_swap_112 rfl (lv_at hl 4 rfl) ?_
      refine va_get (D := D) (ci := 0) (v := .ref g.1.2.2.2.2.2) (C := R_B) (T := T_B) (N := 7) hx hb htb i_B hown hK hP 0 rfl rfl 6 (by decide) (htb _ k_B_37) (fun _ h9 => h9) rfl d_B_swap_113 ?_
      refine lv_iload_n hx hb d_B_swap_116 rfl (lv_at hl 6 rfl) ?_
      refine va_zald hx hb hK hP 5 1 rfl rfl (isSlot_in hg hw_10 c_13) d_B_swap_117 ?_
      refine va_zast hx hb hK hP hD hS 5 1 rfl rfl (isSlot_in hg hw_2 c_5) d_B_swap_118 (fun H locs hP hD hS => ?_)
      have hP : va_P D vwCl (wB cI cZ g (x.1, (upd (upd x.2.1 p0.toNatClampNeg (x.2.1 p1.toNatClampNeg)) p1.toNatClampNeg (x.2.1 p0.toNatClampNeg)), (upd (upd x.2.2.1 p0.toNatClampNeg (x.2.2.1 p1.toNatClampNeg)) p1.toNatClampNeg (x.2.2.1 p0.toNatClampNeg)), (upd (upd x.2.2.2.1 p0.toNatClampNeg (x.2.2.2.1 p1.toNatClampNeg)) p1.toNatClampNeg (x.2.2.2.1 p0.toNatClampNeg)), (upd x.2.2.2.2 p0.toNatClampNeg (vp_nar .boolean (x.2.2.2.2 p1.toNatClampNeg))))) H := hP
      have hD : va_D _ (wB cI cZ g (x.1, (upd (upd x.2.1 p0.toNatClampNeg (x.2.1 p1.toNatClampNeg)) p1.toNatClampNeg (x.2.1 p0.toNatClampNeg)), (upd (upd x.2.2.1 p0.toNatClampNeg (x.2.2.1 p1.toNatClampNeg)) p1.toNatClampNeg (x.2.2.1 p0.toNatClampNeg)), (upd (upd x.2.2.2.1 p0.toNatClampNeg (x.2.2.2.1 p1.toNatClampNeg)) p1.toNatClampNeg (x.2.2.2.1 p0.toNatClampNeg)), (upd x.2.2.2.2 p0.toNatClampNeg (vp_nar .boolean (x.2.2.2.2 p1.toNatClampNeg))))) := hD
      refine lv_aload_n hx hb d_B_swap_119 rfl (lv_at hl 4 rfl) ?_
      refine va_get (D := D) (ci := 0) (v := .ref g.1.2.2.2.2.2) (C := R_B) (T := T_B) (N := 7) hx hb htb i_B hown hK hP 0 rfl rfl 6 (by decide) (htb _ k_B_37) (fun _ h9 => h9) rfl d_B_swap_120 ?_
      refine lv_iload_n hx hb d_B_swap_123 rfl (lv_at hl 6 rfl) ?_
      refine lv_iload hx hb d_B_swap_124 (lv_at hl 0 rfl) ?_
      refine va_zast hx hb hK hP hD hS 5 1 rfl rfl (isSlot_in hg hw_10 c_13) d_B_swap_126 (fun H locs hP hD hS => ?_)
      have hP : va_P D vwCl (wB cI cZ g (x.1, (upd (upd x.2.1 p0.toNatClampNeg (x.2.1 p1.toNatClampNeg)) p1.toNatClampNeg (x.2.1 p0.toNatClampNeg)), (upd (upd x.2.2.1 p0.toNatClampNeg (x.2.2.1 p1.toNatClampNeg)) p1.toNatClampNeg (x.2.2.1 p0.toNatClampNeg)), (upd (upd x.2.2.2.1 p0.toNatClampNeg (x.2.2.2.1 p1.toNatClampNeg)) p1.toNatClampNeg (x.2.2.2.1 p0.toNatClampNeg)), (upd (upd x.2.2.2.2 p0.toNatClampNeg (vp_nar .boolean (x.2.2.2.2 p1.toNatClampNeg))) p1.toNatClampNeg (vp_nar .boolean (x.2.2.2.2 p0.toNatClampNeg))))) H := hP
      have hD : va_D _ (wB cI cZ g (x.1, (upd (upd x.2.1 p0.toNatClampNeg (x.2.1 p1.toNatClampNeg)) p1.toNatClampNeg (x.2.1 p0.toNatClampNeg)), (upd (upd x.2.2.1 p0.toNatClampNeg (x.2.2.1 p1.toNatClampNeg)) p1.toNatClampNeg (x.2.2.1 p0.toNatClampNeg)), (upd (upd x.2.2.2.1 p0.toNatClampNeg (x.2.2.2.1 p1.toNatClampNeg)) p1.toNatClampNeg (x.2.2.2.1 p0.toNatClampNeg)), (upd (upd x.2.2.2.2 p0.toNatClampNeg (vp_nar .boolean (x.2.2.2.2 p1.toNatClampNeg))) p1.toNatClampNeg (vp_nar .boolean (x.2.2.2.2 p0.toNatClampNeg))))) := hD
      exact W.vret hx hb hr (fun t ht hW => ⟨⟨(x.1, (upd (upd x.2.1 p0.toNatClampNeg (x.2.1 p1.toNatClampNeg)) p1.toNatClampNeg (x.2.1 p0.toNatClampNeg)), (upd (upd x.2.2.1 p0.toNatClampNeg (x.2.2.1 p1.toNatClampNeg)) p1.toNatClampNeg (x.2.2.1 p0.toNatClampNeg)), (upd (upd x.2.2.2.1 p0.toNatClampNeg (x.2.2.2.1 p1.toNatClampNeg)) p1.toNatClampNeg (x.2.2.2.1 p0.toNatClampNeg)), (upd (upd x.2.2.2.2 p0.toNatClampNeg (vp_nar .boolean (x.2.2.2.2 p1.toNatClampNeg))) p1.toNatClampNeg (vp_nar .boolean (x.2.2.2.2 p0.toNatClampNeg)))), rfl, hF.symm, by dsimp only; rw [ht]; exact hP⟩, hS.F ht⟩) hS.2.2 d_B_swap_127
    · have hF := hF.trans (if_pos c_13)
      exact W.vret hx hb hr (fun t ht hW => ⟨⟨x, rfl, hF.symm, by dsimp only; rw [ht]; exact hP⟩, hS.F ht⟩) hS.2.2 d_B_swap_16

def L_B_useLast_9 (g : GB) (p0 : Int32) : Nat → Int32 → Int32 → Bk → Bk
  | 0, _, _, z => z
  | n + 1, v2, v3, z => (if v2 ≤ v3 then z else (bnd (M_B_swap g z (p0 - v3) ((p0 - v3) - (1 : Int32))) (fun u_23 => L_B_useLast_9 g p0 n v2 (v3 + 1) u_23)))
theorem L_B_useLast_9_eq (g : GB) (p0 : Int32) (n : Nat) (v2 v3 : Int32) (z : Bk) : L_B_useLast_9 g p0 (n + 1) v2 v3 z = (if v2 ≤ v3 then z else (bnd (M_B_swap g z (p0 - v3) ((p0 - v3) - (1 : Int32))) (fun u_23 => L_B_useLast_9 g p0 n v2 (v3 + 1) u_23))) := by first | rfl | rw [L_B_useLast_9]
def M_B_useLast (g : GB) (x : Bk) (p0 : Int32) : Bk := L_B_useLast_9 g p0 (mu (0 : Int32) (p0 - p0 / g.2.1.2 * g.2.1.2) + 1) (p0 - p0 / g.2.1.2 * g.2.1.2) (0 : Int32) x
theorem M_B_useLast_eq (g : GB) (x : Bk) (p0 : Int32) : M_B_useLast g x p0 = L_B_useLast_9 g p0 (mu (0 : Int32) (p0 - p0 / g.2.1.2 * g.2.1.2) + 1) (p0 - p0 / g.2.1.2 * g.2.1.2) (0 : Int32) x := rfl
abbrev w_B_useLast : List Cond := .code y_B_useLast b_B_useLast 4 none :: tbW
abbrev rm_B_useLast : Room := { frames := 2, cells := 0, slots := 0, locals := 47 }
set_option maxHeartbeats 4000000 in
set_option maxRecDepth 100000 in
theorem c_B_useLast (l : Launch) (D : va_G) (cI cZ : ClassId) (g : GB) (hg : okB g) (x : Bk) (p0 : Int32) : Met l y_B_useLast w_B_useLast rm_B_useLast (PcW D vwCl (tyK cI cZ) [.ref g.1.1, .int p0] (wB cI cZ g x)) (va_Qv (fun (u : Bk) => u = M_B_useLast g x p0) (fun (u : Bk) (t : State) => va_P D vwCl (wB cI cZ g u) t.heap) (Aw (wB cI cZ g x))) 0 0 (Aw (wB cI cZ g x)) := by
  refine Met.ofW (cc := b_B_useLast) (maxL := 4) (ret := none) (by decide) rfl ?_
  intro p e s m args below meth c s₁ B hml hv
  obtain ⟨rfl, hP, hK, hD0⟩ := hv
  have hx := B.exec
  have hb := B.bytes
  have hr := B.returns
  have htb : ∀ w ∈ tbW, w.before _ s = true := fun w h => atoms_spec (ws := w_B_useLast) B.pre w (List.mem_cons_of_mem _ h)
  have hown : s.vm.findClass R_B = some m.cls := findClass_of_methodNamed B.named
  have hlocks := B.notSynchronized
  have hD : va_D (Aw (wB cI cZ g x)) (wB cI cZ g x) := ⟨hD0.1, fun k q hk => ⟨k, q.2, hk⟩⟩
  have hS : va_S (Aw (wB cI cZ g x)) s.heap s.heap [] := va_S.rf
  have cut_9 : ∀ (n : Nat) (v2 v3 : Int32) (z : Bk) (H : Heap) (locs : List Loc) (ls : Array Slot), mu v3 v2 < n → M_B_useLast g x p0 = L_B_useLast_9 g p0 n v2 v3 z → va_P D vwCl (wB cI cZ g z) H → va_D (Aw (wB cI cZ g x)) (wB cI cZ g z) → va_S (Aw (wB cI cZ g x)) s.heap H locs → lv_has ls 4 [(0, .ref g.1.1), (1, .int p0), (2, .int v2), (3, .int v3)] → W p l e (headSpec w_B_useLast rm_B_useLast).room s m ([.ref g.1.1, .int p0] : List Value).toArray below meth c H locs 0 0 (MQ below (va_Qv (fun (u : Bk) => u = M_B_useLast g x p0) (fun (u : Bk) (t : State) => va_P D vwCl (wB cI cZ g u) t.heap) (Aw (wB cI cZ g x))) ([.ref g.1.1, .int p0] : List Value).toArray s 0 0 (Aw (wB cI cZ g x))) (F0 m 9 ls []) := by
    intro n
    induction n with
    | zero => intro v2 v3 z H locs ls hm _ _ _ _ _; exact absurd hm (Nat.not_lt_zero _)
    | succ n ih =>
      intro v2 v3 z H locs ls hm hF hP hD hS hl
      have hF := hF.trans (L_B_useLast_9_eq g p0 n v2 v3 z)
      refine lv_iload_n hx hb d_B_useLast_9 rfl (lv_at hl 3 rfl) ?_
      refine lv_iload_n hx hb d_B_useLast_10 rfl (lv_at hl 2 rfl) ?_
      refine lv_icmp_ge (tgt := 32) hx hb d_B_useLast_11 (by decide) (fun c_11 => ?_) (fun c_11 => ?_)
      · have hF := hF.trans (if_pos c_11)
        exact W.vret hx hb hr (fun t ht hW => ⟨⟨z, rfl, hF.symm, by dsimp only; rw [ht]; exact hP⟩, hS.F ht⟩) hS.2.2 d_B_useLast_32
      · have hF := hF.trans (if_neg c_11)
        refine lv_aload_n hx hb d_B_useLast_14 rfl (lv_at hl 0 rfl) ?_
        refine lv_iload_n hx hb d_B_useLast_15 rfl (lv_at hl 1 rfl) ?_
        refine lv_iload_n hx hb d_B_useLast_16 rfl (lv_at hl 3 rfl) ?_
        refine lv_isub hx hb d_B_useLast_17 ?_
        refine lv_iload_n hx hb d_B_useLast_18 rfl (lv_at hl 1 rfl) ?_
        refine lv_iload_n hx hb d_B_useLast_19 rfl (lv_at hl 3 rfl) ?_
        refine lv_isub hx hb d_B_useLast_20 ?_
        refine lv_iconst (v := 1) hx hb d_B_useLast_21 (by decide) ?_
        refine lv_isub hx hb d_B_useLast_22 ?_
        refine cwv_ (As := [.int (p0 - v3), .int ((p0 - v3) - (1 : Int32))]) (rest := []) (wldC := fun u => (wB cI cZ g u)) ⟨hx, hb, hml, hown, htb⟩ (c_B_swap l D cI cZ g hg z (p0 - v3) ((p0 - v3) - (1 : Int32))) (cwv (n := 2) htb cd_B_swap k_B_71 in_B_swap se_B_swap ini_B hd_B_swap ⟨Nat.le_of_ble_eq_true rfl, Nat.le_of_ble_eq_true rfl⟩) hK hP hD hS [0, 1, 2, 3, 4, 5] [] [0, 1, 2, 3, 4, 5] rfl rfl (by decide) (by decide) rfl (fun _ => rfl) (fun _ => rfl) (ci := 0) rfl rfl rfl hl.1 rfl (Nat.le_of_ble_eq_true rfl) d_B_useLast_23 ⟨Nat.zero_le _, Nat.zero_le _⟩ (fun u_23 H locs hw_23 hP hD hS => ?_)
        have hP : va_P D vwCl (wB cI cZ g u_23) H := hP
        have hD : va_D _ (wB cI cZ g u_23) := hD
        have hF := hF.trans (bnd_eq hw_23)
        refine lv_iinc (v := (v3 + 1)) (lv' := [(3, .int (v3 + 1)), (0, .ref g.1.1), (1, .int p0), (2, .int v2)]) hx hb d_B_useLast_26 hl (k := 3) rfl rfl (by decide) rfl (fun ls hl => ?_)
        refine lv_goto (tgt := 9) hx hb d_B_useLast_29 (by decide) ?_
        have hl := lv_sub (l' := [(0, .ref g.1.1), (1, .int p0), (2, .int v2), (3, .int (v3 + 1))]) hl [1, 2, 3, 0] rfl
        exact ih v2 (v3 + 1) u_23 _ _ _ (Nat.lt_of_lt_of_le (mu_dec c_11) (Nat.le_of_lt_succ hm)) hF hP hD hS hl
  have hl := lv_entry ([.ref g.1.1, .int p0]) (n := 4) (Nat.le_of_ble_eq_true rfl)
  rw [lg_entry_eq]
  generalize (lg_sl ([.ref g.1.1, .int p0]) ++ List.replicate (4 - (lg_sl ([.ref g.1.1, .int p0])).length) Slot.unset).toArray = ls at hl ⊢
  have hl : lv_has ls 4 [(0, .ref g.1.1), (1, .int p0)] := hl
  have hF := M_B_useLast_eq g x p0
  refine lv_iload_n hx hb d_B_useLast_0 rfl (lv_at hl 1 rfl) ?_
  refine lv_aload_n hx hb d_B_useLast_1 rfl (lv_at hl 0 rfl) ?_
  refine va_get (D := D) (ci := 0) (v := .int g.2.1.2) (C := R_B) (T := T_B) (N := 7) hx hb htb i_B hown hK hP 0 rfl rfl 1 (by decide) (htb _ k_B_21) (fun _ h9 => h9) rfl d_B_useLast_2 ?_
  refine lv_irem hx hb d_B_useLast_5 hg.2.2.2 ?_
  refine lv_istore_n (lv' := [(2, .int (p0 - p0 / g.2.1.2 * g.2.1.2)), (0, .ref g.1.1), (1, .int p0)]) hx hb d_B_useLast_6 rfl hl (by decide) rfl (fun ls hl => ?_)
  refine lv_iconst (v := 0) hx hb d_B_useLast_7 (by decide) ?_
  refine lv_istore_n (lv' := [(3, .int (0 : Int32)), (2, .int (p0 - p0 / g.2.1.2 * g.2.1.2)), (0, .ref g.1.1), (1, .int p0)]) hx hb d_B_useLast_8 rfl hl (by decide) rfl (fun ls hl => ?_)
  have hl := lv_sub (l' := [(0, .ref g.1.1), (1, .int p0), (2, .int (p0 - p0 / g.2.1.2 * g.2.1.2)), (3, .int (0 : Int32))]) hl [2, 3, 1, 0] rfl
  exact cut_9 (mu (0 : Int32) (p0 - p0 / g.2.1.2 * g.2.1.2) + 1) (p0 - p0 / g.2.1.2 * g.2.1.2) (0 : Int32) x _ _ _ (Nat.lt_succ_self _) hF hP hD hS hl

def M_B_put (g : GB) (x : Bk) (p0 p1 p2 p3 p4 : Int32) : Bk := (if p0 < 0 then x else (if (nI g.2.2.1) ≤ p0 then x else (bnd (M_B_isFull g x p0) (fun r_15 => (if r_15 = 0 then (bnd (M_B_isSlot g x ((p0 * g.2.1.2) + (x.1 p0.toNatClampNeg))) (fun r_40 => (if r_40 = 0 then x else (bnd (M_B_useLast g ((upd x.1 p0.toNatClampNeg ((x.1 p0.toNatClampNeg) + (1 : Int32))), (upd x.2.1 ((p0 * g.2.1.2) + (x.1 p0.toNatClampNeg)).toNatClampNeg p1), (upd x.2.2.1 ((p0 * g.2.1.2) + (x.1 p0.toNatClampNeg)).toNatClampNeg p2), (upd x.2.2.2.1 ((p0 * g.2.1.2) + (x.1 p0.toNatClampNeg)).toNatClampNeg p4), (upd x.2.2.2.2 ((p0 * g.2.1.2) + (x.1 p0.toNatClampNeg)).toNatClampNeg (vp_nar .boolean p3))) ((p0 * g.2.1.2) + (x.1 p0.toNatClampNeg))) (fun u_93 => u_93))))) else x)))))
theorem M_B_put_eq (g : GB) (x : Bk) (p0 p1 p2 p3 p4 : Int32) : M_B_put g x p0 p1 p2 p3 p4 = (if p0 < 0 then x else (if (nI g.2.2.1) ≤ p0 then x else (bnd (M_B_isFull g x p0) (fun r_15 => (if r_15 = 0 then (bnd (M_B_isSlot g x ((p0 * g.2.1.2) + (x.1 p0.toNatClampNeg))) (fun r_40 => (if r_40 = 0 then x else (bnd (M_B_useLast g ((upd x.1 p0.toNatClampNeg ((x.1 p0.toNatClampNeg) + (1 : Int32))), (upd x.2.1 ((p0 * g.2.1.2) + (x.1 p0.toNatClampNeg)).toNatClampNeg p1), (upd x.2.2.1 ((p0 * g.2.1.2) + (x.1 p0.toNatClampNeg)).toNatClampNeg p2), (upd x.2.2.2.1 ((p0 * g.2.1.2) + (x.1 p0.toNatClampNeg)).toNatClampNeg p4), (upd x.2.2.2.2 ((p0 * g.2.1.2) + (x.1 p0.toNatClampNeg)).toNatClampNeg (vp_nar .boolean p3))) ((p0 * g.2.1.2) + (x.1 p0.toNatClampNeg))) (fun u_93 => u_93))))) else x))))) := rfl
abbrev w_B_put : List Cond := .code y_B_put b_B_put 7 none :: tbW
abbrev rm_B_put : Room := { frames := 3, cells := 0, slots := 0, locals := 70 }
set_option maxHeartbeats 4000000 in
set_option maxRecDepth 100000 in
theorem c_B_put (l : Launch) (D : va_G) (cI cZ : ClassId) (g : GB) (hg : okB g) (x : Bk) (p0 p1 p2 p3 p4 : Int32) : Met l y_B_put w_B_put rm_B_put (PcW D vwCl (tyK cI cZ) [.ref g.1.1, .int p0, .int p1, .int p2, .int p3, .int p4] (wB cI cZ g x)) (va_Qv (fun (u : Bk) => u = M_B_put g x p0 p1 p2 p3 p4) (fun (u : Bk) (t : State) => va_P D vwCl (wB cI cZ g u) t.heap) (Aw (wB cI cZ g x))) 0 0 (Aw (wB cI cZ g x)) := by
  refine Met.ofW (cc := b_B_put) (maxL := 7) (ret := none) (by decide) rfl ?_
  intro p e s m args below meth c s₁ B hml hv
  obtain ⟨rfl, hP, hK, hD0⟩ := hv
  have hx := B.exec
  have hb := B.bytes
  have hr := B.returns
  have htb : ∀ w ∈ tbW, w.before _ s = true := fun w h => atoms_spec (ws := w_B_put) B.pre w (List.mem_cons_of_mem _ h)
  have hown : s.vm.findClass R_B = some m.cls := findClass_of_methodNamed B.named
  have hlocks := B.notSynchronized
  have hD : va_D (Aw (wB cI cZ g x)) (wB cI cZ g x) := ⟨hD0.1, fun k q hk => ⟨k, q.2, hk⟩⟩
  have hS : va_S (Aw (wB cI cZ g x)) s.heap s.heap [] := va_S.rf
  have hl := lv_entry ([.ref g.1.1, .int p0, .int p1, .int p2, .int p3, .int p4]) (n := 7) (Nat.le_of_ble_eq_true rfl)
  rw [lg_entry_eq]
  generalize (lg_sl ([.ref g.1.1, .int p0, .int p1, .int p2, .int p3, .int p4]) ++ List.replicate (7 - (lg_sl ([.ref g.1.1, .int p0, .int p1, .int p2, .int p3, .int p4])).length) Slot.unset).toArray = ls at hl ⊢
  have hl : lv_has ls 7 [(0, .ref g.1.1), (1, .int p0), (2, .int p1), (3, .int p2), (4, .int p3), (5, .int p4)] := hl
  have hF := M_B_put_eq g x p0 p1 p2 p3 p4
  refine lv_iload_n hx hb d_B_put_0 rfl (lv_at hl 1 rfl) ?_
  refine lv_if_lt (tgt := 21) hx hb d_B_put_1 (by decide) (fun c_1 => ?_) (fun c_1 => ?_)
  · have hF := hF.trans (if_pos c_1)
    exact W.vret hx hb hr (fun t ht hW => ⟨⟨x, rfl, hF.symm, by dsimp only; rw [ht]; exact hP⟩, hS.F ht⟩) hS.2.2 d_B_put_21
  · have hF := hF.trans (if_neg c_1)
    refine lv_iload_n hx hb d_B_put_4 rfl (lv_at hl 1 rfl) ?_
    refine lv_aload_n hx hb d_B_put_5 rfl (lv_at hl 0 rfl) ?_
    refine va_get (D := D) (ci := 0) (v := .ref g.1.2.1) (C := R_B) (T := T_B) (N := 7) hx hb htb i_B hown hK hP 0 rfl rfl 2 (by decide) (htb _ k_B_24) (fun _ h9 => h9) rfl d_B_put_6 ?_
    refine va_alen hx hb hK hP 1 0 rfl rfl (v := nI g.2.2.1) rfl d_B_put_9 ?_
    refine lv_icmp_ge (tgt := 21) hx hb d_B_put_10 (by decide) (fun c_10 => ?_) (fun c_10 => ?_)
    · have hF := hF.trans (if_pos c_10)
      exact W.vret hx hb hr (fun t ht hW => ⟨⟨x, rfl, hF.symm, by dsimp only; rw [ht]; exact hP⟩, hS.F ht⟩) hS.2.2 d_B_put_21
    · have hF := hF.trans (if_neg c_10)
      refine lv_aload_n hx hb d_B_put_13 rfl (lv_at hl 0 rfl) ?_
      refine lv_iload_n hx hb d_B_put_14 rfl (lv_at hl 1 rfl) ?_
      refine cpi (As := [.int p0]) (rest := []) ⟨hx, hb, hml, hown, htb⟩ (c_B_isFull l D cI cZ g hg x p0) (cwv (n := 1) htb cd_B_isFull k_B_64 in_B_isFull se_B_isFull ini_B hd_B_isFull ⟨Nat.le_of_ble_eq_true rfl, Nat.le_of_ble_eq_true rfl⟩) hK hP [0, 1, 2, 3, 4, 5] rfl (ci := 0) rfl rfl rfl hl.1 rfl (Nat.le_of_ble_eq_true rfl) d_B_put_15 ⟨Nat.zero_le _, Nat.zero_le _⟩ (fun r_15 hw_15 => ?_)
      have hF := hF.trans (bnd_eq hw_15)
      refine lv_if_eq (tgt := 22) hx hb d_B_put_18 (by decide) (fun c_18 => ?_) (fun c_18 => ?_)
      · have hF := hF.trans (if_pos c_18)
        refine lv_iload_n hx hb d_B_put_22 rfl (lv_at hl 1 rfl) ?_
        refine lv_aload_n hx hb d_B_put_23 rfl (lv_at hl 0 rfl) ?_
        refine va_get (D := D) (ci := 0) (v := .int g.2.1.2) (C := R_B) (T := T_B) (N := 7) hx hb htb i_B hown hK hP 0 rfl rfl 1 (by decide) (htb _ k_B_21) (fun _ h9 => h9) rfl d_B_put_24 ?_
        refine lv_imul hx hb d_B_put_27 ?_
        refine lv_aload_n hx hb d_B_put_28 rfl (lv_at hl 0 rfl) ?_
        refine va_get (D := D) (ci := 0) (v := .ref g.1.2.1) (C := R_B) (T := T_B) (N := 7) hx hb htb i_B hown hK hP 0 rfl rfl 2 (by decide) (htb _ k_B_24) (fun _ h9 => h9) rfl d_B_put_29 ?_
        refine lv_iload_n hx hb d_B_put_32 rfl (lv_at hl 1 rfl) ?_
        refine va_iald hx hb hK hP 1 0 rfl rfl (in_ok hg.1 c_1 c_10) d_B_put_33 ?_
        refine lv_iadd hx hb d_B_put_34 ?_
        refine lv_istore (lv' := [(6, .int ((p0 * g.2.1.2) + (x.1 p0.toNatClampNeg))), (0, .ref g.1.1), (1, .int p0), (2, .int p1), (3, .int p2), (4, .int p3), (5, .int p4)]) hx hb d_B_put_35 hl (by decide) rfl (fun ls hl => ?_)
        refine lv_aload_n hx hb d_B_put_37 rfl (lv_at hl 1 rfl) ?_
        refine lv_iload hx hb d_B_put_38 (lv_at hl 0 rfl) ?_
        refine cpi (As := [.int ((p0 * g.2.1.2) + (x.1 p0.toNatClampNeg))]) (rest := []) ⟨hx, hb, hml, hown, htb⟩ (c_B_isSlot l D cI cZ g hg x ((p0 * g.2.1.2) + (x.1 p0.toNatClampNeg))) (cwv (n := 1) htb cd_B_isSlot k_B_48 in_B_isSlot se_B_isSlot ini_B hd_B_isSlot ⟨Nat.le_of_ble_eq_true rfl, Nat.le_of_ble_eq_true rfl⟩) hK hP [0, 1, 2, 3, 4, 5] rfl (ci := 0) rfl rfl rfl hl.1 rfl (Nat.le_of_ble_eq_true rfl) d_B_put_40 ⟨Nat.zero_le _, Nat.zero_le _⟩ (fun r_40 hw_40 => ?_)
        have hF := hF.trans (bnd_eq hw_40)
        refine lv_if_eq (tgt := 96) hx hb d_B_put_43 (by decide) (fun c_43 => ?_) (fun c_43 => ?_)
        · have hF := hF.trans (if_pos c_43)
          exact W.vret hx hb hr (fun t ht hW => ⟨⟨x, rfl, hF.symm, by dsimp only; rw [ht]; exact hP⟩, hS.F ht⟩) hS.2.2 d_B_put_96
        · have hF := hF.trans (if_neg c_43)
          refine lv_aload_n hx hb d_B_put_46 rfl (lv_at hl 1 rfl) ?_
          refine va_get (D := D) (ci := 0) (v := .ref g.1.2.2.1) (C := R_B) (T := T_B) (N := 7) hx hb htb i_B hown hK hP 0 rfl rfl 3 (by decide) (htb _ k_B_28) (fun _ h9 => h9) rfl d_B_put_47 ?_
          refine lv_iload hx hb d_B_put_50 (lv_at hl 0 rfl) ?_
          refine lv_iload_n hx hb d_B_put_52 rfl (lv_at hl 3 rfl) ?_
          refine va_iast hx hb hK hP hD hS 2 0 rfl rfl (isSlot_in hg hw_40 c_43) d_B_put_53 (fun H locs hP hD hS => ?_)
          have hP : va_P D vwCl (wB cI cZ g (x.1, (upd x.2.1 ((p0 * g.2.1.2) + (x.1 p0.toNatClampNeg)).toNatClampNeg p1), x.2.2.1, x.2.2.2.1, x.2.2.2.2)) H := hP
          have hD : va_D _ (wB cI cZ g (x.1, (upd x.2.1 ((p0 * g.2.1.2) + (x.1 p0.toNatClampNeg)).toNatClampNeg p1), x.2.2.1, x.2.2.2.1, x.2.2.2.2)) := hD
          refine lv_aload_n hx hb d_B_put_54 rfl (lv_at hl 1 rfl) ?_
          refine va_get (D := D) (ci := 0) (v := .ref g.1.2.2.2.1) (C := R_B) (T := T_B) (N := 7) hx hb htb i_B hown hK hP 0 rfl rfl 4 (by decide) (htb _ k_B_31) (fun _ h9 => h9) rfl d_B_put_55 ?_
          refine lv_iload hx hb d_B_put_58 (lv_at hl 0 rfl) ?_
          refine lv_iload_n hx hb d_B_put_60 rfl (lv_at hl 4 rfl) ?_
          refine va_iast hx hb hK hP hD hS 3 0 rfl rfl (isSlot_in hg hw_40 c_43) d_B_put_61 (fun H locs hP hD hS => ?_)
          have hP : va_P D vwCl (wB cI cZ g (x.1, (upd x.2.1 ((p0 * g.2.1.2) + (x.1 p0.toNatClampNeg)).toNatClampNeg p1), (upd x.2.2.1 ((p0 * g.2.1.2) + (x.1 p0.toNatClampNeg)).toNatClampNeg p2), x.2.2.2.1, x.2.2.2.2)) H := hP
          have hD : va_D _ (wB cI cZ g (x.1, (upd x.2.1 ((p0 * g.2.1.2) + (x.1 p0.toNatClampNeg)).toNatClampNeg p1), (upd x.2.2.1 ((p0 * g.2.1.2) + (x.1 p0.toNatClampNeg)).toNatClampNeg p2), x.2.2.2.1, x.2.2.2.2)) := hD
          refine lv_aload_n hx hb d_B_put_62 rfl (lv_at hl 1 rfl) ?_
          refine va_get (D := D) (ci := 0) (v := .ref g.1.2.2.2.2.2) (C := R_B) (T := T_B) (N := 7) hx hb htb i_B hown hK hP 0 rfl rfl 6 (by decide) (htb _ k_B_37) (fun _ h9 => h9) rfl d_B_put_63 ?_
          refine lv_iload hx hb d_B_put_66 (lv_at hl 0 rfl) ?_
          refine lv_iload hx hb d_B_put_68 (lv_at hl 5 rfl) ?_
          refine va_zast hx hb hK hP hD hS 5 1 rfl rfl (isSlot_in hg hw_40 c_43) d_B_put_70 (fun H locs hP hD hS => ?_)
          have hP : va_P D vwCl (wB cI cZ g (x.1, (upd x.2.1 ((p0 * g.2.1.2) + (x.1 p0.toNatClampNeg)).toNatClampNeg p1), (upd x.2.2.1 ((p0 * g.2.1.2) + (x.1 p0.toNatClampNeg)).toNatClampNeg p2), x.2.2.2.1, (upd x.2.2.2.2 ((p0 * g.2.1.2) + (x.1 p0.toNatClampNeg)).toNatClampNeg (vp_nar .boolean p3)))) H := hP
          have hD : va_D _ (wB cI cZ g (x.1, (upd x.2.1 ((p0 * g.2.1.2) + (x.1 p0.toNatClampNeg)).toNatClampNeg p1), (upd x.2.2.1 ((p0 * g.2.1.2) + (x.1 p0.toNatClampNeg)).toNatClampNeg p2), x.2.2.2.1, (upd x.2.2.2.2 ((p0 * g.2.1.2) + (x.1 p0.toNatClampNeg)).toNatClampNeg (vp_nar .boolean p3)))) := hD
          refine lv_aload_n hx hb d_B_put_71 rfl (lv_at hl 1 rfl) ?_
          refine va_get (D := D) (ci := 0) (v := .ref g.1.2.2.2.2.1) (C := R_B) (T := T_B) (N := 7) hx hb htb i_B hown hK hP 0 rfl rfl 5 (by decide) (htb _ k_B_34) (fun _ h9 => h9) rfl d_B_put_72 ?_
          refine lv_iload hx hb d_B_put_75 (lv_at hl 0 rfl) ?_
          refine lv_iload hx hb d_B_put_77 (lv_at hl 6 rfl) ?_
          refine va_iast hx hb hK hP hD hS 4 0 rfl rfl (isSlot_in hg hw_40 c_43) d_B_put_79 (fun H locs hP hD hS => ?_)
          have hP : va_P D vwCl (wB cI cZ g (x.1, (upd x.2.1 ((p0 * g.2.1.2) + (x.1 p0.toNatClampNeg)).toNatClampNeg p1), (upd x.2.2.1 ((p0 * g.2.1.2) + (x.1 p0.toNatClampNeg)).toNatClampNeg p2), (upd x.2.2.2.1 ((p0 * g.2.1.2) + (x.1 p0.toNatClampNeg)).toNatClampNeg p4), (upd x.2.2.2.2 ((p0 * g.2.1.2) + (x.1 p0.toNatClampNeg)).toNatClampNeg (vp_nar .boolean p3)))) H := hP
          have hD : va_D _ (wB cI cZ g (x.1, (upd x.2.1 ((p0 * g.2.1.2) + (x.1 p0.toNatClampNeg)).toNatClampNeg p1), (upd x.2.2.1 ((p0 * g.2.1.2) + (x.1 p0.toNatClampNeg)).toNatClampNeg p2), (upd x.2.2.2.1 ((p0 * g.2.1.2) + (x.1 p0.toNatClampNeg)).toNatClampNeg p4), (upd x.2.2.2.2 ((p0 * g.2.1.2) + (x.1 p0.toNatClampNeg)).toNatClampNeg (vp_nar .boolean p3)))) := hD
          refine lv_aload_n hx hb d_B_put_80 rfl (lv_at hl 1 rfl) ?_
          refine va_get (D := D) (ci := 0) (v := .ref g.1.2.1) (C := R_B) (T := T_B) (N := 7) hx hb htb i_B hown hK hP 0 rfl rfl 2 (by decide) (htb _ k_B_24) (fun _ h9 => h9) rfl d_B_put_81 ?_
          refine lv_iload_n hx hb d_B_put_84 rfl (lv_at hl 2 rfl) ?_
          refine lv_dup2_11 hx hb d_B_put_85 rfl rfl ?_
          refine va_iald hx hb hK hP 1 0 rfl rfl (in_ok hg.1 c_1 c_10) d_B_put_86 ?_
          refine lv_iconst (v := 1) hx hb d_B_put_87 (by decide) ?_
          refine lv_iadd hx hb d_B_put_88 ?_
          refine va_iast hx hb hK hP hD hS 1 0 rfl rfl (in_ok hg.1 c_1 c_10) d_B_put_89 (fun H locs hP hD hS => ?_)
          have hP : va_P D vwCl (wB cI cZ g ((upd x.1 p0.toNatClampNeg ((x.1 p0.toNatClampNeg) + (1 : Int32))), (upd x.2.1 ((p0 * g.2.1.2) + (x.1 p0.toNatClampNeg)).toNatClampNeg p1), (upd x.2.2.1 ((p0 * g.2.1.2) + (x.1 p0.toNatClampNeg)).toNatClampNeg p2), (upd x.2.2.2.1 ((p0 * g.2.1.2) + (x.1 p0.toNatClampNeg)).toNatClampNeg p4), (upd x.2.2.2.2 ((p0 * g.2.1.2) + (x.1 p0.toNatClampNeg)).toNatClampNeg (vp_nar .boolean p3)))) H := hP
          have hD : va_D _ (wB cI cZ g ((upd x.1 p0.toNatClampNeg ((x.1 p0.toNatClampNeg) + (1 : Int32))), (upd x.2.1 ((p0 * g.2.1.2) + (x.1 p0.toNatClampNeg)).toNatClampNeg p1), (upd x.2.2.1 ((p0 * g.2.1.2) + (x.1 p0.toNatClampNeg)).toNatClampNeg p2), (upd x.2.2.2.1 ((p0 * g.2.1.2) + (x.1 p0.toNatClampNeg)).toNatClampNeg p4), (upd x.2.2.2.2 ((p0 * g.2.1.2) + (x.1 p0.toNatClampNeg)).toNatClampNeg (vp_nar .boolean p3)))) := hD
          refine lv_aload_n hx hb d_B_put_90 rfl (lv_at hl 1 rfl) ?_
          refine lv_iload hx hb d_B_put_91 (lv_at hl 0 rfl) ?_
          refine cwv_ (As := [.int ((p0 * g.2.1.2) + (x.1 p0.toNatClampNeg))]) (rest := []) (wldC := fun u => (wB cI cZ g u)) ⟨hx, hb, hml, hown, htb⟩ (c_B_useLast l D cI cZ g hg ((upd x.1 p0.toNatClampNeg ((x.1 p0.toNatClampNeg) + (1 : Int32))), (upd x.2.1 ((p0 * g.2.1.2) + (x.1 p0.toNatClampNeg)).toNatClampNeg p1), (upd x.2.2.1 ((p0 * g.2.1.2) + (x.1 p0.toNatClampNeg)).toNatClampNeg p2), (upd x.2.2.2.1 ((p0 * g.2.1.2) + (x.1 p0.toNatClampNeg)).toNatClampNeg p4), (upd x.2.2.2.2 ((p0 * g.2.1.2) + (x.1 p0.toNatClampNeg)).toNatClampNeg (vp_nar .boolean p3))) ((p0 * g.2.1.2) + (x.1 p0.toNatClampNeg))) (cwv (n := 1) htb cd_B_useLast k_B_67 in_B_useLast se_B_useLast ini_B hd_B_useLast ⟨Nat.le_of_ble_eq_true rfl, Nat.le_of_ble_eq_true rfl⟩) hK hP hD hS [0, 1, 2, 3, 4, 5] [] [0, 1, 2, 3, 4, 5] rfl rfl (by decide) (by decide) rfl (fun _ => rfl) (fun _ => rfl) (ci := 0) rfl rfl rfl hl.1 rfl (Nat.le_of_ble_eq_true rfl) d_B_put_93 ⟨Nat.zero_le _, Nat.zero_le _⟩ (fun u_93 H locs hw_93 hP hD hS => ?_)
          have hP : va_P D vwCl (wB cI cZ g u_93) H := hP
          have hD : va_D _ (wB cI cZ g u_93) := hD
          have hF := hF.trans (bnd_eq hw_93)
          exact W.vret hx hb hr (fun t ht hW => ⟨⟨u_93, rfl, hF.symm, by dsimp only; rw [ht]; exact hP⟩, hS.F ht⟩) hS.2.2 d_B_put_96
      · have hF := hF.trans (if_neg c_18)
        exact W.vret hx hb hr (fun t ht hW => ⟨⟨x, rfl, hF.symm, by dsimp only; rw [ht]; exact hP⟩, hS.F ht⟩) hS.2.2 d_B_put_21

def L_B_drop_47 (g : GB) (p0 : Int32) : Nat → Int32 → Int32 → Int32 → Bk → Bk
  | 0, _, _, _, z => z
  | n + 1, v2, v3, v4, z => (if v3 ≤ v4 then (bnd (M_B_clean g z v3) (fun u_71 => ((upd u_71.1 v2.toNatClampNeg ((u_71.1 v2.toNatClampNeg) - (1 : Int32))), u_71.2.1, u_71.2.2.1, u_71.2.2.2.1, u_71.2.2.2.2))) else (bnd (M_B_swap g z v4 (v4 + (1 : Int32))) (fun u_60 => L_B_drop_47 g p0 n v2 v3 (v4 + 1) u_60)))
theorem L_B_drop_47_eq (g : GB) (p0 : Int32) (n : Nat) (v2 v3 v4 : Int32) (z : Bk) : L_B_drop_47 g p0 (n + 1) v2 v3 v4 z = (if v3 ≤ v4 then (bnd (M_B_clean g z v3) (fun u_71 => ((upd u_71.1 v2.toNatClampNeg ((u_71.1 v2.toNatClampNeg) - (1 : Int32))), u_71.2.1, u_71.2.2.1, u_71.2.2.2.1, u_71.2.2.2.2))) else (bnd (M_B_swap g z v4 (v4 + (1 : Int32))) (fun u_60 => L_B_drop_47 g p0 n v2 v3 (v4 + 1) u_60))) := by first | rfl | rw [L_B_drop_47]
def L_B_drop_19 (g : GB) (p0 : Int32) (v2 : Int32) (z : Bk) : Bk := (bnd (M_B_oldest g z v2) (fun r_21 => (if v2 < 0 then z else (if (nI g.2.2.1) ≤ v2 then z else (if p0 ≤ r_21 then L_B_drop_47 g p0 (mu p0 r_21 + 1) v2 r_21 p0 z else z)))))
theorem L_B_drop_19_eq (g : GB) (p0 : Int32) (v2 : Int32) (z : Bk) : L_B_drop_19 g p0 v2 z = (bnd (M_B_oldest g z v2) (fun r_21 => (if v2 < 0 then z else (if (nI g.2.2.1) ≤ v2 then z else (if p0 ≤ r_21 then L_B_drop_47 g p0 (mu p0 r_21 + 1) v2 r_21 p0 z else z))))) := rfl
def M_B_drop (g : GB) (x : Bk) (p0 : Int32) : Bk := (bnd (M_B_isSlot g x p0) (fun r_2 => (if r_2 = 0 then L_B_drop_19 g p0 (-1 : Int32) x else L_B_drop_19 g p0 (p0 / g.2.1.2) x)))
theorem M_B_drop_eq (g : GB) (x : Bk) (p0 : Int32) : M_B_drop g x p0 = (bnd (M_B_isSlot g x p0) (fun r_2 => (if r_2 = 0 then L_B_drop_19 g p0 (-1 : Int32) x else L_B_drop_19 g p0 (p0 / g.2.1.2) x))) := rfl
abbrev w_B_drop : List Cond := .code y_B_drop b_B_drop 5 none :: tbW
abbrev rm_B_drop : Room := { frames := 2, cells := 0, slots := 0, locals := 47 }
set_option maxHeartbeats 4000000 in
set_option maxRecDepth 100000 in
theorem c_B_drop (l : Launch) (D : va_G) (cI cZ : ClassId) (g : GB) (hg : okB g) (x : Bk) (p0 : Int32) : Met l y_B_drop w_B_drop rm_B_drop (PcW D vwCl (tyK cI cZ) [.ref g.1.1, .int p0] (wB cI cZ g x)) (va_Qv (fun (u : Bk) => u = M_B_drop g x p0) (fun (u : Bk) (t : State) => va_P D vwCl (wB cI cZ g u) t.heap) (Aw (wB cI cZ g x))) 0 0 (Aw (wB cI cZ g x)) := by
  refine Met.ofW (cc := b_B_drop) (maxL := 5) (ret := none) (by decide) rfl ?_
  intro p e s m args below meth c s₁ B hml hv
  obtain ⟨rfl, hP, hK, hD0⟩ := hv
  have hx := B.exec
  have hb := B.bytes
  have hr := B.returns
  have htb : ∀ w ∈ tbW, w.before _ s = true := fun w h => atoms_spec (ws := w_B_drop) B.pre w (List.mem_cons_of_mem _ h)
  have hown : s.vm.findClass R_B = some m.cls := findClass_of_methodNamed B.named
  have hlocks := B.notSynchronized
  have hD : va_D (Aw (wB cI cZ g x)) (wB cI cZ g x) := ⟨hD0.1, fun k q hk => ⟨k, q.2, hk⟩⟩
  have hS : va_S (Aw (wB cI cZ g x)) s.heap s.heap [] := va_S.rf
  have cut_47 : ∀ (n : Nat) (v2 v3 v4 : Int32) (z : Bk) (H : Heap) (locs : List Loc) (ls : Array Slot), mu v4 v3 < n → vp_in v2 g.2.2.1 → M_B_drop g x p0 = L_B_drop_47 g p0 n v2 v3 v4 z → va_P D vwCl (wB cI cZ g z) H → va_D (Aw (wB cI cZ g x)) (wB cI cZ g z) → va_S (Aw (wB cI cZ g x)) s.heap H locs → lv_has ls 5 [(0, .ref g.1.1), (1, .int p0), (2, .int v2), (3, .int v3), (4, .int v4)] → W p l e (headSpec w_B_drop rm_B_drop).room s m ([.ref g.1.1, .int p0] : List Value).toArray below meth c H locs 0 0 (MQ below (va_Qv (fun (u : Bk) => u = M_B_drop g x p0) (fun (u : Bk) (t : State) => va_P D vwCl (wB cI cZ g u) t.heap) (Aw (wB cI cZ g x))) ([.ref g.1.1, .int p0] : List Value).toArray s 0 0 (Aw (wB cI cZ g x))) (F0 m 47 ls []) := by
    intro n
    induction n with
    | zero => intro v2 v3 v4 z H locs ls hm _ _ _ _ _ _; exact absurd hm (Nat.not_lt_zero _)
    | succ n ih =>
      intro v2 v3 v4 z H locs ls hm h1 hF hP hD hS hl
      have hF := hF.trans (L_B_drop_47_eq g p0 n v2 v3 v4 z)
      refine lv_iload hx hb d_B_drop_47 (lv_at hl 4 rfl) ?_
      refine lv_iload_n hx hb d_B_drop_49 rfl (lv_at hl 3 rfl) ?_
      refine lv_icmp_ge (tgt := 69) hx hb d_B_drop_50 (by decide) (fun c_50 => ?_) (fun c_50 => ?_)
      · have hF := hF.trans (if_pos c_50)
        refine lv_aload_n hx hb d_B_drop_69 rfl (lv_at hl 0 rfl) ?_
        refine lv_iload_n hx hb d_B_drop_70 rfl (lv_at hl 3 rfl) ?_
        refine cwv_ (As := [.int v3]) (rest := []) (wldC := fun u => (wB cI cZ g u)) ⟨hx, hb, hml, hown, htb⟩ (c_B_clean l D cI cZ g hg z v3) (cwv (n := 1) htb cd_B_clean k_B_78 in_B_clean se_B_clean ini_B hd_B_clean ⟨Nat.le_of_ble_eq_true rfl, Nat.le_of_ble_eq_true rfl⟩) hK hP hD hS [0, 1, 2, 3, 4, 5] [] [0, 1, 2, 3, 4, 5] rfl rfl (by decide) (by decide) rfl (fun _ => rfl) (fun _ => rfl) (ci := 0) rfl rfl rfl hl.1 rfl (Nat.le_of_ble_eq_true rfl) d_B_drop_71 ⟨Nat.zero_le _, Nat.zero_le _⟩ (fun u_71 H locs hw_71 hP hD hS => ?_)
        have hP : va_P D vwCl (wB cI cZ g u_71) H := hP
        have hD : va_D _ (wB cI cZ g u_71) := hD
        have hF := hF.trans (bnd_eq hw_71)
        refine lv_aload_n hx hb d_B_drop_74 rfl (lv_at hl 0 rfl) ?_
        refine va_get (D := D) (ci := 0) (v := .ref g.1.2.1) (C := R_B) (T := T_B) (N := 7) hx hb htb i_B hown hK hP 0 rfl rfl 2 (by decide) (htb _ k_B_24) (fun _ h9 => h9) rfl d_B_drop_75 ?_
        refine lv_iload_n hx hb d_B_drop_78 rfl (lv_at hl 2 rfl) ?_
        refine lv_dup2_11 hx hb d_B_drop_79 rfl rfl ?_
        refine va_iald hx hb hK hP 1 0 rfl rfl h1 d_B_drop_80 ?_
        refine lv_iconst (v := 1) hx hb d_B_drop_81 (by decide) ?_
        refine lv_isub hx hb d_B_drop_82 ?_
        refine va_iast hx hb hK hP hD hS 1 0 rfl rfl h1 d_B_drop_83 (fun H locs hP hD hS => ?_)
        have hP : va_P D vwCl (wB cI cZ g ((upd u_71.1 v2.toNatClampNeg ((u_71.1 v2.toNatClampNeg) - (1 : Int32))), u_71.2.1, u_71.2.2.1, u_71.2.2.2.1, u_71.2.2.2.2)) H := hP
        have hD : va_D _ (wB cI cZ g ((upd u_71.1 v2.toNatClampNeg ((u_71.1 v2.toNatClampNeg) - (1 : Int32))), u_71.2.1, u_71.2.2.1, u_71.2.2.2.1, u_71.2.2.2.2)) := hD
        exact W.vret hx hb hr (fun t ht hW => ⟨⟨((upd u_71.1 v2.toNatClampNeg ((u_71.1 v2.toNatClampNeg) - (1 : Int32))), u_71.2.1, u_71.2.2.1, u_71.2.2.2.1, u_71.2.2.2.2), rfl, hF.symm, by dsimp only; rw [ht]; exact hP⟩, hS.F ht⟩) hS.2.2 d_B_drop_84
      · have hF := hF.trans (if_neg c_50)
        refine lv_aload_n hx hb d_B_drop_53 rfl (lv_at hl 0 rfl) ?_
        refine lv_iload hx hb d_B_drop_54 (lv_at hl 4 rfl) ?_
        refine lv_iload hx hb d_B_drop_56 (lv_at hl 4 rfl) ?_
        refine lv_iconst (v := 1) hx hb d_B_drop_58 (by decide) ?_
        refine lv_iadd hx hb d_B_drop_59 ?_
        refine cwv_ (As := [.int v4, .int (v4 + (1 : Int32))]) (rest := []) (wldC := fun u => (wB cI cZ g u)) ⟨hx, hb, hml, hown, htb⟩ (c_B_swap l D cI cZ g hg z v4 (v4 + (1 : Int32))) (cwv (n := 2) htb cd_B_swap k_B_71 in_B_swap se_B_swap ini_B hd_B_swap ⟨Nat.le_of_ble_eq_true rfl, Nat.le_of_ble_eq_true rfl⟩) hK hP hD hS [0, 1, 2, 3, 4, 5] [] [0, 1, 2, 3, 4, 5] rfl rfl (by decide) (by decide) rfl (fun _ => rfl) (fun _ => rfl) (ci := 0) rfl rfl rfl hl.1 rfl (Nat.le_of_ble_eq_true rfl) d_B_drop_60 ⟨Nat.zero_le _, Nat.zero_le _⟩ (fun u_60 H locs hw_60 hP hD hS => ?_)
        have hP : va_P D vwCl (wB cI cZ g u_60) H := hP
        have hD : va_D _ (wB cI cZ g u_60) := hD
        have hF := hF.trans (bnd_eq hw_60)
        refine lv_iinc (v := (v4 + 1)) (lv' := [(4, .int (v4 + 1)), (0, .ref g.1.1), (1, .int p0), (2, .int v2), (3, .int v3)]) hx hb d_B_drop_63 hl (k := 4) rfl rfl (by decide) rfl (fun ls hl => ?_)
        refine lv_goto (tgt := 47) hx hb d_B_drop_66 (by decide) ?_
        have hl := lv_sub (l' := [(0, .ref g.1.1), (1, .int p0), (2, .int v2), (3, .int v3), (4, .int (v4 + 1))]) hl [1, 2, 3, 4, 0] rfl
        exact ih v2 v3 (v4 + 1) u_60 _ _ _ (Nat.lt_of_lt_of_le (mu_dec c_50) (Nat.le_of_lt_succ hm)) h1 hF hP hD hS hl
  have cut_19 : ∀ (v2 : Int32) (z : Bk) (H : Heap) (locs : List Loc) (ls : Array Slot), M_B_drop g x p0 = L_B_drop_19 g p0 v2 z → va_P D vwCl (wB cI cZ g z) H → va_D (Aw (wB cI cZ g x)) (wB cI cZ g z) → va_S (Aw (wB cI cZ g x)) s.heap H locs → lv_has ls 5 [(0, .ref g.1.1), (1, .int p0), (2, .int v2)] → W p l e (headSpec w_B_drop rm_B_drop).room s m ([.ref g.1.1, .int p0] : List Value).toArray below meth c H locs 0 0 (MQ below (va_Qv (fun (u : Bk) => u = M_B_drop g x p0) (fun (u : Bk) (t : State) => va_P D vwCl (wB cI cZ g u) t.heap) (Aw (wB cI cZ g x))) ([.ref g.1.1, .int p0] : List Value).toArray s 0 0 (Aw (wB cI cZ g x))) (F0 m 19 ls []) := by
    intro v2 z H locs ls hF hP hD hS hl
    have hF := hF.trans (L_B_drop_19_eq g p0 v2 z)
    refine lv_aload_n hx hb d_B_drop_19 rfl (lv_at hl 0 rfl) ?_
    refine lv_iload_n hx hb d_B_drop_20 rfl (lv_at hl 2 rfl) ?_
    refine cpi (As := [.int v2]) (rest := []) ⟨hx, hb, hml, hown, htb⟩ (c_B_oldest l D cI cZ g hg z v2) (cwv (n := 1) htb cd_B_oldest k_B_75 in_B_oldest se_B_oldest ini_B hd_B_oldest ⟨Nat.le_of_ble_eq_true rfl, Nat.le_of_ble_eq_true rfl⟩) hK hP [0, 1, 2, 3, 4, 5] rfl (ci := 0) rfl rfl rfl hl.1 rfl (Nat.le_of_ble_eq_true rfl) d_B_drop_21 ⟨Nat.zero_le _, Nat.zero_le _⟩ (fun r_21 hw_21 => ?_)
    have hF := hF.trans (bnd_eq hw_21)
    refine lv_istore_n (lv' := [(3, .int r_21), (0, .ref g.1.1), (1, .int p0), (2, .int v2)]) hx hb d_B_drop_24 rfl hl (by decide) rfl (fun ls hl => ?_)
    refine lv_iload_n hx hb d_B_drop_25 rfl (lv_at hl 3 rfl) ?_
    refine lv_if_lt (tgt := 43) hx hb d_B_drop_26 (by decide) (fun c_26 => ?_) (fun c_26 => ?_)
    · have hF := hF.trans (if_pos c_26)
      exact W.vret hx hb hr (fun t ht hW => ⟨⟨z, rfl, hF.symm, by dsimp only; rw [ht]; exact hP⟩, hS.F ht⟩) hS.2.2 d_B_drop_43
    · have hF := hF.trans (if_neg c_26)
      refine lv_iload_n hx hb d_B_drop_29 rfl (lv_at hl 3 rfl) ?_
      refine lv_aload_n hx hb d_B_drop_30 rfl (lv_at hl 1 rfl) ?_
      refine va_get (D := D) (ci := 0) (v := .ref g.1.2.1) (C := R_B) (T := T_B) (N := 7) hx hb htb i_B hown hK hP 0 rfl rfl 2 (by decide) (htb _ k_B_24) (fun _ h9 => h9) rfl d_B_drop_31 ?_
      refine va_alen hx hb hK hP 1 0 rfl rfl (v := nI g.2.2.1) rfl d_B_drop_34 ?_
      refine lv_icmp_ge (tgt := 43) hx hb d_B_drop_35 (by decide) (fun c_35 => ?_) (fun c_35 => ?_)
      · have hF := hF.trans (if_pos c_35)
        exact W.vret hx hb hr (fun t ht hW => ⟨⟨z, rfl, hF.symm, by dsimp only; rw [ht]; exact hP⟩, hS.F ht⟩) hS.2.2 d_B_drop_43
      · have hF := hF.trans (if_neg c_35)
        refine lv_iload_n hx hb d_B_drop_38 rfl (lv_at hl 2 rfl) ?_
        refine lv_iload_n hx hb d_B_drop_39 rfl (lv_at hl 0 rfl) ?_
        refine lv_icmp_le (tgt := 44) hx hb d_B_drop_40 (by decide) (fun c_40 => ?_) (fun c_40 => ?_)
        · have hF := hF.trans (if_pos c_40)
          refine lv_iload_n hx hb d_B_drop_44 rfl (lv_at hl 2 rfl) ?_
          refine lv_istore (lv' := [(4, .int p0), (3, .int r_21), (0, .ref g.1.1), (1, .int p0), (2, .int v2)]) hx hb d_B_drop_45 hl (by decide) rfl (fun ls hl => ?_)
          have hl := lv_sub (l' := [(0, .ref g.1.1), (1, .int p0), (2, .int v2), (3, .int r_21), (4, .int p0)]) hl [2, 3, 4, 1, 0] rfl
          exact cut_47 (mu p0 r_21 + 1) v2 r_21 p0 z _ _ _ (Nat.lt_succ_self _) (in_ok hg.1 c_26 c_35) hF hP hD hS hl
        · have hF := hF.trans (if_neg c_40)
          exact W.vret hx hb hr (fun t ht hW => ⟨⟨z, rfl, hF.symm, by dsimp only; rw [ht]; exact hP⟩, hS.F ht⟩) hS.2.2 d_B_drop_43
  have hl := lv_entry ([.ref g.1.1, .int p0]) (n := 5) (Nat.le_of_ble_eq_true rfl)
  rw [lg_entry_eq]
  generalize (lg_sl ([.ref g.1.1, .int p0]) ++ List.replicate (5 - (lg_sl ([.ref g.1.1, .int p0])).length) Slot.unset).toArray = ls at hl ⊢
  have hl : lv_has ls 5 [(0, .ref g.1.1), (1, .int p0)] := hl
  have hF := M_B_drop_eq g x p0
  refine lv_aload_n hx hb d_B_drop_0 rfl (lv_at hl 0 rfl) ?_
  refine lv_iload_n hx hb d_B_drop_1 rfl (lv_at hl 1 rfl) ?_
  refine cpi (As := [.int p0]) (rest := []) ⟨hx, hb, hml, hown, htb⟩ (c_B_isSlot l D cI cZ g hg x p0) (cwv (n := 1) htb cd_B_isSlot k_B_48 in_B_isSlot se_B_isSlot ini_B hd_B_isSlot ⟨Nat.le_of_ble_eq_true rfl, Nat.le_of_ble_eq_true rfl⟩) hK hP [0, 1, 2, 3, 4, 5] rfl (ci := 0) rfl rfl rfl hl.1 rfl (Nat.le_of_ble_eq_true rfl) d_B_drop_2 ⟨Nat.zero_le _, Nat.zero_le _⟩ (fun r_2 hw_2 => ?_)
  have hF := hF.trans (bnd_eq hw_2)
  refine lv_if_eq (tgt := 17) hx hb d_B_drop_5 (by decide) (fun c_5 => ?_) (fun c_5 => ?_)
  · have hF := hF.trans (if_pos c_5)
    refine lv_iconst (v := -1) hx hb d_B_drop_17 (by decide) ?_
    refine lv_istore_n (lv' := [(2, .int (-1 : Int32)), (0, .ref g.1.1), (1, .int p0)]) hx hb d_B_drop_18 rfl hl (by decide) rfl (fun ls hl => ?_)
    have hl := lv_sub (l' := [(0, .ref g.1.1), (1, .int p0), (2, .int (-1 : Int32))]) hl [1, 2, 0] rfl
    exact cut_19 (-1 : Int32) x _ _ _ hF hP hD hS hl
  · have hF := hF.trans (if_neg c_5)
    refine lv_iload_n hx hb d_B_drop_8 rfl (lv_at hl 1 rfl) ?_
    refine lv_aload_n hx hb d_B_drop_9 rfl (lv_at hl 0 rfl) ?_
    refine va_get (D := D) (ci := 0) (v := .int g.2.1.2) (C := R_B) (T := T_B) (N := 7) hx hb htb i_B hown hK hP 0 rfl rfl 1 (by decide) (htb _ k_B_21) (fun _ h9 => h9) rfl d_B_drop_10 ?_
    refine lv_idiv hx hb d_B_drop_13 hg.2.2.2 ?_
    refine lv_goto (tgt := 18) hx hb d_B_drop_14 (by decide) ?_
    refine lv_istore_n (lv' := [(2, .int (p0 / g.2.1.2)), (0, .ref g.1.1), (1, .int p0)]) hx hb d_B_drop_18 rfl hl (by decide) rfl (fun ls hl => ?_)
    have hl := lv_sub (l' := [(0, .ref g.1.1), (1, .int p0), (2, .int (p0 / g.2.1.2))]) hl [1, 2, 0] rfl
    exact cut_19 (p0 / g.2.1.2) x _ _ _ hF hP hD hS hl

def L_B_clear_26 (g : GB) : Nat → Int32 → Bk → Bk
  | 0, _, z => z
  | n + 1, v1, z => (if (nI g.2.2.2) ≤ v1 then z else L_B_clear_26 g n (v1 + 1) (z.1, z.2.1, z.2.2.1, z.2.2.2.1, (upd z.2.2.2.2 v1.toNatClampNeg (vp_nar .boolean (0 : Int32)))))
theorem L_B_clear_26_eq (g : GB) (n : Nat) (v1 : Int32) (z : Bk) : L_B_clear_26 g (n + 1) v1 z = (if (nI g.2.2.2) ≤ v1 then z else L_B_clear_26 g n (v1 + 1) (z.1, z.2.1, z.2.2.1, z.2.2.2.1, (upd z.2.2.2.2 v1.toNatClampNeg (vp_nar .boolean (0 : Int32))))) := by first | rfl | rw [L_B_clear_26]
def L_B_clear_2 (g : GB) : Nat → Int32 → Bk → Bk
  | 0, _, z => z
  | n + 1, v1, z => (if (nI g.2.2.1) ≤ v1 then L_B_clear_26 g (mu (0 : Int32) (nI g.2.2.2) + 1) (0 : Int32) z else L_B_clear_2 g n (v1 + 1) ((upd z.1 v1.toNatClampNeg (0 : Int32)), z.2.1, z.2.2.1, z.2.2.2.1, z.2.2.2.2))
theorem L_B_clear_2_eq (g : GB) (n : Nat) (v1 : Int32) (z : Bk) : L_B_clear_2 g (n + 1) v1 z = (if (nI g.2.2.1) ≤ v1 then L_B_clear_26 g (mu (0 : Int32) (nI g.2.2.2) + 1) (0 : Int32) z else L_B_clear_2 g n (v1 + 1) ((upd z.1 v1.toNatClampNeg (0 : Int32)), z.2.1, z.2.2.1, z.2.2.2.1, z.2.2.2.2)) := by first | rfl | rw [L_B_clear_2]
def M_B_clear (g : GB) (x : Bk) : Bk := L_B_clear_2 g (mu (0 : Int32) (nI g.2.2.1) + 1) (0 : Int32) x
theorem M_B_clear_eq (g : GB) (x : Bk) : M_B_clear g x = L_B_clear_2 g (mu (0 : Int32) (nI g.2.2.1) + 1) (0 : Int32) x := rfl
abbrev w_B_clear : List Cond := .code y_B_clear b_B_clear 2 none :: tbW
abbrev rm_B_clear : Room := { frames := 0, cells := 0, slots := 0, locals := 0 }
set_option maxHeartbeats 4000000 in
set_option maxRecDepth 100000 in
theorem c_B_clear (l : Launch) (D : va_G) (cI cZ : ClassId) (g : GB) (hg : okB g) (x : Bk) : Met l y_B_clear w_B_clear rm_B_clear (PcW D vwCl (tyK cI cZ) [.ref g.1.1] (wB cI cZ g x)) (va_Qv (fun (u : Bk) => u = M_B_clear g x) (fun (u : Bk) (t : State) => va_P D vwCl (wB cI cZ g u) t.heap) (Aw (wB cI cZ g x))) 0 0 (Aw (wB cI cZ g x)) := by
  refine Met.ofW (cc := b_B_clear) (maxL := 2) (ret := none) (by decide) rfl ?_
  intro p e s m args below meth c s₁ B hml hv
  obtain ⟨rfl, hP, hK, hD0⟩ := hv
  have hx := B.exec
  have hb := B.bytes
  have hr := B.returns
  have htb : ∀ w ∈ tbW, w.before _ s = true := fun w h => atoms_spec (ws := w_B_clear) B.pre w (List.mem_cons_of_mem _ h)
  have hown : s.vm.findClass R_B = some m.cls := findClass_of_methodNamed B.named
  have hlocks := B.notSynchronized
  have hD : va_D (Aw (wB cI cZ g x)) (wB cI cZ g x) := ⟨hD0.1, fun k q hk => ⟨k, q.2, hk⟩⟩
  have hS : va_S (Aw (wB cI cZ g x)) s.heap s.heap [] := va_S.rf
  have cut_26 : ∀ (n : Nat) (v1 : Int32) (z : Bk) (H : Heap) (locs : List Loc) (ls : Array Slot), mu v1 (nI g.2.2.2) < n → ¬ v1 < 0 → M_B_clear g x = L_B_clear_26 g n v1 z → va_P D vwCl (wB cI cZ g z) H → va_D (Aw (wB cI cZ g x)) (wB cI cZ g z) → va_S (Aw (wB cI cZ g x)) s.heap H locs → lv_has ls 2 [(0, .ref g.1.1), (1, .int v1)] → W p l e (headSpec w_B_clear rm_B_clear).room s m ([.ref g.1.1] : List Value).toArray below meth c H locs 0 0 (MQ below (va_Qv (fun (u : Bk) => u = M_B_clear g x) (fun (u : Bk) (t : State) => va_P D vwCl (wB cI cZ g u) t.heap) (Aw (wB cI cZ g x))) ([.ref g.1.1] : List Value).toArray s 0 0 (Aw (wB cI cZ g x))) (F0 m 26 ls []) := by
    intro n
    induction n with
    | zero => intro v1 z H locs ls hm _ _ _ _ _ _; exact absurd hm (Nat.not_lt_zero _)
    | succ n ih =>
      intro v1 z H locs ls hm h0 hF hP hD hS hl
      have hF := hF.trans (L_B_clear_26_eq g n v1 z)
      refine lv_iload_n hx hb d_B_clear_26 rfl (lv_at hl 1 rfl) ?_
      refine lv_aload_n hx hb d_B_clear_27 rfl (lv_at hl 0 rfl) ?_
      refine va_get (D := D) (ci := 0) (v := .ref g.1.2.2.2.2.2) (C := R_B) (T := T_B) (N := 7) hx hb htb i_B hown hK hP 0 rfl rfl 6 (by decide) (htb _ k_B_37) (fun _ h9 => h9) rfl d_B_clear_28 ?_
      refine va_alen hx hb hK hP 5 1 rfl rfl (v := nI g.2.2.2) rfl d_B_clear_31 ?_
      refine lv_icmp_ge (tgt := 48) hx hb d_B_clear_32 (by decide) (fun c_32 => ?_) (fun c_32 => ?_)
      · have hF := hF.trans (if_pos c_32)
        exact W.vret hx hb hr (fun t ht hW => ⟨⟨z, rfl, hF.symm, by dsimp only; rw [ht]; exact hP⟩, hS.F ht⟩) hS.2.2 d_B_clear_48
      · have hF := hF.trans (if_neg c_32)
        refine lv_aload_n hx hb d_B_clear_35 rfl (lv_at hl 0 rfl) ?_
        refine va_get (D := D) (ci := 0) (v := .ref g.1.2.2.2.2.2) (C := R_B) (T := T_B) (N := 7) hx hb htb i_B hown hK hP 0 rfl rfl 6 (by decide) (htb _ k_B_37) (fun _ h9 => h9) rfl d_B_clear_36 ?_
        refine lv_iload_n hx hb d_B_clear_39 rfl (lv_at hl 1 rfl) ?_
        refine lv_iconst (v := 0) hx hb d_B_clear_40 (by decide) ?_
        refine va_zast hx hb hK hP hD hS 5 1 rfl rfl (in_ok hg.2.1 h0 c_32) d_B_clear_41 (fun H locs hP hD hS => ?_)
        have hP : va_P D vwCl (wB cI cZ g (z.1, z.2.1, z.2.2.1, z.2.2.2.1, (upd z.2.2.2.2 v1.toNatClampNeg (vp_nar .boolean (0 : Int32))))) H := hP
        have hD : va_D _ (wB cI cZ g (z.1, z.2.1, z.2.2.1, z.2.2.2.1, (upd z.2.2.2.2 v1.toNatClampNeg (vp_nar .boolean (0 : Int32))))) := hD
        refine lv_iinc (v := (v1 + 1)) (lv' := [(1, .int (v1 + 1)), (0, .ref g.1.1)]) hx hb d_B_clear_42 hl (k := 1) rfl rfl (by decide) rfl (fun ls hl => ?_)
        refine lv_goto (tgt := 26) hx hb d_B_clear_45 (by decide) ?_
        have hl := lv_sub (l' := [(0, .ref g.1.1), (1, .int (v1 + 1))]) hl [1, 0] rfl
        exact ih (v1 + 1) (z.1, z.2.1, z.2.2.1, z.2.2.2.1, (upd z.2.2.2.2 v1.toNatClampNeg (vp_nar .boolean (0 : Int32)))) _ _ _ (Nat.lt_of_lt_of_le (mu_dec c_32) (Nat.le_of_lt_succ hm)) (up_nn h0 c_32) hF hP hD hS hl
  have cut_2 : ∀ (n : Nat) (v1 : Int32) (z : Bk) (H : Heap) (locs : List Loc) (ls : Array Slot), mu v1 (nI g.2.2.1) < n → ¬ v1 < 0 → M_B_clear g x = L_B_clear_2 g n v1 z → va_P D vwCl (wB cI cZ g z) H → va_D (Aw (wB cI cZ g x)) (wB cI cZ g z) → va_S (Aw (wB cI cZ g x)) s.heap H locs → lv_has ls 2 [(0, .ref g.1.1), (1, .int v1)] → W p l e (headSpec w_B_clear rm_B_clear).room s m ([.ref g.1.1] : List Value).toArray below meth c H locs 0 0 (MQ below (va_Qv (fun (u : Bk) => u = M_B_clear g x) (fun (u : Bk) (t : State) => va_P D vwCl (wB cI cZ g u) t.heap) (Aw (wB cI cZ g x))) ([.ref g.1.1] : List Value).toArray s 0 0 (Aw (wB cI cZ g x))) (F0 m 2 ls []) := by
    intro n
    induction n with
    | zero => intro v1 z H locs ls hm _ _ _ _ _ _; exact absurd hm (Nat.not_lt_zero _)
    | succ n ih =>
      intro v1 z H locs ls hm h0 hF hP hD hS hl
      have hF := hF.trans (L_B_clear_2_eq g n v1 z)
      refine lv_iload_n hx hb d_B_clear_2 rfl (lv_at hl 1 rfl) ?_
      refine lv_aload_n hx hb d_B_clear_3 rfl (lv_at hl 0 rfl) ?_
      refine va_get (D := D) (ci := 0) (v := .ref g.1.2.1) (C := R_B) (T := T_B) (N := 7) hx hb htb i_B hown hK hP 0 rfl rfl 2 (by decide) (htb _ k_B_24) (fun _ h9 => h9) rfl d_B_clear_4 ?_
      refine va_alen hx hb hK hP 1 0 rfl rfl (v := nI g.2.2.1) rfl d_B_clear_7 ?_
      refine lv_icmp_ge (tgt := 24) hx hb d_B_clear_8 (by decide) (fun c_8 => ?_) (fun c_8 => ?_)
      · have hF := hF.trans (if_pos c_8)
        refine lv_iconst (v := 0) hx hb d_B_clear_24 (by decide) ?_
        refine lv_istore_n (lv' := [(1, .int (0 : Int32)), (0, .ref g.1.1)]) hx hb d_B_clear_25 rfl hl (by decide) rfl (fun ls hl => ?_)
        have hl := lv_sub (l' := [(0, .ref g.1.1), (1, .int (0 : Int32))]) hl [1, 0] rfl
        exact cut_26 (mu (0 : Int32) (nI g.2.2.2) + 1) (0 : Int32) z _ _ _ (Nat.lt_succ_self _) (by decide) hF hP hD hS hl
      · have hF := hF.trans (if_neg c_8)
        refine lv_aload_n hx hb d_B_clear_11 rfl (lv_at hl 0 rfl) ?_
        refine va_get (D := D) (ci := 0) (v := .ref g.1.2.1) (C := R_B) (T := T_B) (N := 7) hx hb htb i_B hown hK hP 0 rfl rfl 2 (by decide) (htb _ k_B_24) (fun _ h9 => h9) rfl d_B_clear_12 ?_
        refine lv_iload_n hx hb d_B_clear_15 rfl (lv_at hl 1 rfl) ?_
        refine lv_iconst (v := 0) hx hb d_B_clear_16 (by decide) ?_
        refine va_iast hx hb hK hP hD hS 1 0 rfl rfl (in_ok hg.1 h0 c_8) d_B_clear_17 (fun H locs hP hD hS => ?_)
        have hP : va_P D vwCl (wB cI cZ g ((upd z.1 v1.toNatClampNeg (0 : Int32)), z.2.1, z.2.2.1, z.2.2.2.1, z.2.2.2.2)) H := hP
        have hD : va_D _ (wB cI cZ g ((upd z.1 v1.toNatClampNeg (0 : Int32)), z.2.1, z.2.2.1, z.2.2.2.1, z.2.2.2.2)) := hD
        refine lv_iinc (v := (v1 + 1)) (lv' := [(1, .int (v1 + 1)), (0, .ref g.1.1)]) hx hb d_B_clear_18 hl (k := 1) rfl rfl (by decide) rfl (fun ls hl => ?_)
        refine lv_goto (tgt := 2) hx hb d_B_clear_21 (by decide) ?_
        have hl := lv_sub (l' := [(0, .ref g.1.1), (1, .int (v1 + 1))]) hl [1, 0] rfl
        exact ih (v1 + 1) ((upd z.1 v1.toNatClampNeg (0 : Int32)), z.2.1, z.2.2.1, z.2.2.2.1, z.2.2.2.2) _ _ _ (Nat.lt_of_lt_of_le (mu_dec c_8) (Nat.le_of_lt_succ hm)) (up_nn h0 c_8) hF hP hD hS hl
  have hl := lv_entry ([.ref g.1.1]) (n := 2) (Nat.le_of_ble_eq_true rfl)
  rw [lg_entry_eq]
  generalize (lg_sl ([.ref g.1.1]) ++ List.replicate (2 - (lg_sl ([.ref g.1.1])).length) Slot.unset).toArray = ls at hl ⊢
  have hl : lv_has ls 2 [(0, .ref g.1.1)] := hl
  have hF := M_B_clear_eq g x
  refine lv_iconst (v := 0) hx hb d_B_clear_0 (by decide) ?_
  refine lv_istore_n (lv' := [(1, .int (0 : Int32)), (0, .ref g.1.1)]) hx hb d_B_clear_1 rfl hl (by decide) rfl (fun ls hl => ?_)
  have hl := lv_sub (l' := [(0, .ref g.1.1), (1, .int (0 : Int32))]) hl [1, 0] rfl
  exact cut_2 (mu (0 : Int32) (nI g.2.2.1) + 1) (0 : Int32) x _ _ _ (Nat.lt_succ_self _) (by decide) hF hP hD hS hl
