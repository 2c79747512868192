def M_M_modulo (p0 p1 : Int32) : Int32 := (((p0 - p0 / p1 * p1) + p1) - ((p0 - p0 / p1 * p1) + p1) / p1 * p1)
theorem M_M_modulo_eq (p0 p1 : Int32) : M_M_modulo p0 p1 = (((p0 - p0 / p1 * p1) + p1) - ((p0 - p0 / p1 * p1) + p1) / p1 * p1) := rfl
def S_M_modulo (p0 p1 : Int32) : Prop := (¬ p1 = 0 ∧ (¬ p1 = 0 ∧ True))
theorem S_M_modulo_eq (p0 p1 : Int32) : S_M_modulo p0 p1 = (¬ p1 = 0 ∧ (¬ p1 = 0 ∧ True)) := rfl
abbrev w_M_modulo : List Cond := .code y_M_modulo b_M_modulo 2 (some .int) :: tbW
abbrev rm_M_modulo : Room := { frames := 0, cells := 0, slots := 0, locals := 0 }
set_option maxHeartbeats 4000000 in
set_option maxRecDepth 100000 in
theorem c_M_modulo (l : Launch) (p0 p1 : Int32) (hs : S_M_modulo p0 p1) : Met l y_M_modulo w_M_modulo rm_M_modulo (va_Pc [.int p0, .int p1] (fun _ => True)) (vp_Si (fun r => r = M_M_modulo p0 p1)) 0 0 (fun _ => False) := by
  refine Met.ofW (cc := b_M_modulo) (maxL := 2) (ret := (some .int)) (by decide) rfl ?_
  intro p e s m args below meth c s₁ B hml hv
  obtain ⟨rfl, -⟩ := hv
  have hx := B.exec
  have hb := B.bytes
  have hr := B.returns
  have htb : ∀ w ∈ tbW, w.before _ s = true := fun w h => atoms_spec (ws := w_M_modulo) B.pre w (List.mem_cons_of_mem _ h)
  have hown : s.vm.findClass R_M = some m.cls := findClass_of_methodNamed B.named
  have hlocks := B.notSynchronized
  have hl := lv_entry ([.int p0, .int p1]) (n := 2) (Nat.le_of_ble_eq_true rfl)
  rw [lg_entry_eq]
  generalize (lg_sl ([.int p0, .int p1]) ++ List.replicate (2 - (lg_sl ([.int p0, .int p1])).length) Slot.unset).toArray = ls at hl ⊢
  have hl : lv_has ls 2 [(0, .int p0), (1, .int p1)] := hl
  have hF := M_M_modulo_eq p0 p1
  have hs := Eq.mp (S_M_modulo_eq p0 p1) hs
  refine lv_iload_n hx hb d_M_modulo_0 rfl (lv_at hl 0 rfl) ?_
  refine lv_iload_n hx hb d_M_modulo_1 rfl (lv_at hl 1 rfl) ?_
  refine lv_irem hx hb d_M_modulo_2 hs.1 ?_
  have hs := hs.2
  refine lv_iload_n hx hb d_M_modulo_3 rfl (lv_at hl 1 rfl) ?_
  refine lv_iadd hx hb d_M_modulo_4 ?_
  refine lv_iload_n hx hb d_M_modulo_5 rfl (lv_at hl 1 rfl) ?_
  refine lv_irem hx hb d_M_modulo_6 hs.1 ?_
  have hs := hs.2
  exact W.iret (v := (((p0 - p0 / p1 * p1) + p1) - ((p0 - p0 / p1 * p1) + p1) / p1 * p1)) hx hb hr (fun t ht hW => ⟨_, rfl, hF.symm, ht⟩) (fun q h => by cases h) d_M_modulo_7

def M_M_thrown (g : GM) (x : Ms) : Int32 := x.1.1
theorem M_M_thrown_eq (g : GM) (x : Ms) : M_M_thrown g x = x.1.1 := rfl
abbrev w_M_thrown : List Cond := .code y_M_thrown b_M_thrown 1 (some .int) :: tbW
abbrev rm_M_thrown : Room := { frames := 0, cells := 0, slots := 0, locals := 0 }
set_option maxHeartbeats 4000000 in
set_option maxRecDepth 100000 in
theorem c_M_thrown (l : Launch) (D : va_G) (cI cZ : ClassId) (g : GM) (hg : okM g) (x : Ms) : Met l y_M_thrown w_M_thrown rm_M_thrown (PcR D vwCl (tyK cI cZ) [.ref g.1.1] (wM cI cZ g x)) (vp_Si (fun r => r = M_M_thrown g x)) 0 0 (fun _ => False) := by
  refine Met.ofW (cc := b_M_thrown) (maxL := 1) (ret := (some .int)) (by decide) rfl ?_
  intro p e s m args below meth c s₁ B hml hv
  obtain ⟨rfl, hP, hK⟩ := hv
  have hx := B.exec
  have hb := B.bytes
  have hr := B.returns
  have htb : ∀ w ∈ tbW, w.before _ s = true := fun w h => atoms_spec (ws := w_M_thrown) B.pre w (List.mem_cons_of_mem _ h)
  have hown : s.vm.findClass R_M = some m.cls := findClass_of_methodNamed B.named
  have hlocks := B.notSynchronized
  have hl := lv_entry ([.ref g.1.1]) (n := 1) (Nat.le_of_ble_eq_true rfl)
  rw [lg_entry_eq]
  generalize (lg_sl ([.ref g.1.1]) ++ List.replicate (1 - (lg_sl ([.ref g.1.1])).length) Slot.unset).toArray = ls at hl ⊢
  have hl : lv_has ls 1 [(0, .ref g.1.1)] := hl
  have hF := M_M_thrown_eq g x
  refine lv_aload_n hx hb d_M_thrown_0 rfl (lv_at hl 0 rfl) ?_
  refine va_get (D := D) (ci := 3) (v := .int x.1.1) (C := R_M) (T := T_M) (N := 20) hx hb htb i_M hown hK hP 0 rfl rfl 0 (by decide) (htb _ k_M_61) (fun _ h9 => h9) rfl d_M_thrown_1 ?_
  exact W.iret (v := x.1.1) hx hb hr (fun t ht hW => ⟨_, rfl, hF.symm, ht⟩) (fun q h => by cases h) d_M_thrown_4

def M_M_fail (g : GM) (x : Ms) (p0 : Int32) : Int32 × Ms := ((0 : Int32), ((p0, x.1.2.1, x.1.2.2.1, x.1.2.2.2.1, x.1.2.2.2.2.1, x.1.2.2.2.2.2), x.2.1, x.2.2.1, x.2.2.2.1, x.2.2.2.2))
theorem M_M_fail_eq (g : GM) (x : Ms) (p0 : Int32) : M_M_fail g x p0 = ((0 : Int32), ((p0, x.1.2.1, x.1.2.2.1, x.1.2.2.2.1, x.1.2.2.2.2.1, x.1.2.2.2.2.2), x.2.1, x.2.2.1, x.2.2.2.1, x.2.2.2.2)) := rfl
abbrev w_M_fail : List Cond := .code y_M_fail b_M_fail 2 (some .int) :: tbW
abbrev rm_M_fail : Room := { frames := 0, cells := 0, slots := 0, locals := 0 }
set_option maxHeartbeats 4000000 in
set_option maxRecDepth 100000 in
theorem c_M_fail (l : Launch) (D : va_G) (cI cZ : ClassId) (g : GM) (hg : okM g) (x : Ms) (p0 : Int32) : Met l y_M_fail w_M_fail rm_M_fail (PcW D vwCl (tyK cI cZ) [.ref g.1.1, .int p0] (wM cI cZ g x)) (va_Qi (fun (r : Int32) (u : Ms) => (r, u) = M_M_fail g x p0) (fun (u : Ms) (t : State) => va_P D vwCl (wM cI cZ g u) t.heap) (Aw (wM cI cZ g x))) 0 0 (Aw (wM cI cZ g x)) := by
  refine Met.ofW (cc := b_M_fail) (maxL := 2) (ret := (some .int)) (by decide) rfl ?_
  intro p e s m args below meth c s₁ B hml hv
  obtain ⟨rfl, hP, hK, hD0⟩ := hv
  have hx := B.exec
  have hb := B.bytes
  have hr := B.returns
  have htb : ∀ w ∈ tbW, w.before _ s = true := fun w h => atoms_spec (ws := w_M_fail) B.pre w (List.mem_cons_of_mem _ h)
  have hown : s.vm.findClass R_M = some m.cls := findClass_of_methodNamed B.named
  have hlocks := B.notSynchronized
  have hD : va_D (Aw (wM cI cZ g x)) (wM cI cZ g x) := ⟨hD0.1, fun k q hk => ⟨k, q.2, hk⟩⟩
  have hS : va_S (Aw (wM cI cZ g x)) s.heap s.heap [] := va_S.rf
  have hl := lv_entry ([.ref g.1.1, .int p0]) (n := 2) (Nat.le_of_ble_eq_true rfl)
  rw [lg_entry_eq]
  generalize (lg_sl ([.ref g.1.1, .int p0]) ++ List.replicate (2 - (lg_sl ([.ref g.1.1, .int p0])).length) Slot.unset).toArray = ls at hl ⊢
  have hl : lv_has ls 2 [(0, .ref g.1.1), (1, .int p0)] := hl
  have hF := M_M_fail_eq g x p0
  refine lv_aload_n hx hb d_M_fail_0 rfl (lv_at hl 0 rfl) ?_
  refine lv_iload_n hx hb d_M_fail_1 rfl (lv_at hl 1 rfl) ?_
  refine va_put (D := D) (ci := 3) (v := .int p0) (ty := .int) (C := R_M) (T := T_M) (N := 20) hx hb htb i_M ty_M tyo_M nm_M hown hK hP hD hS 0 rfl rfl 0 (by decide) (htb _ k_M_61) (fun _ h9 => h9) rfl (by decide +kernel) rfl rfl (Nat.le_of_ble_eq_true rfl) d_M_fail_2 (fun H locs hP hD hS => ?_)
  have hP : va_P D vwCl (wM cI cZ g ((p0, x.1.2.1, x.1.2.2.1, x.1.2.2.2.1, x.1.2.2.2.2.1, x.1.2.2.2.2.2), x.2.1, x.2.2.1, x.2.2.2.1, x.2.2.2.2)) H := hP
  have hD : va_D _ (wM cI cZ g ((p0, x.1.2.1, x.1.2.2.1, x.1.2.2.2.1, x.1.2.2.2.2.1, x.1.2.2.2.2.2), x.2.1, x.2.2.1, x.2.2.2.1, x.2.2.2.2)) := hD
  refine lv_iconst (v := 0) hx hb d_M_fail_5 (by decide) ?_
  exact W.iret (v := (0 : Int32)) hx hb hr (fun t ht hW => ⟨⟨(0 : Int32), ((p0, x.1.2.1, x.1.2.2.1, x.1.2.2.2.1, x.1.2.2.2.2.1, x.1.2.2.2.2.2), x.2.1, x.2.2.1, x.2.2.2.1, x.2.2.2.2), rfl, hF.symm, by dsimp only; rw [ht]; exact hP⟩, hS.F ht⟩) hS.2.2 d_M_fail_6

def M_M_within (p0 p1 p2 : Int32) : Int32 := (if p0 < p1 then (0 : Int32) else (if p2 < p0 then (0 : Int32) else (1 : Int32)))
theorem M_M_within_eq (p0 p1 p2 : Int32) : M_M_within p0 p1 p2 = (if p0 < p1 then (0 : Int32) else (if p2 < p0 then (0 : Int32) else (1 : Int32))) := rfl
abbrev w_M_within : List Cond := .code y_M_within b_M_within 3 (some .boolean) :: tbW
abbrev rm_M_within : Room := { frames := 0, cells := 0, slots := 0, locals := 0 }
set_option maxHeartbeats 4000000 in
set_option maxRecDepth 100000 in
theorem c_M_within (l : Launch) (p0 p1 p2 : Int32) : Met l y_M_within w_M_within rm_M_within (va_Pc [.int p0, .int p1, .int p2] (fun _ => True)) (vp_Si (fun r => r = M_M_within p0 p1 p2)) 0 0 (fun _ => False) := by
  refine Met.ofW (cc := b_M_within) (maxL := 3) (ret := (some .boolean)) (by decide) rfl ?_
  intro p e s m args below meth c s₁ B hml hv
  obtain ⟨rfl, -⟩ := hv
  have hx := B.exec
  have hb := B.bytes
  have hr := B.returns
  have htb : ∀ w ∈ tbW, w.before _ s = true := fun w h => atoms_spec (ws := w_M_within) B.pre w (List.mem_cons_of_mem _ h)
  have hown : s.vm.findClass R_M = some m.cls := findClass_of_methodNamed B.named
  have hlocks := B.notSynchronized
  have hl := lv_entry ([.int p0, .int p1, .int p2]) (n := 3) (Nat.le_of_ble_eq_true rfl)
  rw [lg_entry_eq]
  generalize (lg_sl ([.int p0, .int p1, .int p2]) ++ List.replicate (3 - (lg_sl ([.int p0, .int p1, .int p2])).length) Slot.unset).toArray = ls at hl ⊢
  have hl : lv_has ls 3 [(0, .int p0), (1, .int p1), (2, .int p2)] := hl
  have hF := M_M_within_eq p0 p1 p2
  refine lv_iload_n hx hb d_M_within_0 rfl (lv_at hl 0 rfl) ?_
  refine lv_iload_n hx hb d_M_within_1 rfl (lv_at hl 1 rfl) ?_
  refine lv_icmp_lt (tgt := 14) hx hb d_M_within_2 (by decide) (fun c_2 => ?_) (fun c_2 => ?_)
  · have hF := hF.trans (if_pos c_2)
    refine lv_iconst (v := 0) hx hb d_M_within_14 (by decide) ?_
    exact W.zret (v := (0 : Int32)) (ty := .boolean) hx hb hr rfl (fun t ht hW => ⟨_, rfl, hF.symm, ht⟩) (fun q h => by cases h) d_M_within_15
  · have hF := hF.trans (if_neg c_2)
    refine lv_iload_n hx hb d_M_within_5 rfl (lv_at hl 0 rfl) ?_
    refine lv_iload_n hx hb d_M_within_6 rfl (lv_at hl 2 rfl) ?_
    refine lv_icmp_gt (tgt := 14) hx hb d_M_within_7 (by decide) (fun c_7 => ?_) (fun c_7 => ?_)
    · have hF := hF.trans (if_pos c_7)
      refine lv_iconst (v := 0) hx hb d_M_within_14 (by decide) ?_
      exact W.zret (v := (0 : Int32)) (ty := .boolean) hx hb hr rfl (fun t ht hW => ⟨_, rfl, hF.symm, ht⟩) (fun q h => by cases h) d_M_within_15
    · have hF := hF.trans (if_neg c_7)
      refine lv_iconst (v := 1) hx hb d_M_within_10 (by decide) ?_
      refine lv_goto (tgt := 15) hx hb d_M_within_11 (by decide) ?_
      exact W.zret (v := (1 : Int32)) (ty := .boolean) hx hb hr rfl (fun t ht hW => ⟨_, rfl, hF.symm, ht⟩) (fun q h => by cases h) d_M_within_15

def L_M_isCore_23 (g : GM) (p0 : Int32) (z : Ms) : Int32 × Ms := (if z.1.1 = 0 then ((1 : Int32), z) else ((0 : Int32), z))
theorem L_M_isCore_23_eq (g : GM) (p0 : Int32) (z : Ms) : L_M_isCore_23 g p0 z = (if z.1.1 = 0 then ((1 : Int32), z) else ((0 : Int32), z)) := rfl
def M_M_isCore (g : GM) (x : Ms) (p0 : Int32) : Int32 × Ms := (bnd (M_M_within p0 (0 : Int32) (g.2.1 - (1 : Int32))) (fun r_9 => (if r_9 = 0 then L_M_isCore_23 g p0 (((1 : Int32), x.1.2.1, x.1.2.2.1, x.1.2.2.2.1, x.1.2.2.2.2.1, x.1.2.2.2.2.2), x.2.1, x.2.2.1, x.2.2.2.1, x.2.2.2.2) else L_M_isCore_23 g p0 (((0 : Int32), x.1.2.1, x.1.2.2.1, x.1.2.2.2.1, x.1.2.2.2.2.1, x.1.2.2.2.2.2), x.2.1, x.2.2.1, x.2.2.2.1, x.2.2.2.2))))
theorem M_M_isCore_eq (g : GM) (x : Ms) (p0 : Int32) : M_M_isCore g x p0 = (bnd (M_M_within p0 (0 : Int32) (g.2.1 - (1 : Int32))) (fun r_9 => (if r_9 = 0 then L_M_isCore_23 g p0 (((1 : Int32), x.1.2.1, x.1.2.2.1, x.1.2.2.2.1, x.1.2.2.2.2.1, x.1.2.2.2.2.2), x.2.1, x.2.2.1, x.2.2.2.1, x.2.2.2.2) else L_M_isCore_23 g p0 (((0 : Int32), x.1.2.1, x.1.2.2.1, x.1.2.2.2.1, x.1.2.2.2.2.1, x.1.2.2.2.2.2), x.2.1, x.2.2.1, x.2.2.2.1, x.2.2.2.2)))) := rfl
abbrev w_M_isCore : List Cond := .code y_M_isCore b_M_isCore 2 (some .boolean) :: tbW
abbrev rm_M_isCore : Room := { frames := 1, cells := 0, slots := 0, locals := 22 }
set_option maxHeartbeats 4000000 in
set_option maxRecDepth 100000 in
theorem c_M_isCore (l : Launch) (D : va_G) (cI cZ : ClassId) (g : GM) (hg : okM g) (x : Ms) (p0 : Int32) : Met l y_M_isCore w_M_isCore rm_M_isCore (PcW D vwCl (tyK cI cZ) [.ref g.1.1, .int p0] (wM cI cZ g x)) (va_Qi (fun (r : Int32) (u : Ms) => (r, u) = M_M_isCore g x p0) (fun (u : Ms) (t : State) => va_P D vwCl (wM cI cZ g u) t.heap) (Aw (wM cI cZ g x))) 0 0 (Aw (wM cI cZ g x)) := by
  refine Met.ofW (cc := b_M_isCore) (maxL := 2) (ret := (some .boolean)) (by decide) rfl ?_
  intro p e s m args below meth c s₁ B hml hv
  obtain ⟨rfl, hP, hK, hD0⟩ := hv
  have hx := B.exec
  have hb := B.bytes
  have hr := B.returns
  have htb : ∀ w ∈ tbW, w.before _ s = true := fun w h => atoms_spec (ws := w_M_isCore) B.pre w (List.mem_cons_of_mem _ h)
  have hown : s.vm.findClass R_M = some m.cls := findClass_of_methodNamed B.named
  have hlocks := B.notSynchronized
  have hD : va_D (Aw (wM cI cZ g x)) (wM cI cZ g x) := ⟨hD0.1, fun k q hk => ⟨k, q.2, hk⟩⟩
  have hS : va_S (Aw (wM cI cZ g x)) s.heap s.heap [] := va_S.rf
  have cut_23 : ∀ (z : Ms) (H : Heap) (locs : List Loc) (ls : Array Slot), M_M_isCore g x p0 = L_M_isCore_23 g p0 z → va_P D vwCl (wM cI cZ g z) H → va_D (Aw (wM cI cZ g x)) (wM cI cZ g z) → va_S (Aw (wM cI cZ g x)) s.heap H locs → lv_has ls 2 [(0, .ref g.1.1), (1, .int p0)] → W p l e (headSpec w_M_isCore rm_M_isCore).room s m ([.ref g.1.1, .int p0] : List Value).toArray below meth c H locs 0 0 (MQ below (va_Qi (fun (r : Int32) (u : Ms) => (r, u) = M_M_isCore g x p0) (fun (u : Ms) (t : State) => va_P D vwCl (wM cI cZ g u) t.heap) (Aw (wM cI cZ g x))) ([.ref g.1.1, .int p0] : List Value).toArray s 0 0 (Aw (wM cI cZ g x))) (F0 m 23 ls []) := by
    intro z H locs ls hF hP hD hS hl
    have hF := hF.trans (L_M_isCore_23_eq g p0 z)
    refine lv_aload_n hx hb d_M_isCore_23 rfl (lv_at hl 0 rfl) ?_
    refine va_get (D := D) (ci := 3) (v := .int z.1.1) (C := R_M) (T := T_M) (N := 20) hx hb htb i_M hown hK hP 0 rfl rfl 0 (by decide) (htb _ k_M_61) (fun _ h9 => h9) rfl d_M_isCore_24 ?_
    refine lv_if_ne (tgt := 34) hx hb d_M_isCore_27 (by decide) (fun c_27 => ?_) (fun c_27 => ?_)
    · have hF := hF.trans (if_neg c_27)
      refine lv_iconst (v := 0) hx hb d_M_isCore_34 (by decide) ?_
      exact W.zret (v := (0 : Int32)) (ty := .boolean) hx hb hr rfl (fun t ht hW => ⟨⟨(0 : Int32), z, rfl, hF.symm, by dsimp only; rw [ht]; exact hP⟩, hS.F ht⟩) hS.2.2 d_M_isCore_35
    · have hF := hF.trans (if_pos c_27)
      refine lv_iconst (v := 1) hx hb d_M_isCore_30 (by decide) ?_
      refine lv_goto (tgt := 35) hx hb d_M_isCore_31 (by decide) ?_
      exact W.zret (v := (1 : Int32)) (ty := .boolean) hx hb hr rfl (fun t ht hW => ⟨⟨(1 : Int32), z, rfl, hF.symm, by dsimp only; rw [ht]; exact hP⟩, hS.F ht⟩) hS.2.2 d_M_isCore_35
  have hl := lv_entry ([.ref g.1.1, .int p0]) (n := 2) (Nat.le_of_ble_eq_true rfl)
  rw [lg_entry_eq]
  generalize (lg_sl ([.ref g.1.1, .int p0]) ++ List.replicate (2 - (lg_sl ([.ref g.1.1, .int p0])).length) Slot.unset).toArray = ls at hl ⊢
  have hl : lv_has ls 2 [(0, .ref g.1.1), (1, .int p0)] := hl
  have hF := M_M_isCore_eq g x p0
  refine lv_aload_n hx hb d_M_isCore_0 rfl (lv_at hl 0 rfl) ?_
  refine lv_iload_n hx hb d_M_isCore_1 rfl (lv_at hl 1 rfl) ?_
  refine lv_iconst (v := 0) hx hb d_M_isCore_2 (by decide) ?_
  refine lv_aload_n hx hb d_M_isCore_3 rfl (lv_at hl 0 rfl) ?_
  refine va_get (D := D) (ci := 3) (v := .int g.2.1) (C := R_M) (T := T_M) (N := 20) hx hb htb i_M hown hK hP 0 rfl rfl 1 (by decide) (htb _ k_M_45) (fun _ h9 => h9) rfl d_M_isCore_4 ?_
  refine lv_iconst (v := 1) hx hb d_M_isCore_7 (by decide) ?_
  refine lv_isub hx hb d_M_isCore_8 ?_
  refine cps (As := [.int p0, .int (0 : Int32), .int (g.2.1 - (1 : Int32))]) (rest := [.ref g.1.1]) ⟨hx, hb, hml, hown, htb⟩ (c_M_within l p0 (0 : Int32) (g.2.1 - (1 : Int32))) (cws (n := 3) htb cd_M_within k_M_64 st_M_within ini_M hd_M_within ⟨Nat.le_of_ble_eq_true rfl, Nat.le_of_ble_eq_true rfl⟩) rfl hl.1 rfl (Nat.le_of_ble_eq_true rfl) d_M_isCore_9 ⟨Nat.zero_le _, Nat.zero_le _⟩ (fun r_9 hw_9 => ?_)
  have hF := hF.trans (bnd_eq hw_9)
  refine lv_if_eq (tgt := 19) hx hb d_M_isCore_12 (by decide) (fun c_12 => ?_) (fun c_12 => ?_)
  · have hF := hF.trans (if_pos c_12)
    refine lv_iconst (v := 1) hx hb d_M_isCore_19 (by decide) ?_
    refine va_put (D := D) (ci := 3) (v := .int (1 : Int32)) (ty := .int) (C := R_M) (T := T_M) (N := 20) hx hb htb i_M ty_M tyo_M nm_M hown hK hP hD hS 0 rfl rfl 0 (by decide) (htb _ k_M_61) (fun _ h9 => h9) rfl (by decide +kernel) rfl rfl (Nat.le_of_ble_eq_true rfl) d_M_isCore_20 (fun H locs hP hD hS => ?_)
    have hP : va_P D vwCl (wM cI cZ g (((1 : Int32), x.1.2.1, x.1.2.2.1, x.1.2.2.2.1, x.1.2.2.2.2.1, x.1.2.2.2.2.2), x.2.1, x.2.2.1, x.2.2.2.1, x.2.2.2.2)) H := hP
    have hD : va_D _ (wM cI cZ g (((1 : Int32), x.1.2.1, x.1.2.2.1, x.1.2.2.2.1, x.1.2.2.2.2.1, x.1.2.2.2.2.2), x.2.1, x.2.2.1, x.2.2.2.1, x.2.2.2.2)) := hD
    have hl := lv_sub (l' := [(0, .ref g.1.1), (1, .int p0)]) hl [0, 1] rfl
    exact cut_23 (((1 : Int32), x.1.2.1, x.1.2.2.1, x.1.2.2.2.1, x.1.2.2.2.2.1, x.1.2.2.2.2.2), x.2.1, x.2.2.1, x.2.2.2.1, x.2.2.2.2) _ _ _ hF hP hD hS hl
  · have hF := hF.trans (if_neg c_12)
    refine lv_iconst (v := 0) hx hb d_M_isCore_15 (by decide) ?_
    refine lv_goto (tgt := 20) hx hb d_M_isCore_16 (by decide) ?_
    refine va_put (D := D) (ci := 3) (v := .int (0 : Int32)) (ty := .int) (C := R_M) (T := T_M) (N := 20) hx hb htb i_M ty_M tyo_M nm_M hown hK hP hD hS 0 rfl rfl 0 (by decide) (htb _ k_M_61) (fun _ h9 => h9) rfl (by decide +kernel) rfl rfl (Nat.le_of_ble_eq_true rfl) d_M_isCore_20 (fun H locs hP hD hS => ?_)
    have hP : va_P D vwCl (wM cI cZ g (((0 : Int32), x.1.2.1, x.1.2.2.1, x.1.2.2.2.1, x.1.2.2.2.2.1, x.1.2.2.2.2.2), x.2.1, x.2.2.1, x.2.2.2.1, x.2.2.2.2)) H := hP
    have hD : va_D _ (wM cI cZ g (((0 : Int32), x.1.2.1, x.1.2.2.1, x.1.2.2.2.1, x.1.2.2.2.2.1, x.1.2.2.2.2.2), x.2.1, x.2.2.1, x.2.2.2.1, x.2.2.2.2)) := hD
    have hl := lv_sub (l' := [(0, .ref g.1.1), (1, .int p0)]) hl [0, 1] rfl
    exact cut_23 (((0 : Int32), x.1.2.1, x.1.2.2.1, x.1.2.2.2.1, x.1.2.2.2.2.1, x.1.2.2.2.2.2), x.2.1, x.2.2.1, x.2.2.2.1, x.2.2.2.2) _ _ _ hF hP hD hS hl

def L_M_find_2 (g : GM) (x : Ms) (p0 : Int32) : Nat → Int32 → Int32
  | 0, _ => 0
  | n + 1, v2 => (if x.1.2.2.2.1 ≤ v2 then (-1 : Int32) else (if (x.2.2.2.1.1 v2.toNatClampNeg) = p0 then v2 else L_M_find_2 g x p0 n (v2 + 1)))
theorem L_M_find_2_eq (g : GM) (x : Ms) (p0 : Int32) (n : Nat) (v2 : Int32) : L_M_find_2 g x p0 (n + 1) v2 = (if x.1.2.2.2.1 ≤ v2 then (-1 : Int32) else (if (x.2.2.2.1.1 v2.toNatClampNeg) = p0 then v2 else L_M_find_2 g x p0 n (v2 + 1))) := by first | rfl | rw [L_M_find_2]
def S_M_find_2 (g : GM) (x : Ms) (p0 : Int32) : Nat → Int32 → Prop
  | 0, _ => True
  | n + 1, v2 => ((x.1.2.2.2.1 ≤ v2 → True) ∧ (¬ x.1.2.2.2.1 ≤ v2 → (vp_in v2 600 ∧ (((x.2.2.2.1.1 v2.toNatClampNeg) = p0 → True) ∧ (¬ (x.2.2.2.1.1 v2.toNatClampNeg) = p0 → (mu (v2 + 1) x.1.2.2.2.1 < mu v2 x.1.2.2.2.1 ∧ S_M_find_2 g x p0 n (v2 + 1)))))))
theorem S_M_find_2_eq (g : GM) (x : Ms) (p0 : Int32) (n : Nat) (v2 : Int32) : S_M_find_2 g x p0 (n + 1) v2 = ((x.1.2.2.2.1 ≤ v2 → True) ∧ (¬ x.1.2.2.2.1 ≤ v2 → (vp_in v2 600 ∧ (((x.2.2.2.1.1 v2.toNatClampNeg) = p0 → True) ∧ (¬ (x.2.2.2.1.1 v2.toNatClampNeg) = p0 → (mu (v2 + 1) x.1.2.2.2.1 < mu v2 x.1.2.2.2.1 ∧ S_M_find_2 g x p0 n (v2 + 1))))))) := by first | rfl | rw [S_M_find_2]
def M_M_find (g : GM) (x : Ms) (p0 : Int32) : Int32 := L_M_find_2 g x p0 (mu (0 : Int32) x.1.2.2.2.1 + 1) (0 : Int32)
theorem M_M_find_eq (g : GM) (x : Ms) (p0 : Int32) : M_M_find g x p0 = L_M_find_2 g x p0 (mu (0 : Int32) x.1.2.2.2.1 + 1) (0 : Int32) := rfl
def S_M_find (g : GM) (x : Ms) (p0 : Int32) : Prop := S_M_find_2 g x p0 (mu (0 : Int32) x.1.2.2.2.1 + 1) (0 : Int32)
theorem S_M_find_eq (g : GM) (x : Ms) (p0 : Int32) : S_M_find g x p0 = S_M_find_2 g x p0 (mu (0 : Int32) x.1.2.2.2.1 + 1) (0 : Int32) := rfl
abbrev w_M_find : List Cond := .code y_M_find b_M_find 3 (some .int) :: tbW
abbrev rm_M_find : Room := { frames := 0, cells := 0, slots := 0, locals := 0 }
set_option maxHeartbeats 4000000 in
set_option maxRecDepth 100000 in
theorem c_M_find (l : Launch) (D : va_G) (cI cZ : ClassId) (g : GM) (hg : okM g) (x : Ms) (p0 : Int32) (hs : S_M_find g x p0) : Met l y_M_find w_M_find rm_M_find (PcR D vwCl (tyK cI cZ) [.ref g.1.1, .int p0] (wM cI cZ g x)) (vp_Si (fun r => r = M_M_find g x p0)) 0 0 (fun _ => False) := by
  refine Met.ofW (cc := b_M_find) (maxL := 3) (ret := (some .int)) (by decide) rfl ?_
  intro p e s m args below meth c s₁ B hml hv
  obtain ⟨rfl, hP, hK⟩ := hv
  have hx := B.exec
  have hb := B.bytes
  have hr := B.returns
  have htb : ∀ w ∈ tbW, w.before _ s = true := fun w h => atoms_spec (ws := w_M_find) B.pre w (List.mem_cons_of_mem _ h)
  have hown : s.vm.findClass R_M = some m.cls := findClass_of_methodNamed B.named
  have hlocks := B.notSynchronized
  have cut_2 : ∀ (n : Nat) (v2 : Int32) (ls : Array Slot), mu v2 x.1.2.2.2.1 < n → M_M_find g x p0 = L_M_find_2 g x p0 n v2 → S_M_find_2 g x p0 n v2 → lv_has ls 3 [(0, .ref g.1.1), (1, .int p0), (2, .int v2)] → W p l e (headSpec w_M_find rm_M_find).room s m ([.ref g.1.1, .int p0] : List Value).toArray below meth c s.heap [] 0 0 (MQ below (vp_Si (fun r => r = M_M_find g x p0)) ([.ref g.1.1, .int p0] : List Value).toArray s 0 0 (fun _ => False)) (F0 m 2 ls []) := by
    intro n
    induction n with
    | zero => intro v2 ls hm _ _ _; exact absurd hm (Nat.not_lt_zero _)
    | succ n ih =>
      intro v2 ls hm hF hs hl
      have hF := hF.trans (L_M_find_2_eq g x p0 n v2)
      have hs := Eq.mp (S_M_find_2_eq g x p0 n v2) hs
      refine lv_iload_n hx hb d_M_find_2 rfl (lv_at hl 2 rfl) ?_
      refine lv_aload_n hx hb d_M_find_3 rfl (lv_at hl 0 rfl) ?_
      refine va_get (D := D) (ci := 3) (v := .int x.1.2.2.2.1) (C := R_M) (T := T_M) (N := 20) hx hb htb i_M hown hK hP 0 rfl rfl 13 (by decide) (htb _ k_M_68) (fun _ h9 => h9) rfl d_M_find_4 ?_
      refine lv_icmp_ge (tgt := 28) hx hb d_M_find_7 (by decide) (fun c_7 => ?_) (fun c_7 => ?_)
      · have hF := hF.trans (if_pos c_7)
        have hs := hs.1 c_7
        refine lv_iconst (v := -1) hx hb d_M_find_28 (by decide) ?_
        exact W.iret (v := (-1 : Int32)) hx hb hr (fun t ht hW => ⟨_, rfl, hF.symm, ht⟩) (fun q h => by cases h) d_M_find_29
      · have hF := hF.trans (if_neg c_7)
        have hs := hs.2 c_7
        refine lv_aload_n hx hb d_M_find_10 rfl (lv_at hl 0 rfl) ?_
        refine va_get (D := D) (ci := 3) (v := .ref g.1.2.2.2.2.2.2.2.1) (C := R_M) (T := T_M) (N := 20) hx hb htb i_M hown hK hP 0 rfl rfl 14 (by decide) (htb _ k_M_33) (fun _ h9 => h9) rfl d_M_find_11 ?_
        refine lv_iload_n hx hb d_M_find_14 rfl (lv_at hl 2 rfl) ?_
        refine va_iald hx hb hK hP 7 0 rfl rfl hs.1 d_M_find_15 ?_
        have hs := hs.2
        refine lv_iload_n hx hb d_M_find_16 rfl (lv_at hl 1 rfl) ?_
        refine lv_icmp_ne (tgt := 22) hx hb d_M_find_17 (by decide) (fun c_17 => ?_) (fun c_17 => ?_)
        · have hF := hF.trans (if_neg c_17)
          have hs := hs.2 c_17
          refine lv_iinc (v := (v2 + 1)) (lv' := [(2, .int (v2 + 1)), (0, .ref g.1.1), (1, .int p0)]) hx hb d_M_find_22 hl (k := 2) rfl rfl (by decide) rfl (fun ls hl => ?_)
          refine lv_goto (tgt := 2) hx hb d_M_find_25 (by decide) ?_
          have hl := lv_sub (l' := [(0, .ref g.1.1), (1, .int p0), (2, .int (v2 + 1))]) hl [1, 2, 0] rfl
          exact ih (v2 + 1) _ (Nat.lt_of_lt_of_le hs.1 (Nat.le_of_lt_succ hm)) hF hs.2 hl
        · have hF := hF.trans (if_pos c_17)
          have hs := hs.1 c_17
          refine lv_iload_n hx hb d_M_find_20 rfl (lv_at hl 2 rfl) ?_
          exact W.iret (v := v2) hx hb hr (fun t ht hW => ⟨_, rfl, hF.symm, ht⟩) (fun q h => by cases h) d_M_find_21
  have hl := lv_entry ([.ref g.1.1, .int p0]) (n := 3) (Nat.le_of_ble_eq_true rfl)
  rw [lg_entry_eq]
  generalize (lg_sl ([.ref g.1.1, .int p0]) ++ List.replicate (3 - (lg_sl ([.ref g.1.1, .int p0])).length) Slot.unset).toArray = ls at hl ⊢
  have hl : lv_has ls 3 [(0, .ref g.1.1), (1, .int p0)] := hl
  have hF := M_M_find_eq g x p0
  have hs := Eq.mp (S_M_find_eq g x p0) hs
  refine lv_iconst (v := 0) hx hb d_M_find_0 (by decide) ?_
  refine lv_istore_n (lv' := [(2, .int (0 : Int32)), (0, .ref g.1.1), (1, .int p0)]) hx hb d_M_find_1 rfl hl (by decide) rfl (fun ls hl => ?_)
  have hl := lv_sub (l' := [(0, .ref g.1.1), (1, .int p0), (2, .int (0 : Int32))]) hl [1, 2, 0] rfl
  exact cut_2 (mu (0 : Int32) x.1.2.2.2.1 + 1) (0 : Int32) _ (Nat.lt_succ_self _) hF hs hl

def M_M_learn (g : GM) (x : Ms) (p0 : Int32) : Int32 × Ms := (bnd (M_M_find g x p0) (fun r_2 => (if r_2 < 0 then (((x.1.2.2.2.1 + (1 : Int32)) - (1 : Int32)), ((x.1.1, x.1.2.1, x.1.2.2.1, (x.1.2.2.2.1 + (1 : Int32)), x.1.2.2.2.2.1, x.1.2.2.2.2.2), x.2.1, x.2.2.1, ((upd x.2.2.2.1.1 x.1.2.2.2.1.toNatClampNeg p0), (upd x.2.2.2.1.2.1 x.1.2.2.2.1.toNatClampNeg (0 : Int32)), (upd x.2.2.2.1.2.2 x.1.2.2.2.1.toNatClampNeg (0 : Int32))), x.2.2.2.2)) else (r_2, x))))
theorem M_M_learn_eq (g : GM) (x : Ms) (p0 : Int32) : M_M_learn g x p0 = (bnd (M_M_find g x p0) (fun r_2 => (if r_2 < 0 then (((x.1.2.2.2.1 + (1 : Int32)) - (1 : Int32)), ((x.1.1, x.1.2.1, x.1.2.2.1, (x.1.2.2.2.1 + (1 : Int32)), x.1.2.2.2.2.1, x.1.2.2.2.2.2), x.2.1, x.2.2.1, ((upd x.2.2.2.1.1 x.1.2.2.2.1.toNatClampNeg p0), (upd x.2.2.2.1.2.1 x.1.2.2.2.1.toNatClampNeg (0 : Int32)), (upd x.2.2.2.1.2.2 x.1.2.2.2.1.toNatClampNeg (0 : Int32))), x.2.2.2.2)) else (r_2, x)))) := rfl
def S_M_learn (g : GM) (x : Ms) (p0 : Int32) : Prop := (S_M_find g x p0 ∧ (bnd (M_M_find g x p0) (fun r_2 => ((r_2 < 0 → (vp_in x.1.2.2.2.1 600 ∧ (vp_in x.1.2.2.2.1 600 ∧ (vp_in x.1.2.2.2.1 600 ∧ True)))) ∧ (¬ r_2 < 0 → True)))))
theorem S_M_learn_eq (g : GM) (x : Ms) (p0 : Int32) : S_M_learn g x p0 = (S_M_find g x p0 ∧ (bnd (M_M_find g x p0) (fun r_2 => ((r_2 < 0 → (vp_in x.1.2.2.2.1 600 ∧ (vp_in x.1.2.2.2.1 600 ∧ (vp_in x.1.2.2.2.1 600 ∧ True)))) ∧ (¬ r_2 < 0 → True))))) := rfl
abbrev w_M_learn : List Cond := .code y_M_learn b_M_learn 3 (some .int) :: tbW
abbrev rm_M_learn : Room := { frames := 1, cells := 0, slots := 0, locals := 22 }
set_option maxHeartbeats 4000000 in
set_option maxRecDepth 100000 in
theorem c_M_learn (l : Launch) (D : va_G) (cI cZ : ClassId) (g : GM) (hg : okM g) (x : Ms) (p0 : Int32) (hs : S_M_learn g x p0) : Met l y_M_learn w_M_learn rm_M_learn (PcW D vwCl (tyK cI cZ) [.ref g.1.1, .int p0] (wM cI cZ g x)) (va_Qi (fun (r : Int32) (u : Ms) => (r, u) = M_M_learn g x p0) (fun (u : Ms) (t : State) => va_P D vwCl (wM cI cZ g u) t.heap) (Aw (wM cI cZ g x))) 0 0 (Aw (wM cI cZ g x)) := by
  refine Met.ofW (cc := b_M_learn) (maxL := 3) (ret := (some .int)) (by decide) rfl ?_
  intro p e s m args below meth c s₁ B hml hv
  obtain ⟨rfl, hP, hK, hD0⟩ := hv
  have hx := B.exec
  have hb := B.bytes
  have hr := B.returns
  have htb : ∀ w ∈ tbW, w.before _ s = true := fun w h => atoms_spec (ws := w_M_learn) B.pre w (List.mem_cons_of_mem _ h)
  have hown : s.vm.findClass R_M = some m.cls := findClass_of_methodNamed B.named
  have hlocks := B.notSynchronized
  have hD : va_D (Aw (wM cI cZ g x)) (wM cI cZ g x) := ⟨hD0.1, fun k q hk => ⟨k, q.2, hk⟩⟩
  have hS : va_S (Aw (wM cI cZ g x)) s.heap s.heap [] := va_S.rf
  have hl := lv_entry ([.ref g.1.1, .int p0]) (n := 3) (Nat.le_of_ble_eq_true rfl)
  rw [lg_entry_eq]
  generalize (lg_sl ([.ref g.1.1, .int p0]) ++ List.replicate (3 - (lg_sl ([.ref g.1.1, .int p0])).length) Slot.unset).toArray = ls at hl ⊢
  have hl : lv_has ls 3 [(0, .ref g.1.1), (1, .int p0)] := hl
  have hF := M_M_learn_eq g x p0
  have hs := Eq.mp (S_M_learn_eq g x p0) hs
  refine lv_aload_n hx hb d_M_learn_0 rfl (lv_at hl 0 rfl) ?_
  refine lv_iload_n hx hb d_M_learn_1 rfl (lv_at hl 1 rfl) ?_
  refine cpi (As := [.int p0]) (rest := []) ⟨hx, hb, hml, hown, htb⟩ (c_M_find l D cI cZ g hg x p0 hs.1) (cwv (n := 1) htb cd_M_find k_M_71 in_M_find se_M_find ini_M hd_M_find ⟨Nat.le_of_ble_eq_true rfl, Nat.le_of_ble_eq_true rfl⟩) hK hP [0, 1, 2, 3, 4, 5, 6, 7, 8, 9, 10] rfl (ci := 3) rfl rfl rfl hl.1 rfl (Nat.le_of_ble_eq_true rfl) d_M_learn_2 ⟨Nat.zero_le _, Nat.zero_le _⟩ (fun r_2 hw_2 => ?_)
  have hF := hF.trans (bnd_eq hw_2)
  have hs := Eq.mp (bnd_eq hw_2) hs.2
  refine lv_istore_n (lv' := [(2, .int r_2), (0, .ref g.1.1), (1, .int p0)]) hx hb d_M_learn_5 rfl hl (by decide) rfl (fun ls hl => ?_)
  refine lv_iload_n hx hb d_M_learn_6 rfl (lv_at hl 0 rfl) ?_
  refine lv_if_lt (tgt := 12) hx hb d_M_learn_7 (by decide) (fun c_7 => ?_) (fun c_7 => ?_)
  · have hF := hF.trans (if_pos c_7)
    have hs := hs.1 c_7
    refine lv_aload_n hx hb d_M_learn_12 rfl (lv_at hl 1 rfl) ?_
    refine va_get (D := D) (ci := 3) (v := .ref g.1.2.2.2.2.2.2.2.1) (C := R_M) (T := T_M) (N := 20) hx hb htb i_M hown hK hP 0 rfl rfl 14 (by decide) (htb _ k_M_33) (fun _ h9 => h9) rfl d_M_learn_13 ?_
    refine lv_aload_n hx hb d_M_learn_16 rfl (lv_at hl 1 rfl) ?_
    refine va_get (D := D) (ci := 3) (v := .int x.1.2.2.2.1) (C := R_M) (T := T_M) (N := 20) hx hb htb i_M hown hK hP 0 rfl rfl 13 (by decide) (htb _ k_M_68) (fun _ h9 => h9) rfl d_M_learn_17 ?_
    refine lv_iload_n hx hb d_M_learn_20 rfl (lv_at hl 2 rfl) ?_
    refine va_iast hx hb hK hP hD hS 7 0 rfl rfl hs.1 d_M_learn_21 (fun H locs hP hD hS => ?_)
    have hs := hs.2
    have hP : va_P D vwCl (wM cI cZ g (x.1, x.2.1, x.2.2.1, ((upd x.2.2.2.1.1 x.1.2.2.2.1.toNatClampNeg p0), x.2.2.2.1.2.1, x.2.2.2.1.2.2), x.2.2.2.2)) H := hP
    have hD : va_D _ (wM cI cZ g (x.1, x.2.1, x.2.2.1, ((upd x.2.2.2.1.1 x.1.2.2.2.1.toNatClampNeg p0), x.2.2.2.1.2.1, x.2.2.2.1.2.2), x.2.2.2.2)) := hD
    refine lv_aload_n hx hb d_M_learn_22 rfl (lv_at hl 1 rfl) ?_
    refine va_get (D := D) (ci := 3) (v := .ref g.1.2.2.2.2.2.2.2.2.1) (C := R_M) (T := T_M) (N := 20) hx hb htb i_M hown hK hP 0 rfl rfl 15 (by decide) (htb _ k_M_36) (fun _ h9 => h9) rfl d_M_learn_23 ?_
    refine lv_aload_n hx hb d_M_learn_26 rfl (lv_at hl 1 rfl) ?_
    refine va_get (D := D) (ci := 3) (v := .int x.1.2.2.2.1) (C := R_M) (T := T_M) (N := 20) hx hb htb i_M hown hK hP 0 rfl rfl 13 (by decide) (htb _ k_M_68) (fun _ h9 => h9) rfl d_M_learn_27 ?_
    refine lv_iconst (v := 0) hx hb d_M_learn_30 (by decide) ?_
    refine va_iast hx hb hK hP hD hS 8 0 rfl rfl hs.1 d_M_learn_31 (fun H locs hP hD hS => ?_)
    have hs := hs.2
    have hP : va_P D vwCl (wM cI cZ g (x.1, x.2.1, x.2.2.1, ((upd x.2.2.2.1.1 x.1.2.2.2.1.toNatClampNeg p0), (upd x.2.2.2.1.2.1 x.1.2.2.2.1.toNatClampNeg (0 : Int32)), x.2.2.2.1.2.2), x.2.2.2.2)) H := hP
    have hD : va_D _ (wM cI cZ g (x.1, x.2.1, x.2.2.1, ((upd x.2.2.2.1.1 x.1.2.2.2.1.toNatClampNeg p0), (upd x.2.2.2.1.2.1 x.1.2.2.2.1.toNatClampNeg (0 : Int32)), x.2.2.2.1.2.2), x.2.2.2.2)) := hD
    refine lv_aload_n hx hb d_M_learn_32 rfl (lv_at hl 1 rfl) ?_
    refine va_get (D := D) (ci := 3) (v := .ref g.1.2.2.2.2.2.2.2.2.2.1) (C := R_M) (T := T_M) (N := 20) hx hb htb i_M hown hK hP 0 rfl rfl 16 (by decide) (htb _ k_M_39) (fun _ h9 => h9) rfl d_M_learn_33 ?_
    refine lv_aload_n hx hb d_M_learn_36 rfl (lv_at hl 1 rfl) ?_
    refine va_get (D := D) (ci := 3) (v := .int x.1.2.2.2.1) (C := R_M) (T := T_M) (N := 20) hx hb htb i_M hown hK hP 0 rfl rfl 13 (by decide) (htb _ k_M_68) (fun _ h9 => h9) rfl d_M_learn_37 ?_
    refine lv_iconst (v := 0) hx hb d_M_learn_40 (by decide) ?_
    refine va_iast hx hb hK hP hD hS 9 0 rfl rfl hs.1 d_M_learn_41 (fun H locs hP hD hS => ?_)
    have hs := hs.2
    have hP : va_P D vwCl (wM cI cZ g (x.1, x.2.1, x.2.2.1, ((upd x.2.2.2.1.1 x.1.2.2.2.1.toNatClampNeg p0), (upd x.2.2.2.1.2.1 x.1.2.2.2.1.toNatClampNeg (0 : Int32)), (upd x.2.2.2.1.2.2 x.1.2.2.2.1.toNatClampNeg (0 : Int32))), x.2.2.2.2)) H := hP
    have hD : va_D _ (wM cI cZ g (x.1, x.2.1, x.2.2.1, ((upd x.2.2.2.1.1 x.1.2.2.2.1.toNatClampNeg p0), (upd x.2.2.2.1.2.1 x.1.2.2.2.1.toNatClampNeg (0 : Int32)), (upd x.2.2.2.1.2.2 x.1.2.2.2.1.toNatClampNeg (0 : Int32))), x.2.2.2.2)) := hD
    refine lv_aload_n hx hb d_M_learn_42 rfl (lv_at hl 1 rfl) ?_
    refine lv_dup hx hb d_M_learn_43 rfl ?_
    refine va_get (D := D) (ci := 3) (v := .int x.1.2.2.2.1) (C := R_M) (T := T_M) (N := 20) hx hb htb i_M hown hK hP 0 rfl rfl 13 (by decide) (htb _ k_M_68) (fun _ h9 => h9) rfl d_M_learn_44 ?_
    refine lv_iconst (v := 1) hx hb d_M_learn_47 (by decide) ?_
    refine lv_iadd hx hb d_M_learn_48 ?_
    refine va_put (D := D) (ci := 3) (v := .int (x.1.2.2.2.1 + (1 : Int32))) (ty := .int) (C := R_M) (T := T_M) (N := 20) hx hb htb i_M ty_M tyo_M nm_M hown hK hP hD hS 0 rfl rfl 13 (by decide) (htb _ k_M_68) (fun _ h9 => h9) rfl (by decide +kernel) rfl rfl (Nat.le_of_ble_eq_true rfl) d_M_learn_49 (fun H locs hP hD hS => ?_)
    have hP : va_P D vwCl (wM cI cZ g ((x.1.1, x.1.2.1, x.1.2.2.1, (x.1.2.2.2.1 + (1 : Int32)), x.1.2.2.2.2.1, x.1.2.2.2.2.2), x.2.1, x.2.2.1, ((upd x.2.2.2.1.1 x.1.2.2.2.1.toNatClampNeg p0), (upd x.2.2.2.1.2.1 x.1.2.2.2.1.toNatClampNeg (0 : Int32)), (upd x.2.2.2.1.2.2 x.1.2.2.2.1.toNatClampNeg (0 : Int32))), x.2.2.2.2)) H := hP
    have hD : va_D _ (wM cI cZ g ((x.1.1, x.1.2.1, x.1.2.2.1, (x.1.2.2.2.1 + (1 : Int32)), x.1.2.2.2.2.1, x.1.2.2.2.2.2), x.2.1, x.2.2.1, ((upd x.2.2.2.1.1 x.1.2.2.2.1.toNatClampNeg p0), (upd x.2.2.2.1.2.1 x.1.2.2.2.1.toNatClampNeg (0 : Int32)), (upd x.2.2.2.1.2.2 x.1.2.2.2.1.toNatClampNeg (0 : Int32))), x.2.2.2.2)) := hD
    refine lv_aload_n hx hb d_M_learn_52 rfl (lv_at hl 1 rfl) ?_
    refine va_get (D := D) (ci := 3) (v := .int (x.1.2.2.2.1 + (1 : Int32))) (C := R_M) (T := T_M) (N := 20) hx hb htb i_M hown hK hP 0 rfl rfl 13 (by decide) (htb _ k_M_68) (fun _ h9 => h9) rfl d_M_learn_53 ?_
    refine lv_iconst (v := 1) hx hb d_M_learn_56 (by decide) ?_
    refine lv_isub hx hb d_M_learn_57 ?_
    exact W.iret (v := ((x.1.2.2.2.1 + (1 : Int32)) - (1 : Int32))) hx hb hr (fun t ht hW => ⟨⟨((x.1.2.2.2.1 + (1 : Int32)) - (1 : Int32)), ((x.1.1, x.1.2.1, x.1.2.2.1, (x.1.2.2.2.1 + (1 : Int32)), x.1.2.2.2.2.1, x.1.2.2.2.2.2), x.2.1, x.2.2.1, ((upd x.2.2.2.1.1 x.1.2.2.2.1.toNatClampNeg p0), (upd x.2.2.2.1.2.1 x.1.2.2.2.1.toNatClampNeg (0 : Int32)), (upd x.2.2.2.1.2.2 x.1.2.2.2.1.toNatClampNeg (0 : Int32))), x.2.2.2.2), rfl, hF.symm, by dsimp only; rw [ht]; exact hP⟩, hS.F ht⟩) hS.2.2 d_M_learn_58
  · have hF := hF.trans (if_neg c_7)
    have hs := hs.2 c_7
    refine lv_iload_n hx hb d_M_learn_10 rfl (lv_at hl 0 rfl) ?_
    exact W.iret (v := r_2) hx hb hr (fun t ht hW => ⟨⟨r_2, x, rfl, hF.symm, by dsimp only; rw [ht]; exact hP⟩, hS.F ht⟩) hS.2.2 d_M_learn_11

def M_M_sets (g : GM) (x : Ms) (p0 : Int32) : Int32 := (if p0 = (4 : Int32) then g.2.2.2.2 else g.2.2.2.1)
theorem M_M_sets_eq (g : GM) (x : Ms) (p0 : Int32) : M_M_sets g x p0 = (if p0 = (4 : Int32) then g.2.2.2.2 else g.2.2.2.1) := rfl
abbrev w_M_sets : List Cond := .code y_M_sets b_M_sets 2 (some .int) :: tbW
abbrev rm_M_sets : Room := { frames := 0, cells := 0, slots := 0, locals := 0 }
set_option maxHeartbeats 4000000 in
set_option maxRecDepth 100000 in
theorem c_M_sets (l : Launch) (D : va_G) (cI cZ : ClassId) (g : GM) (hg : okM g) (x : Ms) (p0 : Int32) : Met l y_M_sets w_M_sets rm_M_sets (PcR D vwCl (tyK cI cZ) [.ref g.1.1, .int p0] (wM cI cZ g x)) (vp_Si (fun r => r = M_M_sets g x p0)) 0 0 (fun _ => False) := by
  refine Met.ofW (cc := b_M_sets) (maxL := 2) (ret := (some .int)) (by decide) rfl ?_
  intro p e s m args below meth c s₁ B hml hv
  obtain ⟨rfl, hP, hK⟩ := hv
  have hx := B.exec
  have hb := B.bytes
  have hr := B.returns
  have htb : ∀ w ∈ tbW, w.before _ s = true := fun w h => atoms_spec (ws := w_M_sets) B.pre w (List.mem_cons_of_mem _ h)
  have hown : s.vm.findClass R_M = some m.cls := findClass_of_methodNamed B.named
  have hlocks := B.notSynchronized
  have hl := lv_entry ([.ref g.1.1, .int p0]) (n := 2) (Nat.le_of_ble_eq_true rfl)
  rw [lg_entry_eq]
  generalize (lg_sl ([.ref g.1.1, .int p0]) ++ List.replicate (2 - (lg_sl ([.ref g.1.1, .int p0])).length) Slot.unset).toArray = ls at hl ⊢
  have hl : lv_has ls 2 [(0, .ref g.1.1), (1, .int p0)] := hl
  have hF := M_M_sets_eq g x p0
  refine lv_iload_n hx hb d_M_sets_0 rfl (lv_at hl 1 rfl) ?_
  refine lv_iconst (v := 4) hx hb d_M_sets_1 (by decide) ?_
  refine lv_icmp_ne (tgt := 12) hx hb d_M_sets_2 (by decide) (fun c_2 => ?_) (fun c_2 => ?_)
  · have hF := hF.trans (if_neg c_2)
    refine lv_aload_n hx hb d_M_sets_12 rfl (lv_at hl 0 rfl) ?_
    refine va_get (D := D) (ci := 3) (v := .int g.2.2.2.1) (C := R_M) (T := T_M) (N := 20) hx hb htb i_M hown hK hP 0 rfl rfl 3 (by decide) (htb _ k_M_55) (fun _ h9 => h9) rfl d_M_sets_13 ?_
    exact W.iret (v := g.2.2.2.1) hx hb hr (fun t ht hW => ⟨_, rfl, hF.symm, ht⟩) (fun q h => by cases h) d_M_sets_16
  · have hF := hF.trans (if_pos c_2)
    refine lv_aload_n hx hb d_M_sets_5 rfl (lv_at hl 0 rfl) ?_
    refine va_get (D := D) (ci := 3) (v := .int g.2.2.2.2) (C := R_M) (T := T_M) (N := 20) hx hb htb i_M hown hK hP 0 rfl rfl 4 (by decide) (htb _ k_M_58) (fun _ h9 => h9) rfl d_M_sets_6 ?_
    refine lv_goto (tgt := 16) hx hb d_M_sets_9 (by decide) ?_
    exact W.iret (v := g.2.2.2.2) hx hb hr (fun t ht hW => ⟨_, rfl, hF.symm, ht⟩) (fun q h => by cases h) d_M_sets_16

def M_M_setOf (g : GM) (x : Ms) (p0 p1 : Int32) : Int32 := (bnd (M_M_sets g x p0) (fun r_3 => (bnd (M_M_modulo p1 r_3) (fun r_6 => r_6))))
theorem M_M_setOf_eq (g : GM) (x : Ms) (p0 p1 : Int32) : M_M_setOf g x p0 p1 = (bnd (M_M_sets g x p0) (fun r_3 => (bnd (M_M_modulo p1 r_3) (fun r_6 => r_6)))) := rfl
def S_M_setOf (g : GM) (x : Ms) (p0 p1 : Int32) : Prop := (bnd (M_M_sets g x p0) (fun r_3 => (S_M_modulo p1 r_3 ∧ (bnd (M_M_modulo p1 r_3) (fun r_6 => True)))))
theorem S_M_setOf_eq (g : GM) (x : Ms) (p0 p1 : Int32) : S_M_setOf g x p0 p1 = (bnd (M_M_sets g x p0) (fun r_3 => (S_M_modulo p1 r_3 ∧ (bnd (M_M_modulo p1 r_3) (fun r_6 => True))))) := rfl
abbrev w_M_setOf : List Cond := .code y_M_setOf b_M_setOf 3 (some .int) :: tbW
abbrev rm_M_setOf : Room := { frames := 1, cells := 0, slots := 0, locals := 21 }
set_option maxHeartbeats 4000000 in
set_option maxRecDepth 100000 in
theorem c_M_setOf (l : Launch) (D : va_G) (cI cZ : ClassId) (g : GM) (hg : okM g) (x : Ms) (p0 p1 : Int32) (hs : S_M_setOf g x p0 p1) : Met l y_M_setOf w_M_setOf rm_M_setOf (PcR D vwCl (tyK cI cZ) [.ref g.1.1, .int p0, .int p1] (wM cI cZ g x)) (vp_Si (fun r => r = M_M_setOf g x p0 p1)) 0 0 (fun _ => False) := by
  refine Met.ofW (cc := b_M_setOf) (maxL := 3) (ret := (some .int)) (by decide) rfl ?_
  intro p e s m args below meth c s₁ B hml hv
  obtain ⟨rfl, hP, hK⟩ := hv
  have hx := B.exec
  have hb := B.bytes
  have hr := B.returns
  have htb : ∀ w ∈ tbW, w.before _ s = true := fun w h => atoms_spec (ws := w_M_setOf) B.pre w (List.mem_cons_of_mem _ h)
  have hown : s.vm.findClass R_M = some m.cls := findClass_of_methodNamed B.named
  have hlocks := B.notSynchronized
  have hl := lv_entry ([.ref g.1.1, .int p0, .int p1]) (n := 3) (Nat.le_of_ble_eq_true rfl)
  rw [lg_entry_eq]
  generalize (lg_sl ([.ref g.1.1, .int p0, .int p1]) ++ List.replicate (3 - (lg_sl ([.ref g.1.1, .int p0, .int p1])).length) Slot.unset).toArray = ls at hl ⊢
  have hl : lv_has ls 3 [(0, .ref g.1.1), (1, .int p0), (2, .int p1)] := hl
  have hF := M_M_setOf_eq g x p0 p1
  have hs := Eq.mp (S_M_setOf_eq g x p0 p1) hs
  refine lv_iload_n hx hb d_M_setOf_0 rfl (lv_at hl 2 rfl) ?_
  refine lv_aload_n hx hb d_M_setOf_1 rfl (lv_at hl 0 rfl) ?_
  refine lv_iload_n hx hb d_M_setOf_2 rfl (lv_at hl 1 rfl) ?_
  refine cpi (As := [.int p0]) (rest := [.int p1]) ⟨hx, hb, hml, hown, htb⟩ (c_M_sets l D cI cZ g hg x p0) (cwv (n := 1) htb cd_M_sets k_M_75 in_M_sets se_M_sets ini_M hd_M_sets ⟨Nat.le_of_ble_eq_true rfl, Nat.le_of_ble_eq_true rfl⟩) hK hP [0, 1, 2, 3, 4, 5, 6, 7, 8, 9, 10] rfl (ci := 3) rfl rfl rfl hl.1 rfl (Nat.le_of_ble_eq_true rfl) d_M_setOf_3 ⟨Nat.zero_le _, Nat.zero_le _⟩ (fun r_3 hw_3 => ?_)
  have hF := hF.trans (bnd_eq hw_3)
  have hs := Eq.mp (bnd_eq hw_3) hs
  refine cps (As := [.int p1, .int r_3]) (rest := []) ⟨hx, hb, hml, hown, htb⟩ (c_M_modulo l p1 r_3 hs.1) (cws (n := 2) htb cd_M_modulo k_M_48 st_M_modulo ini_M hd_M_modulo ⟨Nat.le_of_ble_eq_true rfl, Nat.le_of_ble_eq_true rfl⟩) rfl hl.1 rfl (Nat.le_of_ble_eq_true rfl) d_M_setOf_6 ⟨Nat.zero_le _, Nat.zero_le _⟩ (fun r_6 hw_6 => ?_)
  have hF := hF.trans (bnd_eq hw_6)
  have hs := Eq.mp (bnd_eq hw_6) hs.2
  exact W.iret (v := r_6) hx hb hr (fun t ht hW => ⟨_, rfl, hF.symm, ht⟩) (fun q h => by cases h) d_M_setOf_9

def L_M_at_5 (g : GM) (x : Ms) (p0 p1 : Int32) : Nat → Int32 → Int32
  | 0, _ => 0
  | n + 1, v3 => (if (((64 : Int32) * p0) + (x.2.1.1 p0.toNatClampNeg)) ≤ v3 then (-1 : Int32) else (if (x.2.1.2.1 v3.toNatClampNeg) = p1 then v3 else L_M_at_5 g x p0 p1 n (v3 + 1)))
theorem L_M_at_5_eq (g : GM) (x : Ms) (p0 p1 : Int32) (n : Nat) (v3 : Int32) : L_M_at_5 g x p0 p1 (n + 1) v3 = (if (((64 : Int32) * p0) + (x.2.1.1 p0.toNatClampNeg)) ≤ v3 then (-1 : Int32) else (if (x.2.1.2.1 v3.toNatClampNeg) = p1 then v3 else L_M_at_5 g x p0 p1 n (v3 + 1))) := by first | rfl | rw [L_M_at_5]
def S_M_at_5 (g : GM) (x : Ms) (p0 p1 : Int32) : Nat → Int32 → Prop
  | 0, _ => True
  | n + 1, v3 => (vp_in p0 5 ∧ (((((64 : Int32) * p0) + (x.2.1.1 p0.toNatClampNeg)) ≤ v3 → True) ∧ (¬ (((64 : Int32) * p0) + (x.2.1.1 p0.toNatClampNeg)) ≤ v3 → (vp_in v3 320 ∧ (((x.2.1.2.1 v3.toNatClampNeg) = p1 → True) ∧ (¬ (x.2.1.2.1 v3.toNatClampNeg) = p1 → (mu (v3 + 1) (((64 : Int32) * p0) + (x.2.1.1 p0.toNatClampNeg)) < mu v3 (((64 : Int32) * p0) + (x.2.1.1 p0.toNatClampNeg)) ∧ S_M_at_5 g x p0 p1 n (v3 + 1))))))))
theorem S_M_at_5_eq (g : GM) (x : Ms) (p0 p1 : Int32) (n : Nat) (v3 : Int32) : S_M_at_5 g x p0 p1 (n + 1) v3 = (vp_in p0 5 ∧ (((((64 : Int32) * p0) + (x.2.1.1 p0.toNatClampNeg)) ≤ v3 → True) ∧ (¬ (((64 : Int32) * p0) + (x.2.1.1 p0.toNatClampNeg)) ≤ v3 → (vp_in v3 320 ∧ (((x.2.1.2.1 v3.toNatClampNeg) = p1 → True) ∧ (¬ (x.2.1.2.1 v3.toNatClampNeg) = p1 → (mu (v3 + 1) (((64 : Int32) * p0) + (x.2.1.1 p0.toNatClampNeg)) < mu v3 (((64 : Int32) * p0) + (x.2.1.1 p0.toNatClampNeg)) ∧ S_M_at_5 g x p0 p1 n (v3 + 1)))))))) := by first | rfl | rw [S_M_at_5]
def M_M_at (g : GM) (x : Ms) (p0 p1 : Int32) : Int32 := L_M_at_5 g x p0 p1 (mu ((64 : Int32) * p0) (((64 : Int32) * p0) + (x.2.1.1 p0.toNatClampNeg)) + 1) ((64 : Int32) * p0)
theorem M_M_at_eq (g : GM) (x : Ms) (p0 p1 : Int32) : M_M_at g x p0 p1 = L_M_at_5 g x p0 p1 (mu ((64 : Int32) * p0) (((64 : Int32) * p0) + (x.2.1.1 p0.toNatClampNeg)) + 1) ((64 : Int32) * p0) := rfl
def S_M_at (g : GM) (x : Ms) (p0 p1 : Int32) : Prop := S_M_at_5 g x p0 p1 (mu ((64 : Int32) * p0) (((64 : Int32) * p0) + (x.2.1.1 p0.toNatClampNeg)) + 1) ((64 : Int32) * p0)
theorem S_M_at_eq (g : GM) (x : Ms) (p0 p1 : Int32) : S_M_at g x p0 p1 = S_M_at_5 g x p0 p1 (mu ((64 : Int32) * p0) (((64 : Int32) * p0) + (x.2.1.1 p0.toNatClampNeg)) + 1) ((64 : Int32) * p0) := rfl
abbrev w_M_at : List Cond := .code y_M_at b_M_at 4 (some .int) :: tbW
abbrev rm_M_at : Room := { frames := 0, cells := 0, slots := 0, locals := 0 }
set_option maxHeartbeats 4000000 in
set_option maxRecDepth 100000 in
theorem c_M_at (l : Launch) (D : va_G) (cI cZ : ClassId) (g : GM) (hg : okM g) (x : Ms) (p0 p1 : Int32) (hs : S_M_at g x p0 p1) : Met l y_M_at w_M_at rm_M_at (PcR D vwCl (tyK cI cZ) [.ref g.1.1, .int p0, .int p1] (wM cI cZ g x)) (vp_Si (fun r => r = M_M_at g x p0 p1)) 0 0 (fun _ => False) := by
  refine Met.ofW (cc := b_M_at) (maxL := 4) (ret := (some .int)) (by decide) rfl ?_
  intro p e s m args below meth c s₁ B hml hv
  obtain ⟨rfl, hP, hK⟩ := hv
  have hx := B.exec
  have hb := B.bytes
  have hr := B.returns
  have htb : ∀ w ∈ tbW, w.before _ s = true := fun w h => atoms_spec (ws := w_M_at) B.pre w (List.mem_cons_of_mem _ h)
  have hown : s.vm.findClass R_M = some m.cls := findClass_of_methodNamed B.named
  have hlocks := B.notSynchronized
  have cut_5 : ∀ (n : Nat) (v3 : Int32) (ls : Array Slot), mu v3 (((64 : Int32) * p0) + (x.2.1.1 p0.toNatClampNeg)) < n → M_M_at g x p0 p1 = L_M_at_5 g x p0 p1 n v3 → S_M_at_5 g x p0 p1 n v3 → lv_has ls 4 [(0, .ref g.1.1), (1, .int p0), (2, .int p1), (3, .int v3)] → W p l e (headSpec w_M_at rm_M_at).room s m ([.ref g.1.1, .int p0, .int p1] : List Value).toArray below meth c s.heap [] 0 0 (MQ below (vp_Si (fun r => r = M_M_at g x p0 p1)) ([.ref g.1.1, .int p0, .int p1] : List Value).toArray s 0 0 (fun _ => False)) (F0 m 5 ls []) := by
    intro n
    induction n with
    | zero => intro v3 ls hm _ _ _; exact absurd hm (Nat.not_lt_zero _)
    | succ n ih =>
      intro v3 ls hm hF hs hl
      have hF := hF.trans (L_M_at_5_eq g x p0 p1 n v3)
      have hs := Eq.mp (S_M_at_5_eq g x p0 p1 n v3) hs
      refine lv_iload_n hx hb d_M_at_5 rfl (lv_at hl 3 rfl) ?_
      refine lv_bipush (v := 64) hx hb d_M_at_6 (by decide) ?_
      refine lv_iload_n hx hb d_M_at_8 rfl (lv_at hl 1 rfl) ?_
      refine lv_imul hx hb d_M_at_9 ?_
      refine lv_aload_n hx hb d_M_at_10 rfl (lv_at hl 0 rfl) ?_
      refine va_get (D := D) (ci := 3) (v := .ref g.1.2.1) (C := R_M) (T := T_M) (N := 20) hx hb htb i_M hown hK hP 0 rfl rfl 5 (by decide) (htb _ k_M_7) (fun _ h9 => h9) rfl d_M_at_11 ?_
      refine lv_iload_n hx hb d_M_at_14 rfl (lv_at hl 1 rfl) ?_
      refine va_iald hx hb hK hP 1 0 rfl rfl hs.1 d_M_at_15 ?_
      have hs := hs.2
      refine lv_iadd hx hb d_M_at_16 ?_
      refine lv_icmp_ge (tgt := 38) hx hb d_M_at_17 (by decide) (fun c_17 => ?_) (fun c_17 => ?_)
      · have hF := hF.trans (if_pos c_17)
        have hs := hs.1 c_17
        refine lv_iconst (v := -1) hx hb d_M_at_38 (by decide) ?_
        exact W.iret (v := (-1 : Int32)) hx hb hr (fun t ht hW => ⟨_, rfl, hF.symm, ht⟩) (fun q h => by cases h) d_M_at_39
      · have hF := hF.trans (if_neg c_17)
        have hs := hs.2 c_17
        refine lv_aload_n hx hb d_M_at_20 rfl (lv_at hl 0 rfl) ?_
        refine va_get (D := D) (ci := 3) (v := .ref g.1.2.2.1) (C := R_M) (T := T_M) (N := 20) hx hb htb i_M hown hK hP 0 rfl rfl 6 (by decide) (htb _ k_M_13) (fun _ h9 => h9) rfl d_M_at_21 ?_
        refine lv_iload_n hx hb d_M_at_24 rfl (lv_at hl 3 rfl) ?_
        refine va_iald hx hb hK hP 2 0 rfl rfl hs.1 d_M_at_25 ?_
        have hs := hs.2
        refine lv_iload_n hx hb d_M_at_26 rfl (lv_at hl 2 rfl) ?_
        refine lv_icmp_ne (tgt := 32) hx hb d_M_at_27 (by decide) (fun c_27 => ?_) (fun c_27 => ?_)
        · have hF := hF.trans (if_neg c_27)
          have hs := hs.2 c_27
          refine lv_iinc (v := (v3 + 1)) (lv' := [(3, .int (v3 + 1)), (0, .ref g.1.1), (1, .int p0), (2, .int p1)]) hx hb d_M_at_32 hl (k := 3) rfl rfl (by decide) rfl (fun ls hl => ?_)
          refine lv_goto (tgt := 5) hx hb d_M_at_35 (by decide) ?_
          have hl := lv_sub (l' := [(0, .ref g.1.1), (1, .int p0), (2, .int p1), (3, .int (v3 + 1))]) hl [1, 2, 3, 0] rfl
          exact ih (v3 + 1) _ (Nat.lt_of_lt_of_le hs.1 (Nat.le_of_lt_succ hm)) hF hs.2 hl
        · have hF := hF.trans (if_pos c_27)
          have hs := hs.1 c_27
          refine lv_iload_n hx hb d_M_at_30 rfl (lv_at hl 3 rfl) ?_
          exact W.iret (v := v3) hx hb hr (fun t ht hW => ⟨_, rfl, hF.symm, ht⟩) (fun q h => by cases h) d_M_at_31
  have hl := lv_entry ([.ref g.1.1, .int p0, .int p1]) (n := 4) (Nat.le_of_ble_eq_true rfl)
  rw [lg_entry_eq]
  generalize (lg_sl ([.ref g.1.1, .int p0, .int p1]) ++ List.replicate (4 - (lg_sl ([.ref g.1.1, .int p0, .int p1])).length) Slot.unset).toArray = ls at hl ⊢
  have hl : lv_has ls 4 [(0, .ref g.1.1), (1, .int p0), (2, .int p1)] := hl
  have hF := M_M_at_eq g x p0 p1
  have hs := Eq.mp (S_M_at_eq g x p0 p1) hs
  refine lv_bipush (v := 64) hx hb d_M_at_0 (by decide) ?_
  refine lv_iload_n hx hb d_M_at_2 rfl (lv_at hl 1 rfl) ?_
  refine lv_imul hx hb d_M_at_3 ?_
  refine lv_istore_n (lv' := [(3, .int ((64 : Int32) * p0)), (0, .ref g.1.1), (1, .int p0), (2, .int p1)]) hx hb d_M_at_4 rfl hl (by decide) rfl (fun ls hl => ?_)
  have hl := lv_sub (l' := [(0, .ref g.1.1), (1, .int p0), (2, .int p1), (3, .int ((64 : Int32) * p0))]) hl [1, 2, 3, 0] rfl
  exact cut_5 (mu ((64 : Int32) * p0) (((64 : Int32) * p0) + (x.2.1.1 p0.toNatClampNeg)) + 1) ((64 : Int32) * p0) _ (Nat.lt_succ_self _) hF hs hl

def M_M_copy (g : GM) (x : Ms) (p0 p1 : Int32) : Ms := (x.1, (x.2.1.1, (upd x.2.1.2.1 p0.toNatClampNeg (x.2.1.2.1 p1.toNatClampNeg)), (upd x.2.1.2.2.1 p0.toNatClampNeg (vp_nar .boolean (x.2.1.2.2.1 p1.toNatClampNeg))), (upd x.2.1.2.2.2.1 p0.toNatClampNeg (x.2.1.2.2.2.1 p1.toNatClampNeg)), (upd x.2.1.2.2.2.2 p0.toNatClampNeg (x.2.1.2.2.2.2 p1.toNatClampNeg))), x.2.2.1, x.2.2.2.1, x.2.2.2.2)
theorem M_M_copy_eq (g : GM) (x : Ms) (p0 p1 : Int32) : M_M_copy g x p0 p1 = (x.1, (x.2.1.1, (upd x.2.1.2.1 p0.toNatClampNeg (x.2.1.2.1 p1.toNatClampNeg)), (upd x.2.1.2.2.1 p0.toNatClampNeg (vp_nar .boolean (x.2.1.2.2.1 p1.toNatClampNeg))), (upd x.2.1.2.2.2.1 p0.toNatClampNeg (x.2.1.2.2.2.1 p1.toNatClampNeg)), (upd x.2.1.2.2.2.2 p0.toNatClampNeg (x.2.1.2.2.2.2 p1.toNatClampNeg))), x.2.2.1, x.2.2.2.1, x.2.2.2.2) := rfl
def S_M_copy (g : GM) (x : Ms) (p0 p1 : Int32) : Prop := (vp_in p1 320 ∧ (vp_in p0 320 ∧ (vp_in p1 320 ∧ (vp_in p0 320 ∧ (vp_in p1 320 ∧ (vp_in p0 320 ∧ (vp_in p1 320 ∧ (vp_in p0 320 ∧ True))))))))
theorem S_M_copy_eq (g : GM) (x : Ms) (p0 p1 : Int32) : S_M_copy g x p0 p1 = (vp_in p1 320 ∧ (vp_in p0 320 ∧ (vp_in p1 320 ∧ (vp_in p0 320 ∧ (vp_in p1 320 ∧ (vp_in p0 320 ∧ (vp_in p1 320 ∧ (vp_in p0 320 ∧ True)))))))) := rfl
abbrev w_M_copy : List Cond := .code y_M_copy b_M_copy 3 none :: tbW
abbrev rm_M_copy : Room := { frames := 0, cells := 0, slots := 0, locals := 0 }
set_option maxHeartbeats 4000000 in
set_option maxRecDepth 100000 in
theorem c_M_copy (l : Launch) (D : va_G) (cI cZ : ClassId) (g : GM) (hg : okM g) (x : Ms) (p0 p1 : Int32) (hs : S_M_copy g x p0 p1) : Met l y_M_copy w_M_copy rm_M_copy (PcW D vwCl (tyK cI cZ) [.ref g.1.1, .int p0, .int p1] (wM cI cZ g x)) (va_Qv (fun (u : Ms) => u = M_M_copy g x p0 p1) (fun (u : Ms) (t : State) => va_P D vwCl (wM cI cZ g u) t.heap) (Aw (wM cI cZ g x))) 0 0 (Aw (wM cI cZ g x)) := by
  refine Met.ofW (cc := b_M_copy) (maxL := 3) (ret := none) (by decide) rfl ?_
  intro p e s m args below meth c s₁ B hml hv
  obtain ⟨rfl, hP, hK, hD0⟩ := hv
  have hx := B.exec
  have hb := B.bytes
  have hr := B.returns
  have htb : ∀ w ∈ tbW, w.before _ s = true := fun w h => atoms_spec (ws := w_M_copy) B.pre w (List.mem_cons_of_mem _ h)
  have hown : s.vm.findClass R_M = some m.cls := findClass_of_methodNamed B.named
  have hlocks := B.notSynchronized
  have hD : va_D (Aw (wM cI cZ g x)) (wM cI cZ g x) := ⟨hD0.1, fun k q hk => ⟨k, q.2, hk⟩⟩
  have hS : va_S (Aw (wM cI cZ g x)) s.heap s.heap [] := va_S.rf
  have hl := lv_entry ([.ref g.1.1, .int p0, .int p1]) (n := 3) (Nat.le_of_ble_eq_true rfl)
  rw [lg_entry_eq]
  generalize (lg_sl ([.ref g.1.1, .int p0, .int p1]) ++ List.replicate (3 - (lg_sl ([.ref g.1.1, .int p0, .int p1])).length) Slot.unset).toArray = ls at hl ⊢
  have hl : lv_has ls 3 [(0, .ref g.1.1), (1, .int p0), (2, .int p1)] := hl
  have hF := M_M_copy_eq g x p0 p1
  have hs := Eq.mp (S_M_copy_eq g x p0 p1) hs
  refine lv_aload_n hx hb d_M_copy_0 rfl (lv_at hl 0 rfl) ?_
  refine va_get (D := D) (ci := 3) (v := .ref g.1.2.2.1) (C := R_M) (T := T_M) (N := 20) hx hb htb i_M hown hK hP 0 rfl rfl 6 (by decide) (htb _ k_M_13) (fun _ h9 => h9) rfl d_M_copy_1 ?_
  refine lv_iload_n hx hb d_M_copy_4 rfl (lv_at hl 1 rfl) ?_
  refine lv_aload_n hx hb d_M_copy_5 rfl (lv_at hl 0 rfl) ?_
  refine va_get (D := D) (ci := 3) (v := .ref g.1.2.2.1) (C := R_M) (T := T_M) (N := 20) hx hb htb i_M hown hK hP 0 rfl rfl 6 (by decide) (htb _ k_M_13) (fun _ h9 => h9) rfl d_M_copy_6 ?_
  refine lv_iload_n hx hb d_M_copy_9 rfl (lv_at hl 2 rfl) ?_
  refine va_iald hx hb hK hP 2 0 rfl rfl hs.1 d_M_copy_10 ?_
  have hs := hs.2
  refine va_iast hx hb hK hP hD hS 2 0 rfl rfl hs.1 d_M_copy_11 (fun H locs hP hD hS => ?_)
  have hs := hs.2
  have hP : va_P D vwCl (wM cI cZ g (x.1, (x.2.1.1, (upd x.2.1.2.1 p0.toNatClampNeg (x.2.1.2.1 p1.toNatClampNeg)), x.2.1.2.2.1, x.2.1.2.2.2.1, x.2.1.2.2.2.2), x.2.2.1, x.2.2.2.1, x.2.2.2.2)) H := hP
  have hD : va_D _ (wM cI cZ g (x.1, (x.2.1.1, (upd x.2.1.2.1 p0.toNatClampNeg (x.2.1.2.1 p1.toNatClampNeg)), x.2.1.2.2.1, x.2.1.2.2.2.1, x.2.1.2.2.2.2), x.2.2.1, x.2.2.2.1, x.2.2.2.2)) := hD
  refine lv_aload_n hx hb d_M_copy_12 rfl (lv_at hl 0 rfl) ?_
  refine va_get (D := D) (ci := 3) (v := .ref g.1.2.2.2.1) (C := R_M) (T := T_M) (N := 20) hx hb htb i_M hown hK hP 0 rfl rfl 7 (by decide) (htb _ k_M_16) (fun _ h9 => h9) rfl d_M_copy_13 ?_
  refine lv_iload_n hx hb d_M_copy_16 rfl (lv_at hl 1 rfl) ?_
  refine lv_aload_n hx hb d_M_copy_17 rfl (lv_at hl 0 rfl) ?_
  refine va_get (D := D) (ci := 3) (v := .ref g.1.2.2.2.1) (C := R_M) (T := T_M) (N := 20) hx hb htb i_M hown hK hP 0 rfl rfl 7 (by decide) (htb _ k_M_16) (fun _ h9 => h9) rfl d_M_copy_18 ?_
  refine lv_iload_n hx hb d_M_copy_21 rfl (lv_at hl 2 rfl) ?_
  refine va_zald hx hb hK hP 3 1 rfl rfl hs.1 d_M_copy_22 ?_
  have hs := hs.2
  refine va_zast hx hb hK hP hD hS 3 1 rfl rfl hs.1 d_M_copy_23 (fun H locs hP hD hS => ?_)
  have hs := hs.2
  have hP : va_P D vwCl (wM cI cZ g (x.1, (x.2.1.1, (upd x.2.1.2.1 p0.toNatClampNeg (x.2.1.2.1 p1.toNatClampNeg)), (upd x.2.1.2.2.1 p0.toNatClampNeg (vp_nar .boolean (x.2.1.2.2.1 p1.toNatClampNeg))), x.2.1.2.2.2.1, x.2.1.2.2.2.2), x.2.2.1, x.2.2.2.1, x.2.2.2.2)) H := hP
  have hD : va_D _ (wM cI cZ g (x.1, (x.2.1.1, (upd x.2.1.2.1 p0.toNatClampNeg (x.2.1.2.1 p1.toNatClampNeg)), (upd x.2.1.2.2.1 p0.toNatClampNeg (vp_nar .boolean (x.2.1.2.2.1 p1.toNatClampNeg))), x.2.1.2.2.2.1, x.2.1.2.2.2.2), x.2.2.1, x.2.2.2.1, x.2.2.2.2)) := hD
  refine lv_aload_n hx hb d_M_copy_24 rfl (lv_at hl 0 rfl) ?_
  refine va_get (D := D) (ci := 3) (v := .ref g.1.2.2.2.2.1) (C := R_M) (T := T_M) (N := 20) hx hb htb i_M hown hK hP 0 rfl rfl 8 (by decide) (htb _ k_M_20) (fun _ h9 => h9) rfl d_M_copy_25 ?_
  refine lv_iload_n hx hb d_M_copy_28 rfl (lv_at hl 1 rfl) ?_
  refine lv_aload_n hx hb d_M_copy_29 rfl (lv_at hl 0 rfl) ?_
  refine va_get (D := D) (ci := 3) (v := .ref g.1.2.2.2.2.1) (C := R_M) (T := T_M) (N := 20) hx hb htb i_M hown hK hP 0 rfl rfl 8 (by decide) (htb _ k_M_20) (fun _ h9 => h9) rfl d_M_copy_30 ?_
  refine lv_iload_n hx hb d_M_copy_33 rfl (lv_at hl 2 rfl) ?_
  refine va_iald hx hb hK hP 4 0 rfl rfl hs.1 d_M_copy_34 ?_
  have hs := hs.2
  refine va_iast hx hb hK hP hD hS 4 0 rfl rfl hs.1 d_M_copy_35 (fun H locs hP hD hS => ?_)
  have hs := hs.2
  have hP : va_P D vwCl (wM cI cZ g (x.1, (x.2.1.1, (upd x.2.1.2.1 p0.toNatClampNeg (x.2.1.2.1 p1.toNatClampNeg)), (upd x.2.1.2.2.1 p0.toNatClampNeg (vp_nar .boolean (x.2.1.2.2.1 p1.toNatClampNeg))), (upd x.2.1.2.2.2.1 p0.toNatClampNeg (x.2.1.2.2.2.1 p1.toNatClampNeg)), x.2.1.2.2.2.2), x.2.2.1, x.2.2.2.1, x.2.2.2.2)) H := hP
  have hD : va_D _ (wM cI cZ g (x.1, (x.2.1.1, (upd x.2.1.2.1 p0.toNatClampNeg (x.2.1.2.1 p1.toNatClampNeg)), (upd x.2.1.2.2.1 p0.toNatClampNeg (vp_nar .boolean (x.2.1.2.2.1 p1.toNatClampNeg))), (upd x.2.1.2.2.2.1 p0.toNatClampNeg (x.2.1.2.2.2.1 p1.toNatClampNeg)), x.2.1.2.2.2.2), x.2.2.1, x.2.2.2.1, x.2.2.2.2)) := hD
  refine lv_aload_n hx hb d_M_copy_36 rfl (lv_at hl 0 rfl) ?_
  refine va_get (D := D) (ci := 3) (v := .ref g.1.2.2.2.2.2.1) (C := R_M) (T := T_M) (N := 20) hx hb htb i_M hown hK hP 0 rfl rfl 9 (by decide) (htb _ k_M_23) (fun _ h9 => h9) rfl d_M_copy_37 ?_
  refine lv_iload_n hx hb d_M_copy_40 rfl (lv_at hl 1 rfl) ?_
  refine lv_aload_n hx hb d_M_copy_41 rfl (lv_at hl 0 rfl) ?_
  refine va_get (D := D) (ci := 3) (v := .ref g.1.2.2.2.2.2.1) (C := R_M) (T := T_M) (N := 20) hx hb htb i_M hown hK hP 0 rfl rfl 9 (by decide) (htb _ k_M_23) (fun _ h9 => h9) rfl d_M_copy_42 ?_
  refine lv_iload_n hx hb d_M_copy_45 rfl (lv_at hl 2 rfl) ?_
  refine va_iald hx hb hK hP 5 0 rfl rfl hs.1 d_M_copy_46 ?_
  have hs := hs.2
  refine va_iast hx hb hK hP hD hS 5 0 rfl rfl hs.1 d_M_copy_47 (fun H locs hP hD hS => ?_)
  have hs := hs.2
  have hP : va_P D vwCl (wM cI cZ g (x.1, (x.2.1.1, (upd x.2.1.2.1 p0.toNatClampNeg (x.2.1.2.1 p1.toNatClampNeg)), (upd x.2.1.2.2.1 p0.toNatClampNeg (vp_nar .boolean (x.2.1.2.2.1 p1.toNatClampNeg))), (upd x.2.1.2.2.2.1 p0.toNatClampNeg (x.2.1.2.2.2.1 p1.toNatClampNeg)), (upd x.2.1.2.2.2.2 p0.toNatClampNeg (x.2.1.2.2.2.2 p1.toNatClampNeg))), x.2.2.1, x.2.2.2.1, x.2.2.2.2)) H := hP
  have hD : va_D _ (wM cI cZ g (x.1, (x.2.1.1, (upd x.2.1.2.1 p0.toNatClampNeg (x.2.1.2.1 p1.toNatClampNeg)), (upd x.2.1.2.2.1 p0.toNatClampNeg (vp_nar .boolean (x.2.1.2.2.1 p1.toNatClampNeg))), (upd x.2.1.2.2.2.1 p0.toNatClampNeg (x.2.1.2.2.2.1 p1.toNatClampNeg)), (upd x.2.1.2.2.2.2 p0.toNatClampNeg (x.2.1.2.2.2.2 p1.toNatClampNeg))), x.2.2.1, x.2.2.2.1, x.2.2.2.2)) := hD
  exact W.vret hx hb hr (fun t ht hW => ⟨⟨(x.1, (x.2.1.1, (upd x.2.1.2.1 p0.toNatClampNeg (x.2.1.2.1 p1.toNatClampNeg)), (upd x.2.1.2.2.1 p0.toNatClampNeg (vp_nar .boolean (x.2.1.2.2.1 p1.toNatClampNeg))), (upd x.2.1.2.2.2.1 p0.toNatClampNeg (x.2.1.2.2.2.1 p1.toNatClampNeg)), (upd x.2.1.2.2.2.2 p0.toNatClampNeg (x.2.1.2.2.2.2 p1.toNatClampNeg))), x.2.2.1, x.2.2.2.1, x.2.2.2.2), rfl, hF.symm, by dsimp only; rw [ht]; exact hP⟩, hS.F ht⟩) hS.2.2 d_M_copy_48

def L_M_takeOut_12 (g : GM) (p0 p1 : Int32) : Nat → Int32 → Ms → Ms
  | 0, _, z => z
  | n + 1, v3, z => (if (((64 : Int32) * p0) + (z.2.1.1 p0.toNatClampNeg)) ≤ v3 then z else (bnd (M_M_copy g z v3 (v3 + (1 : Int32))) (fun u_32 => L_M_takeOut_12 g p0 p1 n (v3 + 1) u_32)))
theorem L_M_takeOut_12_eq (g : GM) (p0 p1 : Int32) (n : Nat) (v3 : Int32) (z : Ms) : L_M_takeOut_12 g p0 p1 (n + 1) v3 z = (if (((64 : Int32) * p0) + (z.2.1.1 p0.toNatClampNeg)) ≤ v3 then z else (bnd (M_M_copy g z v3 (v3 + (1 : Int32))) (fun u_32 => L_M_takeOut_12 g p0 p1 n (v3 + 1) u_32))) := by first | rfl | rw [L_M_takeOut_12]
def S_M_takeOut_12 (g : GM) (p0 p1 : Int32) : Nat → Int32 → Ms → Prop
  | 0, _, _ => True
  | n + 1, v3, z => (vp_in p0 5 ∧ (((((64 : Int32) * p0) + (z.2.1.1 p0.toNatClampNeg)) ≤ v3 → True) ∧ (¬ (((64 : Int32) * p0) + (z.2.1.1 p0.toNatClampNeg)) ≤ v3 → (S_M_copy g z v3 (v3 + (1 : Int32)) ∧ (bnd (M_M_copy g z v3 (v3 + (1 : Int32))) (fun u_32 => (mu (v3 + 1) (((64 : Int32) * p0) + (u_32.2.1.1 p0.toNatClampNeg)) < mu v3 (((64 : Int32) * p0) + (z.2.1.1 p0.toNatClampNeg)) ∧ S_M_takeOut_12 g p0 p1 n (v3 + 1) u_32)))))))
theorem S_M_takeOut_12_eq (g : GM) (p0 p1 : Int32) (n : Nat) (v3 : Int32) (z : Ms) : S_M_takeOut_12 g p0 p1 (n + 1) v3 z = (vp_in p0 5 ∧ (((((64 : Int32) * p0) + (z.2.1.1 p0.toNatClampNeg)) ≤ v3 → True) ∧ (¬ (((64 : Int32) * p0) + (z.2.1.1 p0.toNatClampNeg)) ≤ v3 → (S_M_copy g z v3 (v3 + (1 : Int32)) ∧ (bnd (M_M_copy g z v3 (v3 + (1 : Int32))) (fun u_32 => (mu (v3 + 1) (((64 : Int32) * p0) + (u_32.2.1.1 p0.toNatClampNeg)) < mu v3 (((64 : Int32) * p0) + (z.2.1.1 p0.toNatClampNeg)) ∧ S_M_takeOut_12 g p0 p1 n (v3 + 1) u_32))))))) := by first | rfl | rw [S_M_takeOut_12]
def M_M_takeOut (g : GM) (x : Ms) (p0 p1 : Int32) : Ms := L_M_takeOut_12 g p0 p1 (mu p1 (((64 : Int32) * p0) + ((x.1, ((upd x.2.1.1 p0.toNatClampNeg ((x.2.1.1 p0.toNatClampNeg) - (1 : Int32))), x.2.1.2.1, x.2.1.2.2.1, x.2.1.2.2.2.1, x.2.1.2.2.2.2), x.2.2.1, x.2.2.2.1, x.2.2.2.2).2.1.1 p0.toNatClampNeg)) + 1) p1 (x.1, ((upd x.2.1.1 p0.toNatClampNeg ((x.2.1.1 p0.toNatClampNeg) - (1 : Int32))), x.2.1.2.1, x.2.1.2.2.1, x.2.1.2.2.2.1, x.2.1.2.2.2.2), x.2.2.1, x.2.2.2.1, x.2.2.2.2)
theorem M_M_takeOut_eq (g : GM) (x : Ms) (p0 p1 : Int32) : M_M_takeOut g x p0 p1 = L_M_takeOut_12 g p0 p1 (mu p1 (((64 : Int32) * p0) + ((x.1, ((upd x.2.1.1 p0.toNatClampNeg ((x.2.1.1 p0.toNatClampNeg) - (1 : Int32))), x.2.1.2.1, x.2.1.2.2.1, x.2.1.2.2.2.1, x.2.1.2.2.2.2), x.2.2.1, x.2.2.2.1, x.2.2.2.2).2.1.1 p0.toNatClampNeg)) + 1) p1 (x.1, ((upd x.2.1.1 p0.toNatClampNeg ((x.2.1.1 p0.toNatClampNeg) - (1 : Int32))), x.2.1.2.1, x.2.1.2.2.1, x.2.1.2.2.2.1, x.2.1.2.2.2.2), x.2.2.1, x.2.2.2.1, x.2.2.2.2) := rfl
def S_M_takeOut (g : GM) (x : Ms) (p0 p1 : Int32) : Prop := (vp_in p0 5 ∧ (vp_in p0 5 ∧ S_M_takeOut_12 g p0 p1 (mu p1 (((64 : Int32) * p0) + ((x.1, ((upd x.2.1.1 p0.toNatClampNeg ((x.2.1.1 p0.toNatClampNeg) - (1 : Int32))), x.2.1.2.1, x.2.1.2.2.1, x.2.1.2.2.2.1, x.2.1.2.2.2.2), x.2.2.1, x.2.2.2.1, x.2.2.2.2).2.1.1 p0.toNatClampNeg)) + 1) p1 (x.1, ((upd x.2.1.1 p0.toNatClampNeg ((x.2.1.1 p0.toNatClampNeg) - (1 : Int32))), x.2.1.2.1, x.2.1.2.2.1, x.2.1.2.2.2.1, x.2.1.2.2.2.2), x.2.2.1, x.2.2.2.1, x.2.2.2.2)))
theorem S_M_takeOut_eq (g : GM) (x : Ms) (p0 p1 : Int32) : S_M_takeOut g x p0 p1 = (vp_in p0 5 ∧ (vp_in p0 5 ∧ S_M_takeOut_12 g p0 p1 (mu p1 (((64 : Int32) * p0) + ((x.1, ((upd x.2.1.1 p0.toNatClampNeg ((x.2.1.1 p0.toNatClampNeg) - (1 : Int32))), x.2.1.2.1, x.2.1.2.2.1, x.2.1.2.2.2.1, x.2.1.2.2.2.2), x.2.2.1, x.2.2.2.1, x.2.2.2.2).2.1.1 p0.toNatClampNeg)) + 1) p1 (x.1, ((upd x.2.1.1 p0.toNatClampNeg ((x.2.1.1 p0.toNatClampNeg) - (1 : Int32))), x.2.1.2.1, x.2.1.2.2.1, x.2.1.2.2.2.1, x.2.1.2.2.2.2), x.2.2.1, x.2.2.2.1, x.2.2.2.2))) := rfl
abbrev w_M_takeOut : List Cond := .code y_M_takeOut b_M_takeOut 4 none :: tbW
abbrev rm_M_takeOut : Room := { frames := 1, cells := 0, slots := 0, locals := 22 }
set_option maxHeartbeats 4000000 in
set_option maxRecDepth 100000 in
theorem c_M_takeOut (l : Launch) (D : va_G) (cI cZ : ClassId) (g : GM) (hg : okM g) (x : Ms) (p0 p1 : Int32) (hs : S_M_takeOut g x p0 p1) : Met l y_M_takeOut w_M_takeOut rm_M_takeOut (PcW D vwCl (tyK cI cZ) [.ref g.1.1, .int p0, .int p1] (wM cI cZ g x)) (va_Qv (fun (u : Ms) => u = M_M_takeOut g x p0 p1) (fun (u : Ms) (t : State) => va_P D vwCl (wM cI cZ g u) t.heap) (Aw (wM cI cZ g x))) 0 0 (Aw (wM cI cZ g x)) := by
  refine Met.ofW (cc := b_M_takeOut) (maxL := 4) (ret := none) (by decide) rfl ?_
  intro p e s m args below meth c s₁ B hml hv
  obtain ⟨rfl, hP, hK, hD0⟩ := hv
  have hx := B.exec
  have hb := B.bytes
  have hr := B.returns
  have htb : ∀ w ∈ tbW, w.before _ s = true := fun w h => atoms_spec (ws := w_M_takeOut) B.pre w (List.mem_cons_of_mem _ h)
  have hown : s.vm.findClass R_M = some m.cls := findClass_of_methodNamed B.named
  have hlocks := B.notSynchronized
  have hD : va_D (Aw (wM cI cZ g x)) (wM cI cZ g x) := ⟨hD0.1, fun k q hk => ⟨k, q.2, hk⟩⟩
  have hS : va_S (Aw (wM cI cZ g x)) s.heap s.heap [] := va_S.rf
  have cut_12 : ∀ (n : Nat) (v3 : Int32) (z : Ms) (H : Heap) (locs : List Loc) (ls : Array Slot), mu v3 (((64 : Int32) * p0) + (z.2.1.1 p0.toNatClampNeg)) < n → M_M_takeOut g x p0 p1 = L_M_takeOut_12 g p0 p1 n v3 z → S_M_takeOut_12 g p0 p1 n v3 z → va_P D vwCl (wM cI cZ g z) H → va_D (Aw (wM cI cZ g x)) (wM cI cZ g z) → va_S (Aw (wM cI cZ g x)) s.heap H locs → lv_has ls 4 [(0, .ref g.1.1), (1, .int p0), (2, .int p1), (3, .int v3)] → W p l e (headSpec w_M_takeOut rm_M_takeOut).room s m ([.ref g.1.1, .int p0, .int p1] : List Value).toArray below meth c H locs 0 0 (MQ below (va_Qv (fun (u : Ms) => u = M_M_takeOut g x p0 p1) (fun (u : Ms) (t : State) => va_P D vwCl (wM cI cZ g u) t.heap) (Aw (wM cI cZ g x))) ([.ref g.1.1, .int p0, .int p1] : List Value).toArray s 0 0 (Aw (wM cI cZ g x))) (F0 m 12 ls []) := by
    intro n
    induction n with
    | zero => intro v3 z H locs ls hm _ _ _ _ _ _; exact absurd hm (Nat.not_lt_zero _)
    | succ n ih =>
      intro v3 z H locs ls hm hF hs hP hD hS hl
      have hF := hF.trans (L_M_takeOut_12_eq g p0 p1 n v3 z)
      have hs := Eq.mp (S_M_takeOut_12_eq g p0 p1 n v3 z) hs
      refine lv_iload_n hx hb d_M_takeOut_12 rfl (lv_at hl 3 rfl) ?_
      refine lv_bipush (v := 64) hx hb d_M_takeOut_13 (by decide) ?_
      refine lv_iload_n hx hb d_M_takeOut_15 rfl (lv_at hl 1 rfl) ?_
      refine lv_imul hx hb d_M_takeOut_16 ?_
      refine lv_aload_n hx hb d_M_takeOut_17 rfl (lv_at hl 0 rfl) ?_
      refine va_get (D := D) (ci := 3) (v := .ref g.1.2.1) (C := R_M) (T := T_M) (N := 20) hx hb htb i_M hown hK hP 0 rfl rfl 5 (by decide) (htb _ k_M_7) (fun _ h9 => h9) rfl d_M_takeOut_18 ?_
      refine lv_iload_n hx hb d_M_takeOut_21 rfl (lv_at hl 1 rfl) ?_
      refine va_iald hx hb hK hP 1 0 rfl rfl hs.1 d_M_takeOut_22 ?_
      have hs := hs.2
      refine lv_iadd hx hb d_M_takeOut_23 ?_
      refine lv_icmp_ge (tgt := 41) hx hb d_M_takeOut_24 (by decide) (fun c_24 => ?_) (fun c_24 => ?_)
      · have hF := hF.trans (if_pos c_24)
        have hs := hs.1 c_24
        exact W.vret hx hb hr (fun t ht hW => ⟨⟨z, rfl, hF.symm, by dsimp only; rw [ht]; exact hP⟩, hS.F ht⟩) hS.2.2 d_M_takeOut_41
      · have hF := hF.trans (if_neg c_24)
        have hs := hs.2 c_24
        refine lv_aload_n hx hb d_M_takeOut_27 rfl (lv_at hl 0 rfl) ?_
        refine lv_iload_n hx hb d_M_takeOut_28 rfl (lv_at hl 3 rfl) ?_
        refine lv_iload_n hx hb d_M_takeOut_29 rfl (lv_at hl 3 rfl) ?_
        refine lv_iconst (v := 1) hx hb d_M_takeOut_30 (by decide) ?_
        refine lv_iadd hx hb d_M_takeOut_31 ?_
        refine cwv_ (As := [.int v3, .int (v3 + (1 : Int32))]) (rest := []) (wldC := fun u => (wM cI cZ g u)) ⟨hx, hb, hml, hown, htb⟩ (c_M_copy l D cI cZ g hg z v3 (v3 + (1 : Int32)) hs.1) (cwv (n := 2) htb cd_M_copy k_M_78 in_M_copy se_M_copy ini_M hd_M_copy ⟨Nat.le_of_ble_eq_true rfl, Nat.le_of_ble_eq_true rfl⟩) hK hP hD hS [0, 1, 2, 3, 4, 5, 6, 7, 8, 9, 10] [] [0, 1, 2, 3, 4, 5, 6, 7, 8, 9, 10] rfl rfl (by decide) (by decide) rfl (fun _ => rfl) (fun _ => rfl) (ci := 3) rfl rfl rfl hl.1 rfl (Nat.le_of_ble_eq_true rfl) d_M_takeOut_32 ⟨Nat.zero_le _, Nat.zero_le _⟩ (fun u_32 H locs hw_32 hP hD hS => ?_)
        have hP : va_P D vwCl (wM cI cZ g u_32) H := hP
        have hD : va_D _ (wM cI cZ g u_32) := hD
        have hF := hF.trans (bnd_eq hw_32)
        have hs := Eq.mp (bnd_eq hw_32) hs.2
        refine lv_iinc (v := (v3 + 1)) (lv' := [(3, .int (v3 + 1)), (0, .ref g.1.1), (1, .int p0), (2, .int p1)]) hx hb d_M_takeOut_35 hl (k := 3) rfl rfl (by decide) rfl (fun ls hl => ?_)
        refine lv_goto (tgt := 12) hx hb d_M_takeOut_38 (by decide) ?_
        have hl := lv_sub (l' := [(0, .ref g.1.1), (1, .int p0), (2, .int p1), (3, .int (v3 + 1))]) hl [1, 2, 3, 0] rfl
        exact ih (v3 + 1) u_32 _ _ _ (Nat.lt_of_lt_of_le hs.1 (Nat.le_of_lt_succ hm)) hF hs.2 hP hD hS hl
  have hl := lv_entry ([.ref g.1.1, .int p0, .int p1]) (n := 4) (Nat.le_of_ble_eq_true rfl)
  rw [lg_entry_eq]
  generalize (lg_sl ([.ref g.1.1, .int p0, .int p1]) ++ List.replicate (4 - (lg_sl ([.ref g.1.1, .int p0, .int p1])).length) Slot.unset).toArray = ls at hl ⊢
  have hl : lv_has ls 4 [(0, .ref g.1.1), (1, .int p0), (2, .int p1)] := hl
  have hF := M_M_takeOut_eq g x p0 p1
  have hs := Eq.mp (S_M_takeOut_eq g x p0 p1) hs
  refine lv_aload_n hx hb d_M_takeOut_0 rfl (lv_at hl 0 rfl) ?_
  refine va_get (D := D) (ci := 3) (v := .ref g.1.2.1) (C := R_M) (T := T_M) (N := 20) hx hb htb i_M hown hK hP 0 rfl rfl 5 (by decide) (htb _ k_M_7) (fun _ h9 => h9) rfl d_M_takeOut_1 ?_
  refine lv_iload_n hx hb d_M_takeOut_4 rfl (lv_at hl 1 rfl) ?_
  refine lv_dup2_11 hx hb d_M_takeOut_5 rfl rfl ?_
  refine va_iald hx hb hK hP 1 0 rfl rfl hs.1 d_M_takeOut_6 ?_
  have hs := hs.2
  refine lv_iconst (v := 1) hx hb d_M_takeOut_7 (by decide) ?_
  refine lv_isub hx hb d_M_takeOut_8 ?_
  refine va_iast hx hb hK hP hD hS 1 0 rfl rfl hs.1 d_M_takeOut_9 (fun H locs hP hD hS => ?_)
  have hs := hs.2
  have hP : va_P D vwCl (wM cI cZ g (x.1, ((upd x.2.1.1 p0.toNatClampNeg ((x.2.1.1 p0.toNatClampNeg) - (1 : Int32))), x.2.1.2.1, x.2.1.2.2.1, x.2.1.2.2.2.1, x.2.1.2.2.2.2), x.2.2.1, x.2.2.2.1, x.2.2.2.2)) H := hP
  have hD : va_D _ (wM cI cZ g (x.1, ((upd x.2.1.1 p0.toNatClampNeg ((x.2.1.1 p0.toNatClampNeg) - (1 : Int32))), x.2.1.2.1, x.2.1.2.2.1, x.2.1.2.2.2.1, x.2.1.2.2.2.2), x.2.2.1, x.2.2.2.1, x.2.2.2.2)) := hD
  refine lv_iload_n hx hb d_M_takeOut_10 rfl (lv_at hl 2 rfl) ?_
  refine lv_istore_n (lv' := [(3, .int p1), (0, .ref g.1.1), (1, .int p0), (2, .int p1)]) hx hb d_M_takeOut_11 rfl hl (by decide) rfl (fun ls hl => ?_)
  have hl := lv_sub (l' := [(0, .ref g.1.1), (1, .int p0), (2, .int p1), (3, .int p1)]) hl [1, 2, 3, 0] rfl
  exact cut_12 (mu p1 (((64 : Int32) * p0) + ((x.1, ((upd x.2.1.1 p0.toNatClampNeg ((x.2.1.1 p0.toNatClampNeg) - (1 : Int32))), x.2.1.2.1, x.2.1.2.2.1, x.2.1.2.2.2.1, x.2.1.2.2.2.2), x.2.2.1, x.2.2.2.1, x.2.2.2.2).2.1.1 p0.toNatClampNeg)) + 1) p1 (x.1, ((upd x.2.1.1 p0.toNatClampNeg ((x.2.1.1 p0.toNatClampNeg) - (1 : Int32))), x.2.1.2.1, x.2.1.2.2.1, x.2.1.2.2.2.1, x.2.1.2.2.2.2), x.2.2.1, x.2.2.2.1, x.2.2.2.2) _ _ _ (Nat.lt_succ_self _) hF hs hP hD hS hl

def L_M_putFirst_13 (g : GM) (p0 p1 p2 p3 p4 : Int32) : Nat → Int32 → Ms → Ms
  | 0, _, z => z
  | n + 1, v6, z => (if v6 ≤ ((64 : Int32) * p0) then (z.1, ((upd z.2.1.1 p0.toNatClampNeg ((z.2.1.1 p0.toNatClampNeg) + (1 : Int32))), (upd z.2.1.2.1 ((64 : Int32) * p0).toNatClampNeg p1), (upd z.2.1.2.2.1 ((64 : Int32) * p0).toNatClampNeg (vp_nar .boolean p2)), (upd z.2.1.2.2.2.1 ((64 : Int32) * p0).toNatClampNeg p3), (upd z.2.1.2.2.2.2 ((64 : Int32) * p0).toNatClampNeg p4)), z.2.2.1, z.2.2.2.1, z.2.2.2.2) else (bnd (M_M_copy g z v6 (v6 - (1 : Int32))) (fun u_29 => L_M_putFirst_13 g p0 p1 p2 p3 p4 n (v6 + (-1)) u_29)))
theorem L_M_putFirst_13_eq (g : GM) (p0 p1 p2 p3 p4 : Int32) (n : Nat) (v6 : Int32) (z : Ms) : L_M_putFirst_13 g p0 p1 p2 p3 p4 (n + 1) v6 z = (if v6 ≤ ((64 : Int32) * p0) then (z.1, ((upd z.2.1.1 p0.toNatClampNeg ((z.2.1.1 p0.toNatClampNeg) + (1 : Int32))), (upd z.2.1.2.1 ((64 : Int32) * p0).toNatClampNeg p1), (upd z.2.1.2.2.1 ((64 : Int32) * p0).toNatClampNeg (vp_nar .boolean p2)), (upd z.2.1.2.2.2.1 ((64 : Int32) * p0).toNatClampNeg p3), (upd z.2.1.2.2.2.2 ((64 : Int32) * p0).toNatClampNeg p4)), z.2.2.1, z.2.2.2.1, z.2.2.2.2) else (bnd (M_M_copy g z v6 (v6 - (1 : Int32))) (fun u_29 => L_M_putFirst_13 g p0 p1 p2 p3 p4 n (v6 + (-1)) u_29))) := by first | rfl | rw [L_M_putFirst_13]
def S_M_putFirst_13 (g : GM) (p0 p1 p2 p3 p4 : Int32) : Nat → Int32 → Ms → Prop
  | 0, _, _ => True
  | n + 1, v6, z => ((v6 ≤ ((64 : Int32) * p0) → (vp_in p0 5 ∧ (vp_in p0 5 ∧ (vp_in ((64 : Int32) * p0) 320 ∧ (vp_in ((64 : Int32) * p0) 320 ∧ (vp_in ((64 : Int32) * p0) 320 ∧ (vp_in ((64 : Int32) * p0) 320 ∧ True))))))) ∧ (¬ v6 ≤ ((64 : Int32) * p0) → (S_M_copy g z v6 (v6 - (1 : Int32)) ∧ (bnd (M_M_copy g z v6 (v6 - (1 : Int32))) (fun u_29 => (mu ((64 : Int32) * p0) (v6 + (-1)) < mu ((64 : Int32) * p0) v6 ∧ S_M_putFirst_13 g p0 p1 p2 p3 p4 n (v6 + (-1)) u_29))))))
theorem S_M_putFirst_13_eq (g : GM) (p0 p1 p2 p3 p4 : Int32) (n : Nat) (v6 : Int32) (z : Ms) : S_M_putFirst_13 g p0 p1 p2 p3 p4 (n + 1) v6 z = ((v6 ≤ ((64 : Int32) * p0) → (vp_in p0 5 ∧ (vp_in p0 5 ∧ (vp_in ((64 : Int32) * p0) 320 ∧ (vp_in ((64 : Int32) * p0) 320 ∧ (vp_in ((64 : Int32) * p0) 320 ∧ (vp_in ((64 : Int32) * p0) 320 ∧ True))))))) ∧ (¬ v6 ≤ ((64 : Int32) * p0) → (S_M_copy g z v6 (v6 - (1 : Int32)) ∧ (bnd (M_M_copy g z v6 (v6 - (1 : Int32))) (fun u_29 => (mu ((64 : Int32) * p0) (v6 + (-1)) < mu ((64 : Int32) * p0) v6 ∧ S_M_putFirst_13 g p0 p1 p2 p3 p4 n (v6 + (-1)) u_29)))))) := by first | rfl | rw [S_M_putFirst_13]
def M_M_putFirst (g : GM) (x : Ms) (p0 p1 p2 p3 p4 : Int32) : Ms := L_M_putFirst_13 g p0 p1 p2 p3 p4 (mu ((64 : Int32) * p0) (((64 : Int32) * p0) + (x.2.1.1 p0.toNatClampNeg)) + 1) (((64 : Int32) * p0) + (x.2.1.1 p0.toNatClampNeg)) x
theorem M_M_putFirst_eq (g : GM) (x : Ms) (p0 p1 p2 p3 p4 : Int32) : M_M_putFirst g x p0 p1 p2 p3 p4 = L_M_putFirst_13 g p0 p1 p2 p3 p4 (mu ((64 : Int32) * p0) (((64 : Int32) * p0) + (x.2.1.1 p0.toNatClampNeg)) + 1) (((64 : Int32) * p0) + (x.2.1.1 p0.toNatClampNeg)) x := rfl
def S_M_putFirst (g : GM) (x : Ms) (p0 p1 p2 p3 p4 : Int32) : Prop := (vp_in p0 5 ∧ S_M_putFirst_13 g p0 p1 p2 p3 p4 (mu ((64 : Int32) * p0) (((64 : Int32) * p0) + (x.2.1.1 p0.toNatClampNeg)) + 1) (((64 : Int32) * p0) + (x.2.1.1 p0.toNatClampNeg)) x)
theorem S_M_putFirst_eq (g : GM) (x : Ms) (p0 p1 p2 p3 p4 : Int32) : S_M_putFirst g x p0 p1 p2 p3 p4 = (vp_in p0 5 ∧ S_M_putFirst_13 g p0 p1 p2 p3 p4 (mu ((64 : Int32) * p0) (((64 : Int32) * p0) + (x.2.1.1 p0.toNatClampNeg)) + 1) (((64 : Int32) * p0) + (x.2.1.1 p0.toNatClampNeg)) x) := rfl
abbrev w_M_putFirst : List Cond := .code y_M_putFirst b_M_putFirst 7 none :: tbW
abbrev rm_M_putFirst : Room := { frames := 1, cells := 0, slots := 0, locals := 22 }
set_option maxHeartbeats 4000000 in
set_option maxRecDepth 100000 in
theorem c_M_putFirst (l : Launch) (D : va_G) (cI cZ : ClassId) (g : GM) (hg : okM g) (x : Ms) (p0 p1 p2 p3 p4 : Int32) (hs : S_M_putFirst g x p0 p1 p2 p3 p4) : Met l y_M_putFirst w_M_putFirst rm_M_putFirst (PcW D vwCl (tyK cI cZ) [.ref g.1.1, .int p0, .int p1, .int p2, .int p3, .int p4] (wM cI cZ g x)) (va_Qv (fun (u : Ms) => u = M_M_putFirst g x p0 p1 p2 p3 p4) (fun (u : Ms) (t : State) => va_P D vwCl (wM cI cZ g u) t.heap) (Aw (wM cI cZ g x))) 0 0 (Aw (wM cI cZ g x)) := by
  refine Met.ofW (cc := b_M_putFirst) (maxL := 7) (ret := none) (by decide) rfl ?_
  intro p e s m args below meth c s₁ B hml hv
  obtain ⟨rfl, hP, hK, hD0⟩ := hv
  have hx := B.exec
  have hb := B.bytes
  have hr := B.returns
  have htb : ∀ w ∈ tbW, w.before _ s = true := fun w h => atoms_spec (ws := w_M_putFirst) B.pre w (List.mem_cons_of_mem _ h)
  have hown : s.vm.findClass R_M = some m.cls := findClass_of_methodNamed B.named
  have hlocks := B.notSynchronized
  have hD : va_D (Aw (wM cI cZ g x)) (wM cI cZ g x) := ⟨hD0.1, fun k q hk => ⟨k, q.2, hk⟩⟩
  have hS : va_S (Aw (wM cI cZ g x)) s.heap s.heap [] := va_S.rf
  have cut_13 : ∀ (n : Nat) (v6 : Int32) (z : Ms) (H : Heap) (locs : List Loc) (ls : Array Slot), mu ((64 : Int32) * p0) v6 < n → M_M_putFirst g x p0 p1 p2 p3 p4 = L_M_putFirst_13 g p0 p1 p2 p3 p4 n v6 z → S_M_putFirst_13 g p0 p1 p2 p3 p4 n v6 z → va_P D vwCl (wM cI cZ g z) H → va_D (Aw (wM cI cZ g x)) (wM cI cZ g z) → va_S (Aw (wM cI cZ g x)) s.heap H locs → lv_has ls 7 [(0, .ref g.1.1), (1, .int p0), (2, .int p1), (3, .int p2), (4, .int p3), (5, .int p4), (6, .int v6)] → W p l e (headSpec w_M_putFirst rm_M_putFirst).room s m ([.ref g.1.1, .int p0, .int p1, .int p2, .int p3, .int p4] : List Value).toArray below meth c H locs 0 0 (MQ below (va_Qv (fun (u : Ms) => u = M_M_putFirst g x p0 p1 p2 p3 p4) (fun (u : Ms) (t : State) => va_P D vwCl (wM cI cZ g u) t.heap) (Aw (wM cI cZ g x))) ([.ref g.1.1, .int p0, .int p1, .int p2, .int p3, .int p4] : List Value).toArray s 0 0 (Aw (wM cI cZ g x))) (F0 m 13 ls []) := by
    intro n
    induction n with
    | zero => intro v6 z H locs ls hm _ _ _ _ _ _; exact absurd hm (Nat.not_lt_zero _)
    | succ n ih =>
      intro v6 z H locs ls hm hF hs hP hD hS hl
      have hF := hF.trans (L_M_putFirst_13_eq g p0 p1 p2 p3 p4 n v6 z)
      have hs := Eq.mp (S_M_putFirst_13_eq g p0 p1 p2 p3 p4 n v6 z) hs
      refine lv_iload hx hb d_M_putFirst_13 (lv_at hl 6 rfl) ?_
      refine lv_bipush (v := 64) hx hb d_M_putFirst_15 (by decide) ?_
      refine lv_iload_n hx hb d_M_putFirst_17 rfl (lv_at hl 1 rfl) ?_
      refine lv_imul hx hb d_M_putFirst_18 ?_
      refine lv_icmp_le (tgt := 38) hx hb d_M_putFirst_19 (by decide) (fun c_19 => ?_) (fun c_19 => ?_)
      · have hF := hF.trans (if_pos c_19)
        have hs := hs.1 c_19
        refine lv_aload_n hx hb d_M_putFirst_38 rfl (lv_at hl 0 rfl) ?_
        refine va_get (D := D) (ci := 3) (v := .ref g.1.2.1) (C := R_M) (T := T_M) (N := 20) hx hb htb i_M hown hK hP 0 rfl rfl 5 (by decide) (htb _ k_M_7) (fun _ h9 => h9) rfl d_M_putFirst_39 ?_
        refine lv_iload_n hx hb d_M_putFirst_42 rfl (lv_at hl 1 rfl) ?_
        refine lv_dup2_11 hx hb d_M_putFirst_43 rfl rfl ?_
        refine va_iald hx hb hK hP 1 0 rfl rfl hs.1 d_M_putFirst_44 ?_
        have hs := hs.2
        refine lv_iconst (v := 1) hx hb d_M_putFirst_45 (by decide) ?_
        refine lv_iadd hx hb d_M_putFirst_46 ?_
        refine va_iast hx hb hK hP hD hS 1 0 rfl rfl hs.1 d_M_putFirst_47 (fun H locs hP hD hS => ?_)
        have hs := hs.2
        have hP : va_P D vwCl (wM cI cZ g (z.1, ((upd z.2.1.1 p0.toNatClampNeg ((z.2.1.1 p0.toNatClampNeg) + (1 : Int32))), z.2.1.2.1, z.2.1.2.2.1, z.2.1.2.2.2.1, z.2.1.2.2.2.2), z.2.2.1, z.2.2.2.1, z.2.2.2.2)) H := hP
        have hD : va_D _ (wM cI cZ g (z.1, ((upd z.2.1.1 p0.toNatClampNeg ((z.2.1.1 p0.toNatClampNeg) + (1 : Int32))), z.2.1.2.1, z.2.1.2.2.1, z.2.1.2.2.2.1, z.2.1.2.2.2.2), z.2.2.1, z.2.2.2.1, z.2.2.2.2)) := hD
        refine lv_bipush (v := 64) hx hb d_M_putFirst_48 (by decide) ?_
        refine lv_iload_n hx hb d_M_putFirst_50 rfl (lv_at hl 1 rfl) ?_
        refine lv_imul hx hb d_M_putFirst_51 ?_
        refine lv_istore (lv' := [(6, .int ((64 : Int32) * p0)), (0, .ref g.1.1), (1, .int p0), (2, .int p1), (3, .int p2), (4, .int p3), (5, .int p4)]) hx hb d_M_putFirst_52 hl (by decide) rfl (fun ls hl => ?_)
        refine lv_aload_n hx hb d_M_putFirst_54 rfl (lv_at hl 1 rfl) ?_
        refine va_get (D := D) (ci := 3) (v := .ref g.1.2.2.1) (C := R_M) (T := T_M) (N := 20) hx hb htb i_M hown hK hP 0 rfl rfl 6 (by decide) (htb _ k_M_13) (fun _ h9 => h9) rfl d_M_putFirst_55 ?_
        refine lv_iload hx hb d_M_putFirst_58 (lv_at hl 0 rfl) ?_
        refine lv_iload_n hx hb d_M_putFirst_60 rfl (lv_at hl 3 rfl) ?_
        refine va_iast hx hb hK hP hD hS 2 0 rfl rfl hs.1 d_M_putFirst_61 (fun H locs hP hD hS => ?_)
        have hs := hs.2
        have hP : va_P D vwCl (wM cI cZ g (z.1, ((upd z.2.1.1 p0.toNatClampNeg ((z.2.1.1 p0.toNatClampNeg) + (1 : Int32))), (upd z.2.1.2.1 ((64 : Int32) * p0).toNatClampNeg p1), z.2.1.2.2.1, z.2.1.2.2.2.1, z.2.1.2.2.2.2), z.2.2.1, z.2.2.2.1, z.2.2.2.2)) H := hP
        have hD : va_D _ (wM cI cZ g (z.1, ((upd z.2.1.1 p0.toNatClampNeg ((z.2.1.1 p0.toNatClampNeg) + (1 : Int32))), (upd z.2.1.2.1 ((64 : Int32) * p0).toNatClampNeg p1), z.2.1.2.2.1, z.2.1.2.2.2.1, z.2.1.2.2.2.2), z.2.2.1, z.2.2.2.1, z.2.2.2.2)) := hD
        refine lv_aload_n hx hb d_M_putFirst_62 rfl (lv_at hl 1 rfl) ?_
        refine va_get (D := D) (ci := 3) (v := .ref g.1.2.2.2.1) (C := R_M) (T := T_M) (N := 20) hx hb htb i_M hown hK hP 0 rfl rfl 7 (by decide) (htb _ k_M_16) (fun _ h9 => h9) rfl d_M_putFirst_63 ?_
        refine lv_iload hx hb d_M_putFirst_66 (lv_at hl 0 rfl) ?_
        refine lv_iload_n hx hb d_M_putFirst_68 rfl (lv_at hl 4 rfl) ?_
        refine va_zast hx hb hK hP hD hS 3 1 rfl rfl hs.1 d_M_putFirst_69 (fun H locs hP hD hS => ?_)
        have hs := hs.2
        have hP : va_P D vwCl (wM cI cZ g (z.1, ((upd z.2.1.1 p0.toNatClampNeg ((z.2.1.1 p0.toNatClampNeg) + (1 : Int32))), (upd z.2.1.2.1 ((64 : Int32) * p0).toNatClampNeg p1), (upd z.2.1.2.2.1 ((64 : Int32) * p0).toNatClampNeg (vp_nar .boolean p2)), z.2.1.2.2.2.1, z.2.1.2.2.2.2), z.2.2.1, z.2.2.2.1, z.2.2.2.2)) H := hP
        have hD : va_D _ (wM cI cZ g (z.1, ((upd z.2.1.1 p0.toNatClampNeg ((z.2.1.1 p0.toNatClampNeg) + (1 : Int32))), (upd z.2.1.2.1 ((64 : Int32) * p0).toNatClampNeg p1), (upd z.2.1.2.2.1 ((64 : Int32) * p0).toNatClampNeg (vp_nar .boolean p2)), z.2.1.2.2.2.1, z.2.1.2.2.2.2), z.2.2.1, z.2.2.2.1, z.2.2.2.2)) := hD
        refine lv_aload_n hx hb d_M_putFirst_70 rfl (lv_at hl 1 rfl) ?_
        refine va_get (D := D) (ci := 3) (v := .ref g.1.2.2.2.2.1) (C := R_M) (T := T_M) (N := 20) hx hb htb i_M hown hK hP 0 rfl rfl 8 (by decide) (htb _ k_M_20) (fun _ h9 => h9) rfl d_M_putFirst_71 ?_
        refine lv_iload hx hb d_M_putFirst_74 (lv_at hl 0 rfl) ?_
        refine lv_iload hx hb d_M_putFirst_76 (lv_at hl 5 rfl) ?_
        refine va_iast hx hb hK hP hD hS 4 0 rfl rfl hs.1 d_M_putFirst_78 (fun H locs hP hD hS => ?_)
        have hs := hs.2
        have hP : va_P D vwCl (wM cI cZ g (z.1, ((upd z.2.1.1 p0.toNatClampNeg ((z.2.1.1 p0.toNatClampNeg) + (1 : Int32))), (upd z.2.1.2.1 ((64 : Int32) * p0).toNatClampNeg p1), (upd z.2.1.2.2.1 ((64 : Int32) * p0).toNatClampNeg (vp_nar .boolean p2)), (upd z.2.1.2.2.2.1 ((64 : Int32) * p0).toNatClampNeg p3), z.2.1.2.2.2.2), z.2.2.1, z.2.2.2.1, z.2.2.2.2)) H := hP
        have hD : va_D _ (wM cI cZ g (z.1, ((upd z.2.1.1 p0.toNatClampNeg ((z.2.1.1 p0.toNatClampNeg) + (1 : Int32))), (upd z.2.1.2.1 ((64 : Int32) * p0).toNatClampNeg p1), (upd z.2.1.2.2.1 ((64 : Int32) * p0).toNatClampNeg (vp_nar .boolean p2)), (upd z.2.1.2.2.2.1 ((64 : Int32) * p0).toNatClampNeg p3), z.2.1.2.2.2.2), z.2.2.1, z.2.2.2.1, z.2.2.2.2)) := hD
        refine lv_aload_n hx hb d_M_putFirst_79 rfl (lv_at hl 1 rfl) ?_
        refine va_get (D := D) (ci := 3) (v := .ref g.1.2.2.2.2.2.1) (C := R_M) (T := T_M) (N := 20) hx hb htb i_M hown hK hP 0 rfl rfl 9 (by decide) (htb _ k_M_23) (fun _ h9 => h9) rfl d_M_putFirst_80 ?_
        refine lv_iload hx hb d_M_putFirst_83 (lv_at hl 0 rfl) ?_
        refine lv_iload hx hb d_M_putFirst_85 (lv_at hl 6 rfl) ?_
        refine va_iast hx hb hK hP hD hS 5 0 rfl rfl hs.1 d_M_putFirst_87 (fun H locs hP hD hS => ?_)
        have hs := hs.2
        have hP : va_P D vwCl (wM cI cZ g (z.1, ((upd z.2.1.1 p0.toNatClampNeg ((z.2.1.1 p0.toNatClampNeg) + (1 : Int32))), (upd z.2.1.2.1 ((64 : Int32) * p0).toNatClampNeg p1), (upd z.2.1.2.2.1 ((64 : Int32) * p0).toNatClampNeg (vp_nar .boolean p2)), (upd z.2.1.2.2.2.1 ((64 : Int32) * p0).toNatClampNeg p3), (upd z.2.1.2.2.2.2 ((64 : Int32) * p0).toNatClampNeg p4)), z.2.2.1, z.2.2.2.1, z.2.2.2.2)) H := hP
        have hD : va_D _ (wM cI cZ g (z.1, ((upd z.2.1.1 p0.toNatClampNeg ((z.2.1.1 p0.toNatClampNeg) + (1 : Int32))), (upd z.2.1.2.1 ((64 : Int32) * p0).toNatClampNeg p1), (upd z.2.1.2.2.1 ((64 : Int32) * p0).toNatClampNeg (vp_nar .boolean p2)), (upd z.2.1.2.2.2.1 ((64 : Int32) * p0).toNatClampNeg p3), (upd z.2.1.2.2.2.2 ((64 : Int32) * p0).toNatClampNeg p4)), z.2.2.1, z.2.2.2.1, z.2.2.2.2)) := hD
        exact W.vret hx hb hr (fun t ht hW => ⟨⟨(z.1, ((upd z.2.1.1 p0.toNatClampNeg ((z.2.1.1 p0.toNatClampNeg) + (1 : Int32))), (upd z.2.1.2.1 ((64 : Int32) * p0).toNatClampNeg p1), (upd z.2.1.2.2.1 ((64 : Int32) * p0).toNatClampNeg (vp_nar .boolean p2)), (upd z.2.1.2.2.2.1 ((64 : Int32) * p0).toNatClampNeg p3), (upd z.2.1.2.2.2.2 ((64 : Int32) * p0).toNatClampNeg p4)), z.2.2.1, z.2.2.2.1, z.2.2.2.2), rfl, hF.symm, by dsimp only; rw [ht]; exact hP⟩, hS.F ht⟩) hS.2.2 d_M_putFirst_88
      · have hF := hF.trans (if_neg c_19)
        have hs := hs.2 c_19
        refine lv_aload_n hx hb d_M_putFirst_22 rfl (lv_at hl 0 rfl) ?_
        refine lv_iload hx hb d_M_putFirst_23 (lv_at hl 6 rfl) ?_
        refine lv_iload hx hb d_M_putFirst_25 (lv_at hl 6 rfl) ?_
        refine lv_iconst (v := 1) hx hb d_M_putFirst_27 (by decide) ?_
        refine lv_isub hx hb d_M_putFirst_28 ?_
        refine cwv_ (As := [.int v6, .int (v6 - (1 : Int32))]) (rest := []) (wldC := fun u => (wM cI cZ g u)) ⟨hx, hb, hml, hown, htb⟩ (c_M_copy l D cI cZ g hg z v6 (v6 - (1 : Int32)) hs.1) (cwv (n := 2) htb cd_M_copy k_M_78 in_M_copy se_M_copy ini_M hd_M_copy ⟨Nat.le_of_ble_eq_true rfl, Nat.le_of_ble_eq_true rfl⟩) hK hP hD hS [0, 1, 2, 3, 4, 5, 6, 7, 8, 9, 10] [] [0, 1, 2, 3, 4, 5, 6, 7, 8, 9, 10] rfl rfl (by decide) (by decide) rfl (fun _ => rfl) (fun _ => rfl) (ci := 3) rfl rfl rfl hl.1 rfl (Nat.le_of_ble_eq_true rfl) d_M_putFirst_29 ⟨Nat.zero_le _, Nat.zero_le _⟩ (fun u_29 H locs hw_29 hP hD hS => ?_)
        have hP : va_P D vwCl (wM cI cZ g u_29) H := hP
        have hD : va_D _ (wM cI cZ g u_29) := hD
        have hF := hF.trans (bnd_eq hw_29)
        have hs := Eq.mp (bnd_eq hw_29) hs.2
        refine lv_iinc (v := (v6 + (-1))) (lv' := [(6, .int (v6 + (-1))), (0, .ref g.1.1), (1, .int p0), (2, .int p1), (3, .int p2), (4, .int p3), (5, .int p4)]) hx hb d_M_putFirst_32 hl (k := 6) rfl rfl (by decide) rfl (fun ls hl => ?_)
        refine lv_goto (tgt := 13) hx hb d_M_putFirst_35 (by decide) ?_
        have hl := lv_sub (l' := [(0, .ref g.1.1), (1, .int p0), (2, .int p1), (3, .int p2), (4, .int p3), (5, .int p4), (6, .int (v6 + (-1)))]) hl [1, 2, 3, 4, 5, 6, 0] rfl
        exact ih (v6 + (-1)) u_29 _ _ _ (Nat.lt_of_lt_of_le hs.1 (Nat.le_of_lt_succ hm)) hF hs.2 hP hD hS hl
  have hl := lv_entry ([.ref g.1.1, .int p0, .int p1, .int p2, .int p3, .int p4]) (n := 7) (Nat.le_of_ble_eq_true rfl)
  rw [lg_entry_eq]
  generalize (lg_sl ([.ref g.1.1, .int p0, .int p1, .int p2, .int p3, .int p4]) ++ List.replicate (7 - (lg_sl ([.ref g.1.1, .int p0, .int p1, .int p2, .int p3, .int p4])).length) Slot.unset).toArray = ls at hl ⊢
  have hl : lv_has ls 7 [(0, .ref g.1.1), (1, .int p0), (2, .int p1), (3, .int p2), (4, .int p3), (5, .int p4)] := hl
  have hF := M_M_putFirst_eq g x p0 p1 p2 p3 p4
  have hs := Eq.mp (S_M_putFirst_eq g x p0 p1 p2 p3 p4) hs
  refine lv_bipush (v := 64) hx hb d_M_putFirst_0 (by decide) ?_
  refine lv_iload_n hx hb d_M_putFirst_2 rfl (lv_at hl 1 rfl) ?_
  refine lv_imul hx hb d_M_putFirst_3 ?_
  refine lv_aload_n hx hb d_M_putFirst_4 rfl (lv_at hl 0 rfl) ?_
  refine va_get (D := D) (ci := 3) (v := .ref g.1.2.1) (C := R_M) (T := T_M) (N := 20) hx hb htb i_M hown hK hP 0 rfl rfl 5 (by decide) (htb _ k_M_7) (fun _ h9 => h9) rfl d_M_putFirst_5 ?_
  refine lv_iload_n hx hb d_M_putFirst_8 rfl (lv_at hl 1 rfl) ?_
  refine va_iald hx hb hK hP 1 0 rfl rfl hs.1 d_M_putFirst_9 ?_
  have hs := hs.2
  refine lv_iadd hx hb d_M_putFirst_10 ?_
  refine lv_istore (lv' := [(6, .int (((64 : Int32) * p0) + (x.2.1.1 p0.toNatClampNeg))), (0, .ref g.1.1), (1, .int p0), (2, .int p1), (3, .int p2), (4, .int p3), (5, .int p4)]) hx hb d_M_putFirst_11 hl (by decide) rfl (fun ls hl => ?_)
  have hl := lv_sub (l' := [(0, .ref g.1.1), (1, .int p0), (2, .int p1), (3, .int p2), (4, .int p3), (5, .int p4), (6, .int (((64 : Int32) * p0) + (x.2.1.1 p0.toNatClampNeg)))]) hl [1, 2, 3, 4, 5, 6, 0] rfl
  exact cut_13 (mu ((64 : Int32) * p0) (((64 : Int32) * p0) + (x.2.1.1 p0.toNatClampNeg)) + 1) (((64 : Int32) * p0) + (x.2.1.1 p0.toNatClampNeg)) x _ _ _ (Nat.lt_succ_self _) hF hs hP hD hS hl

def M_M_use (g : GM) (x : Ms) (p0 p1 : Int32) : Ms := (bnd (M_M_takeOut g x p0 p1) (fun u_34 => (bnd (M_M_putFirst g u_34 p0 (x.2.1.2.1 p1.toNatClampNeg) (x.2.1.2.2.1 p1.toNatClampNeg) (x.2.1.2.2.2.1 p1.toNatClampNeg) (x.2.1.2.2.2.2 p1.toNatClampNeg)) (fun u_46 => u_46))))
theorem M_M_use_eq (g : GM) (x : Ms) (p0 p1 : Int32) : M_M_use g x p0 p1 = (bnd (M_M_takeOut g x p0 p1) (fun u_34 => (bnd (M_M_putFirst g u_34 p0 (x.2.1.2.1 p1.toNatClampNeg) (x.2.1.2.2.1 p1.toNatClampNeg) (x.2.1.2.2.2.1 p1.toNatClampNeg) (x.2.1.2.2.2.2 p1.toNatClampNeg)) (fun u_46 => u_46)))) := rfl
def S_M_use (g : GM) (x : Ms) (p0 p1 : Int32) : Prop := (vp_in p1 320 ∧ (vp_in p1 320 ∧ (vp_in p1 320 ∧ (vp_in p1 320 ∧ (S_M_takeOut g x p0 p1 ∧ (bnd (M_M_takeOut g x p0 p1) (fun u_34 => (S_M_putFirst g u_34 p0 (x.2.1.2.1 p1.toNatClampNeg) (x.2.1.2.2.1 p1.toNatClampNeg) (x.2.1.2.2.2.1 p1.toNatClampNeg) (x.2.1.2.2.2.2 p1.toNatClampNeg) ∧ (bnd (M_M_putFirst g u_34 p0 (x.2.1.2.1 p1.toNatClampNeg) (x.2.1.2.2.1 p1.toNatClampNeg) (x.2.1.2.2.2.1 p1.toNatClampNeg) (x.2.1.2.2.2.2 p1.toNatClampNeg)) (fun u_46 => True))))))))))
theorem S_M_use_eq (g : GM) (x : Ms) (p0 p1 : Int32) : S_M_use g x p0 p1 = (vp_in p1 320 ∧ (vp_in p1 320 ∧ (vp_in p1 320 ∧ (vp_in p1 320 ∧ (S_M_takeOut g x p0 p1 ∧ (bnd (M_M_takeOut g x p0 p1) (fun u_34 => (S_M_putFirst g u_34 p0 (x.2.1.2.1 p1.toNatClampNeg) (x.2.1.2.2.1 p1.toNatClampNeg) (x.2.1.2.2.2.1 p1.toNatClampNeg) (x.2.1.2.2.2.2 p1.toNatClampNeg) ∧ (bnd (M_M_putFirst g u_34 p0 (x.2.1.2.1 p1.toNatClampNeg) (x.2.1.2.2.1 p1.toNatClampNeg) (x.2.1.2.2.2.1 p1.toNatClampNeg) (x.2.1.2.2.2.2 p1.toNatClampNeg)) (fun u_46 => True)))))))))) := rfl
abbrev w_M_use : List Cond := .code y_M_use b_M_use 7 none :: tbW
abbrev rm_M_use : Room := { frames := 2, cells := 0, slots := 0, locals := 48 }
set_option maxHeartbeats 4000000 in
set_option maxRecDepth 100000 in
theorem c_M_use (l : Launch) (D : va_G) (cI cZ : ClassId) (g : GM) (hg : okM g) (x : Ms) (p0 p1 : Int32) (hs : S_M_use g x p0 p1) : Met l y_M_use w_M_use rm_M_use (PcW D vwCl (tyK cI cZ) [.ref g.1.1, .int p0, .int p1] (wM cI cZ g x)) (va_Qv (fun (u : Ms) => u = M_M_use g x p0 p1) (fun (u : Ms) (t : State) => va_P D vwCl (wM cI cZ g u) t.heap) (Aw (wM cI cZ g x))) 0 0 (Aw (wM cI cZ g x)) := by
  refine Met.ofW (cc := b_M_use) (maxL := 7) (ret := none) (by decide) rfl ?_
  intro p e s m args below meth c s₁ B hml hv
  obtain ⟨rfl, hP, hK, hD0⟩ := hv
  have hx := B.exec
  have hb := B.bytes
  have hr := B.returns
  have htb : ∀ w ∈ tbW, w.before _ s = true := fun w h => atoms_spec (ws := w_M_use) B.pre w (List.mem_cons_of_mem _ h)
  have hown : s.vm.findClass R_M = some m.cls := findClass_of_methodNamed B.named
  have hlocks := B.notSynchronized
  have hD : va_D (Aw (wM cI cZ g x)) (wM cI cZ g x) := ⟨hD0.1, fun k q hk => ⟨k, q.2, hk⟩⟩
  have hS : va_S (Aw (wM cI cZ g x)) s.heap s.heap [] := va_S.rf
  have hl := lv_entry ([.ref g.1.1, .int p0, .int p1]) (n := 7) (Nat.le_of_ble_eq_true rfl)
  rw [lg_entry_eq]
  generalize (lg_sl ([.ref g.1.1, .int p0, .int p1]) ++ List.replicate (7 - (lg_sl ([.ref g.1.1, .int p0, .int p1])).length) Slot.unset).toArray = ls at hl ⊢
  have hl : lv_has ls 7 [(0, .ref g.1.1), (1, .int p0), (2, .int p1)] := hl
  have hF := M_M_use_eq g x p0 p1
  have hs := Eq.mp (S_M_use_eq g x p0 p1) hs
  refine lv_aload_n hx hb d_M_use_0 rfl (lv_at hl 0 rfl) ?_
  refine va_get (D := D) (ci := 3) (v := .ref g.1.2.2.1) (C := R_M) (T := T_M) (N := 20) hx hb htb i_M hown hK hP 0 rfl rfl 6 (by decide) (htb _ k_M_13) (fun _ h9 => h9) rfl d_M_use_1 ?_
  refine lv_iload_n hx hb d_M_use_4 rfl (lv_at hl 2 rfl) ?_
  refine va_iald hx hb hK hP 2 0 rfl rfl hs.1 d_M_use_5 ?_
  have hs := hs.2
  refine lv_istore_n (lv' := [(3, .int (x.2.1.2.1 p1.toNatClampNeg)), (0, .ref g.1.1), (1, .int p0), (2, .int p1)]) hx hb d_M_use_6 rfl hl (by decide) rfl (fun ls hl => ?_)
  refine lv_aload_n hx hb d_M_use_7 rfl (lv_at hl 1 rfl) ?_
  refine va_get (D := D) (ci := 3) (v := .ref g.1.2.2.2.1) (C := R_M) (T := T_M) (N := 20) hx hb htb i_M hown hK hP 0 rfl rfl 7 (by decide) (htb _ k_M_16) (fun _ h9 => h9) rfl d_M_use_8 ?_
  refine lv_iload_n hx hb d_M_use_11 rfl (lv_at hl 3 rfl) ?_
  refine va_zald hx hb hK hP 3 1 rfl rfl hs.1 d_M_use_12 ?_
  have hs := hs.2
  refine lv_istore (lv' := [(4, .int (x.2.1.2.2.1 p1.toNatClampNeg)), (3, .int (x.2.1.2.1 p1.toNatClampNeg)), (0, .ref g.1.1), (1, .int p0), (2, .int p1)]) hx hb d_M_use_13 hl (by decide) rfl (fun ls hl => ?_)
  refine lv_aload_n hx hb d_M_use_15 rfl (lv_at hl 2 rfl) ?_
  refine va_get (D := D) (ci := 3) (v := .ref g.1.2.2.2.2.1) (C := R_M) (T := T_M) (N := 20) hx hb htb i_M hown hK hP 0 rfl rfl 8 (by decide) (htb _ k_M_20) (fun _ h9 => h9) rfl d_M_use_16 ?_
  refine lv_iload_n hx hb d_M_use_19 rfl (lv_at hl 4 rfl) ?_
  refine va_iald hx hb hK hP 4 0 rfl rfl hs.1 d_M_use_20 ?_
  have hs := hs.2
  refine lv_istore (lv' := [(5, .int (x.2.1.2.2.2.1 p1.toNatClampNeg)), (4, .int (x.2.1.2.2.1 p1.toNatClampNeg)), (3, .int (x.2.1.2.1 p1.toNatClampNeg)), (0, .ref g.1.1), (1, .int p0), (2, .int p1)]) hx hb d_M_use_21 hl (by decide) rfl (fun ls hl => ?_)
  refine lv_aload_n hx hb d_M_use_23 rfl (lv_at hl 3 rfl) ?_
  refine va_get (D := D) (ci := 3) (v := .ref g.1.2.2.2.2.2.1) (C := R_M) (T := T_M) (N := 20) hx hb htb i_M hown hK hP 0 rfl rfl 9 (by decide) (htb _ k_M_23) (fun _ h9 => h9) rfl d_M_use_24 ?_
  refine lv_iload_n hx hb d_M_use_27 rfl (lv_at hl 5 rfl) ?_
  refine va_iald hx hb hK hP 5 0 rfl rfl hs.1 d_M_use_28 ?_
  have hs := hs.2
  refine lv_istore (lv' := [(6, .int (x.2.1.2.2.2.2 p1.toNatClampNeg)), (5, .int (x.2.1.2.2.2.1 p1.toNatClampNeg)), (4, .int (x.2.1.2.2.1 p1.toNatClampNeg)), (3, .int (x.2.1.2.1 p1.toNatClampNeg)), (0, .ref g.1.1), (1, .int p0), (2, .int p1)]) hx hb d_M_use_29 hl (by decide) rfl (fun ls hl => ?_)
  refine lv_aload_n hx hb d_M_use_31 rfl (lv_at hl 4 rfl) ?_
  refine lv_iload_n hx hb d_M_use_32 rfl (lv_at hl 5 rfl) ?_
  refine lv_iload_n hx hb d_M_use_33 rfl (lv_at hl 6 rfl) ?_
  refine cwv_ (As := [.int p0, .int p1]) (rest := []) (wldC := fun u => (wM cI cZ g u)) ⟨hx, hb, hml, hown, htb⟩ (c_M_takeOut l D cI cZ g hg x p0 p1 hs.1) (cwv (n := 2) htb cd_M_takeOut k_M_82 in_M_takeOut se_M_takeOut ini_M hd_M_takeOut ⟨Nat.le_of_ble_eq_true rfl, Nat.le_of_ble_eq_true rfl⟩) hK hP hD hS [0, 1, 2, 3, 4, 5, 6, 7, 8, 9, 10] [] [0, 1, 2, 3, 4, 5, 6, 7, 8, 9, 10] rfl rfl (by decide) (by decide) rfl (fun _ => rfl) (fun _ => rfl) (ci := 3) rfl rfl rfl hl.1 rfl (Nat.le_of_ble_eq_true rfl) d_M_use_34 ⟨Nat.zero_le _, Nat.zero_le _⟩ (fun u_34 H locs hw_34 hP hD hS => ?_)
  have hP : va_P D vwCl (wM cI cZ g u_34) H := hP
  have hD : va_D _ (wM cI cZ g u_34) := hD
  have hF := hF.trans (bnd_eq hw_34)
  have hs := Eq.mp (bnd_eq hw_34) hs.2
  refine lv_aload_n hx hb d_M_use_37 rfl (lv_at hl 4 rfl) ?_
  refine lv_iload_n hx hb d_M_use_38 rfl (lv_at hl 5 rfl) ?_
  refine lv_iload_n hx hb d_M_use_39 rfl (lv_at hl 3 rfl) ?_
  refine lv_iload hx hb d_M_use_40 (lv_at hl 2 rfl) ?_
  refine lv_iload hx hb d_M_use_42 (lv_at hl 1 rfl) ?_
  refine lv_iload hx hb d_M_use_44 (lv_at hl 0 rfl) ?_
  refine cwv_ (As := [.int p0, .int (x.2.1.2.1 p1.toNatClampNeg), .int (x.2.1.2.2.1 p1.toNatClampNeg), .int (x.2.1.2.2.2.1 p1.toNatClampNeg), .int (x.2.1.2.2.2.2 p1.toNatClampNeg)]) (rest := []) (wldC := fun u => (wM cI cZ g u)) ⟨hx, hb, hml, hown, htb⟩ (c_M_putFirst l D cI cZ g hg u_34 p0 (x.2.1.2.1 p1.toNatClampNeg) (x.2.1.2.2.1 p1.toNatClampNeg) (x.2.1.2.2.2.1 p1.toNatClampNeg) (x.2.1.2.2.2.2 p1.toNatClampNeg) hs.1) (cwv (n := 5) htb cd_M_putFirst k_M_85 in_M_putFirst se_M_putFirst ini_M hd_M_putFirst ⟨Nat.le_of_ble_eq_true rfl, Nat.le_of_ble_eq_true rfl⟩) hK hP hD hS [0, 1, 2, 3, 4, 5, 6, 7, 8, 9, 10] [] [0, 1, 2, 3, 4, 5, 6, 7, 8, 9, 10] rfl rfl (by decide) (by decide) rfl (fun _ => rfl) (fun _ => rfl) (ci := 3) rfl rfl rfl hl.1 rfl (Nat.le_of_ble_eq_true rfl) d_M_use_46 ⟨Nat.zero_le _, Nat.zero_le _⟩ (fun u_46 H locs hw_46 hP hD hS => ?_)
  have hP : va_P D vwCl (wM cI cZ g u_46) H := hP
  have hD : va_D _ (wM cI cZ g u_46) := hD
  have hF := hF.trans (bnd_eq hw_46)
  have hs := Eq.mp (bnd_eq hw_46) hs.2
  exact W.vret hx hb hr (fun t ht hW => ⟨⟨u_46, rfl, hF.symm, by dsimp only; rw [ht]; exact hP⟩, hS.F ht⟩) hS.2.2 d_M_use_49

def L_M_oldest_12 (g : GM) (x : Ms) (p0 p1 p2 p3 : Int32) : Nat → Int32 → Int32 → Int32 → Int32
  | 0, _, _, _ => 0
  | n + 1, v5, v6, v7 => (if (((64 : Int32) * p0) + (x.2.1.1 p0.toNatClampNeg)) ≤ v7 then (if p3 ≤ v5 then v6 else (-1 : Int32)) else (bnd (M_M_setOf g x p0 (x.2.1.2.1 v7.toNatClampNeg)) (fun r_37 => (if r_37 = p1 then (if p2 < 0 then L_M_oldest_12 g x p0 p1 p2 p3 n (v5 + 1) v7 (v7 + 1) else (if (x.2.1.2.2.2.2 v7.toNatClampNeg) = p2 then L_M_oldest_12 g x p0 p1 p2 p3 n (v5 + 1) v7 (v7 + 1) else L_M_oldest_12 g x p0 p1 p2 p3 n v5 v6 (v7 + 1))) else L_M_oldest_12 g x p0 p1 p2 p3 n v5 v6 (v7 + 1)))))
theorem L_M_oldest_12_eq (g : GM) (x : Ms) (p0 p1 p2 p3 : Int32) (n : Nat) (v5 v6 v7 : Int32) : L_M_oldest_12 g x p0 p1 p2 p3 (n + 1) v5 v6 v7 = (if (((64 : Int32) * p0) + (x.2.1.1 p0.toNatClampNeg)) ≤ v7 then (if p3 ≤ v5 then v6 else (-1 : Int32)) else (bnd (M_M_setOf g x p0 (x.2.1.2.1 v7.toNatClampNeg)) (fun r_37 => (if r_37 = p1 then (if p2 < 0 then L_M_oldest_12 g x p0 p1 p2 p3 n (v5 + 1) v7 (v7 + 1) else (if (x.2.1.2.2.2.2 v7.toNatClampNeg) = p2 then L_M_oldest_12 g x p0 p1 p2 p3 n (v5 + 1) v7 (v7 + 1) else L_M_oldest_12 g x p0 p1 p2 p3 n v5 v6 (v7 + 1))) else L_M_oldest_12 g x p0 p1 p2 p3 n v5 v6 (v7 + 1))))) := by first | rfl | rw [L_M_oldest_12]
def S_M_oldest_12 (g : GM) (x : Ms) (p0 p1 p2 p3 : Int32) : Nat → Int32 → Int32 → Int32 → Prop
  | 0, _, _, _ => True
  | n + 1, v5, v6, v7 => (vp_in p0 5 ∧ (((((64 : Int32) * p0) + (x.2.1.1 p0.toNatClampNeg)) ≤ v7 → ((p3 ≤ v5 → True) ∧ (¬ p3 ≤ v5 → True))) ∧ (¬ (((64 : Int32) * p0) + (x.2.1.1 p0.toNatClampNeg)) ≤ v7 → (vp_in v7 320 ∧ (S_M_setOf g x p0 (x.2.1.2.1 v7.toNatClampNeg) ∧ (bnd (M_M_setOf g x p0 (x.2.1.2.1 v7.toNatClampNeg)) (fun r_37 => ((r_37 = p1 → ((p2 < 0 → (mu (v7 + 1) (((64 : Int32) * p0) + (x.2.1.1 p0.toNatClampNeg)) < mu v7 (((64 : Int32) * p0) + (x.2.1.1 p0.toNatClampNeg)) ∧ S_M_oldest_12 g x p0 p1 p2 p3 n (v5 + 1) v7 (v7 + 1))) ∧ (¬ p2 < 0 → (vp_in v7 320 ∧ (((x.2.1.2.2.2.2 v7.toNatClampNeg) = p2 → (mu (v7 + 1) (((64 : Int32) * p0) + (x.2.1.1 p0.toNatClampNeg)) < mu v7 (((64 : Int32) * p0) + (x.2.1.1 p0.toNatClampNeg)) ∧ S_M_oldest_12 g x p0 p1 p2 p3 n (v5 + 1) v7 (v7 + 1))) ∧ (¬ (x.2.1.2.2.2.2 v7.toNatClampNeg) = p2 → (mu (v7 + 1) (((64 : Int32) * p0) + (x.2.1.1 p0.toNatClampNeg)) < mu v7 (((64 : Int32) * p0) + (x.2.1.1 p0.toNatClampNeg)) ∧ S_M_oldest_12 g x p0 p1 p2 p3 n v5 v6 (v7 + 1)))))))) ∧ (¬ r_37 = p1 → (mu (v7 + 1) (((64 : Int32) * p0) + (x.2.1.1 p0.toNatClampNeg)) < mu v7 (((64 : Int32) * p0) + (x.2.1.1 p0.toNatClampNeg)) ∧ S_M_oldest_12 g x p0 p1 p2 p3 n v5 v6 (v7 + 1)))))))))))
theorem S_M_oldest_12_eq (g : GM) (x : Ms) (p0 p1 p2 p3 : Int32) (n : Nat) (v5 v6 v7 : Int32) : S_M_oldest_12 g x p0 p1 p2 p3 (n + 1) v5 v6 v7 = (vp_in p0 5 ∧ (((((64 : Int32) * p0) + (x.2.1.1 p0.toNatClampNeg)) ≤ v7 → ((p3 ≤ v5 → True) ∧ (¬ p3 ≤ v5 → True))) ∧ (¬ (((64 : Int32) * p0) + (x.2.1.1 p0.toNatClampNeg)) ≤ v7 → (vp_in v7 320 ∧ (S_M_setOf g x p0 (x.2.1.2.1 v7.toNatClampNeg) ∧ (bnd (M_M_setOf g x p0 (x.2.1.2.1 v7.toNatClampNeg)) (fun r_37 => ((r_37 = p1 → ((p2 < 0 → (mu (v7 + 1) (((64 : Int32) * p0) + (x.2.1.1 p0.toNatClampNeg)) < mu v7 (((64 : Int32) * p0) + (x.2.1.1 p0.toNatClampNeg)) ∧ S_M_oldest_12 g x p0 p1 p2 p3 n (v5 + 1) v7 (v7 + 1))) ∧ (¬ p2 < 0 → (vp_in v7 320 ∧ (((x.2.1.2.2.2.2 v7.toNatClampNeg) = p2 → (mu (v7 + 1) (((64 : Int32) * p0) + (x.2.1.1 p0.toNatClampNeg)) < mu v7 (((64 : Int32) * p0) + (x.2.1.1 p0.toNatClampNeg)) ∧ S_M_oldest_12 g x p0 p1 p2 p3 n (v5 + 1) v7 (v7 + 1))) ∧ (¬ (x.2.1.2.2.2.2 v7.toNatClampNeg) = p2 → (mu (v7 + 1) (((64 : Int32) * p0) + (x.2.1.1 p0.toNatClampNeg)) < mu v7 (((64 : Int32) * p0) + (x.2.1.1 p0.toNatClampNeg)) ∧ S_M_oldest_12 g x p0 p1 p2 p3 n v5 v6 (v7 + 1)))))))) ∧ (¬ r_37 = p1 → (mu (v7 + 1) (((64 : Int32) * p0) + (x.2.1.1 p0.toNatClampNeg)) < mu v7 (((64 : Int32) * p0) + (x.2.1.1 p0.toNatClampNeg)) ∧ S_M_oldest_12 g x p0 p1 p2 p3 n v5 v6 (v7 + 1))))))))))) := by first | rfl | rw [S_M_oldest_12]
def M_M_oldest (g : GM) (x : Ms) (p0 p1 p2 p3 : Int32) : Int32 := L_M_oldest_12 g x p0 p1 p2 p3 (mu ((64 : Int32) * p0) (((64 : Int32) * p0) + (x.2.1.1 p0.toNatClampNeg)) + 1) (0 : Int32) (-1 : Int32) ((64 : Int32) * p0)
theorem M_M_oldest_eq (g : GM) (x : Ms) (p0 p1 p2 p3 : Int32) : M_M_oldest g x p0 p1 p2 p3 = L_M_oldest_12 g x p0 p1 p2 p3 (mu ((64 : Int32) * p0) (((64 : Int32) * p0) + (x.2.1.1 p0.toNatClampNeg)) + 1) (0 : Int32) (-1 : Int32) ((64 : Int32) * p0) := rfl
def S_M_oldest (g : GM) (x : Ms) (p0 p1 p2 p3 : Int32) : Prop := S_M_oldest_12 g x p0 p1 p2 p3 (mu ((64 : Int32) * p0) (((64 : Int32) * p0) + (x.2.1.1 p0.toNatClampNeg)) + 1) (0 : Int32) (-1 : Int32) ((64 : Int32) * p0)
theorem S_M_oldest_eq (g : GM) (x : Ms) (p0 p1 p2 p3 : Int32) : S_M_oldest g x p0 p1 p2 p3 = S_M_oldest_12 g x p0 p1 p2 p3 (mu ((64 : Int32) * p0) (((64 : Int32) * p0) + (x.2.1.1 p0.toNatClampNeg)) + 1) (0 : Int32) (-1 : Int32) ((64 : Int32) * p0) := rfl
abbrev w_M_oldest : List Cond := .code y_M_oldest b_M_oldest 8 (some .int) :: tbW
abbrev rm_M_oldest : Room := { frames := 2, cells := 0, slots := 0, locals := 43 }
set_option maxHeartbeats 4000000 in
set_option maxRecDepth 100000 in
theorem c_M_oldest (l : Launch) (D : va_G) (cI cZ : ClassId) (g : GM) (hg : okM g) (x : Ms) (p0 p1 p2 p3 : Int32) (hs : S_M_oldest g x p0 p1 p2 p3) : Met l y_M_oldest w_M_oldest rm_M_oldest (PcR D vwCl (tyK cI cZ) [.ref g.1.1, .int p0, .int p1, .int p2, .int p3] (wM cI cZ g x)) (vp_Si (fun r => r = M_M_oldest g x p0 p1 p2 p3)) 0 0 (fun _ => False) := by
  refine Met.ofW (cc := b_M_oldest) (maxL := 8) (ret := (some .int)) (by decide) rfl ?_
  intro p e s m args below meth c s₁ B hml hv
  obtain ⟨rfl, hP, hK⟩ := hv
  have hx := B.exec
  have hb := B.bytes
  have hr := B.returns
  have htb : ∀ w ∈ tbW, w.before _ s = true := fun w h => atoms_spec (ws := w_M_oldest) B.pre w (List.mem_cons_of_mem _ h)
  have hown : s.vm.findClass R_M = some m.cls := findClass_of_methodNamed B.named
  have hlocks := B.notSynchronized
  have cut_12 : ∀ (n : Nat) (v5 v6 v7 : Int32) (ls : Array Slot), mu v7 (((64 : Int32) * p0) + (x.2.1.1 p0.toNatClampNeg)) < n → M_M_oldest g x p0 p1 p2 p3 = L_M_oldest_12 g x p0 p1 p2 p3 n v5 v6 v7 → S_M_oldest_12 g x p0 p1 p2 p3 n v5 v6 v7 → lv_has ls 8 [(0, .ref g.1.1), (1, .int p0), (2, .int p1), (3, .int p2), (4, .int p3), (5, .int v5), (6, .int v6), (7, .int v7)] → W p l e (headSpec w_M_oldest rm_M_oldest).room s m ([.ref g.1.1, .int p0, .int p1, .int p2, .int p3] : List Value).toArray below meth c s.heap [] 0 0 (MQ below (vp_Si (fun r => r = M_M_oldest g x p0 p1 p2 p3)) ([.ref g.1.1, .int p0, .int p1, .int p2, .int p3] : List Value).toArray s 0 0 (fun _ => False)) (F0 m 12 ls []) := by
    intro n
    induction n with
    | zero => intro v5 v6 v7 ls hm _ _ _; exact absurd hm (Nat.not_lt_zero _)
    | succ n ih =>
      intro v5 v6 v7 ls hm hF hs hl
      have hF := hF.trans (L_M_oldest_12_eq g x p0 p1 p2 p3 n v5 v6 v7)
      have hs := Eq.mp (S_M_oldest_12_eq g x p0 p1 p2 p3 n v5 v6 v7) hs
      refine lv_iload hx hb d_M_oldest_12 (lv_at hl 7 rfl) ?_
      refine lv_bipush (v := 64) hx hb d_M_oldest_14 (by decide) ?_
      refine lv_iload_n hx hb d_M_oldest_16 rfl (lv_at hl 1 rfl) ?_
      refine lv_imul hx hb d_M_oldest_17 ?_
      refine lv_aload_n hx hb d_M_oldest_18 rfl (lv_at hl 0 rfl) ?_
      refine va_get (D := D) (ci := 3) (v := .ref g.1.2.1) (C := R_M) (T := T_M) (N := 20) hx hb htb i_M hown hK hP 0 rfl rfl 5 (by decide) (htb _ k_M_7) (fun _ h9 => h9) rfl d_M_oldest_19 ?_
      refine lv_iload_n hx hb d_M_oldest_22 rfl (lv_at hl 1 rfl) ?_
      refine va_iald hx hb hK hP 1 0 rfl rfl hs.1 d_M_oldest_23 ?_
      have hs := hs.2
      refine lv_iadd hx hb d_M_oldest_24 ?_
      refine lv_icmp_ge (tgt := 72) hx hb d_M_oldest_25 (by decide) (fun c_25 => ?_) (fun c_25 => ?_)
      · have hF := hF.trans (if_pos c_25)
        have hs := hs.1 c_25
        refine lv_iload hx hb d_M_oldest_72 (lv_at hl 5 rfl) ?_
        refine lv_iload hx hb d_M_oldest_74 (lv_at hl 4 rfl) ?_
        refine lv_icmp_ge (tgt := 83) hx hb d_M_oldest_76 (by decide) (fun c_76 => ?_) (fun c_76 => ?_)
        · have hF := hF.trans (if_pos c_76)
          have hs := hs.1 c_76
          refine lv_iload hx hb d_M_oldest_83 (lv_at hl 6 rfl) ?_
          exact W.iret (v := v6) hx hb hr (fun t ht hW => ⟨_, rfl, hF.symm, ht⟩) (fun q h => by cases h) d_M_oldest_85
        · have hF := hF.trans (if_neg c_76)
          have hs := hs.2 c_76
          refine lv_iconst (v := -1) hx hb d_M_oldest_79 (by decide) ?_
          refine lv_goto (tgt := 85) hx hb d_M_oldest_80 (by decide) ?_
          exact W.iret (v := (-1 : Int32)) hx hb hr (fun t ht hW => ⟨_, rfl, hF.symm, ht⟩) (fun q h => by cases h) d_M_oldest_85
      · have hF := hF.trans (if_neg c_25)
        have hs := hs.2 c_25
        refine lv_aload_n hx hb d_M_oldest_28 rfl (lv_at hl 0 rfl) ?_
        refine lv_iload_n hx hb d_M_oldest_29 rfl (lv_at hl 1 rfl) ?_
        refine lv_aload_n hx hb d_M_oldest_30 rfl (lv_at hl 0 rfl) ?_
        refine va_get (D := D) (ci := 3) (v := .ref g.1.2.2.1) (C := R_M) (T := T_M) (N := 20) hx hb htb i_M hown hK hP 0 rfl rfl 6 (by decide) (htb _ k_M_13) (fun _ h9 => h9) rfl d_M_oldest_31 ?_
        refine lv_iload hx hb d_M_oldest_34 (lv_at hl 7 rfl) ?_
        refine va_iald hx hb hK hP 2 0 rfl rfl hs.1 d_M_oldest_36 ?_
        have hs := hs.2
        refine cpi (As := [.int p0, .int (x.2.1.2.1 v7.toNatClampNeg)]) (rest := []) ⟨hx, hb, hml, hown, htb⟩ (c_M_setOf l D cI cZ g hg x p0 (x.2.1.2.1 v7.toNatClampNeg) hs.1) (cwv (n := 2) htb cd_M_setOf k_M_89 in_M_setOf se_M_setOf ini_M hd_M_setOf ⟨Nat.le_of_ble_eq_true rfl, Nat.le_of_ble_eq_true rfl⟩) hK hP [0, 1, 2, 3, 4, 5, 6, 7, 8, 9, 10] rfl (ci := 3) rfl rfl rfl hl.1 rfl (Nat.le_of_ble_eq_true rfl) d_M_oldest_37 ⟨Nat.zero_le _, Nat.zero_le _⟩ (fun r_37 hw_37 => ?_)
        have hF := hF.trans (bnd_eq hw_37)
        have hs := Eq.mp (bnd_eq hw_37) hs.2
        refine lv_iload_n hx hb d_M_oldest_40 rfl (lv_at hl 2 rfl) ?_
        refine lv_icmp_ne (tgt := 66) hx hb d_M_oldest_41 (by decide) (fun c_41 => ?_) (fun c_41 => ?_)
        · have hF := hF.trans (if_neg c_41)
          have hs := hs.2 c_41
          refine lv_iinc (v := (v7 + 1)) (lv' := [(7, .int (v7 + 1)), (0, .ref g.1.1), (1, .int p0), (2, .int p1), (3, .int p2), (4, .int p3), (5, .int v5), (6, .int v6)]) hx hb d_M_oldest_66 hl (k := 7) rfl rfl (by decide) rfl (fun ls hl => ?_)
          refine lv_goto (tgt := 12) hx hb d_M_oldest_69 (by decide) ?_
          have hl := lv_sub (l' := [(0, .ref g.1.1), (1, .int p0), (2, .int p1), (3, .int p2), (4, .int p3), (5, .int v5), (6, .int v6), (7, .int (v7 + 1))]) hl [1, 2, 3, 4, 5, 6, 7, 0] rfl
          exact ih v5 v6 (v7 + 1) _ (Nat.lt_of_lt_of_le hs.1 (Nat.le_of_lt_succ hm)) hF hs.2 hl
        · have hF := hF.trans (if_pos c_41)
          have hs := hs.1 c_41
          refine lv_iload_n hx hb d_M_oldest_44 rfl (lv_at hl 3 rfl) ?_
          refine lv_if_lt (tgt := 59) hx hb d_M_oldest_45 (by decide) (fun c_45 => ?_) (fun c_45 => ?_)
          · have hF := hF.trans (if_pos c_45)
            have hs := hs.1 c_45
            refine lv_iinc (v := (v5 + 1)) (lv' := [(5, .int (v5 + 1)), (0, .ref g.1.1), (1, .int p0), (2, .int p1), (3, .int p2), (4, .int p3), (6, .int v6), (7, .int v7)]) hx hb d_M_oldest_59 hl (k := 5) rfl rfl (by decide) rfl (fun ls hl => ?_)
            refine lv_iload hx hb d_M_oldest_62 (lv_at hl 7 rfl) ?_
            refine lv_istore (lv' := [(6, .int v7), (5, .int (v5 + 1)), (0, .ref g.1.1), (1, .int p0), (2, .int p1), (3, .int p2), (4, .int p3), (7, .int v7)]) hx hb d_M_oldest_64 hl (by decide) rfl (fun ls hl => ?_)
            refine lv_iinc (v := (v7 + 1)) (lv' := [(7, .int (v7 + 1)), (6, .int v7), (5, .int (v5 + 1)), (0, .ref g.1.1), (1, .int p0), (2, .int p1), (3, .int p2), (4, .int p3)]) hx hb d_M_oldest_66 hl (k := 7) rfl rfl (by decide) rfl (fun ls hl => ?_)
            refine lv_goto (tgt := 12) hx hb d_M_oldest_69 (by decide) ?_
            have hl := lv_sub (l' := [(0, .ref g.1.1), (1, .int p0), (2, .int p1), (3, .int p2), (4, .int p3), (5, .int (v5 + 1)), (6, .int v7), (7, .int (v7 + 1))]) hl [3, 4, 5, 6, 7, 2, 1, 0] rfl
            exact ih (v5 + 1) v7 (v7 + 1) _ (Nat.lt_of_lt_of_le hs.1 (Nat.le_of_lt_succ hm)) hF hs.2 hl
          · have hF := hF.trans (if_neg c_45)
            have hs := hs.2 c_45
            refine lv_aload_n hx hb d_M_oldest_48 rfl (lv_at hl 0 rfl) ?_
            refine va_get (D := D) (ci := 3) (v := .ref g.1.2.2.2.2.2.1) (C := R_M) (T := T_M) (N := 20) hx hb htb i_M hown hK hP 0 rfl rfl 9 (by decide) (htb _ k_M_23) (fun _ h9 => h9) rfl d_M_oldest_49 ?_
            refine lv_iload hx hb d_M_oldest_52 (lv_at hl 7 rfl) ?_
            refine va_iald hx hb hK hP 5 0 rfl rfl hs.1 d_M_oldest_54 ?_
            have hs := hs.2
            refine lv_iload_n hx hb d_M_oldest_55 rfl (lv_at hl 3 rfl) ?_
            refine lv_icmp_ne (tgt := 66) hx hb d_M_oldest_56 (by decide) (fun c_56 => ?_) (fun c_56 => ?_)
            · have hF := hF.trans (if_neg c_56)
              have hs := hs.2 c_56
              refine lv_iinc (v := (v7 + 1)) (lv' := [(7, .int (v7 + 1)), (0, .ref g.1.1), (1, .int p0), (2, .int p1), (3, .int p2), (4, .int p3), (5, .int v5), (6, .int v6)]) hx hb d_M_oldest_66 hl (k := 7) rfl rfl (by decide) rfl (fun ls hl => ?_)
              refine lv_goto (tgt := 12) hx hb d_M_oldest_69 (by decide) ?_
              have hl := lv_sub (l' := [(0, .ref g.1.1), (1, .int p0), (2, .int p1), (3, .int p2), (4, .int p3), (5, .int v5), (6, .int v6), (7, .int (v7 + 1))]) hl [1, 2, 3, 4, 5, 6, 7, 0] rfl
              exact ih v5 v6 (v7 + 1) _ (Nat.lt_of_lt_of_le hs.1 (Nat.le_of_lt_succ hm)) hF hs.2 hl
            · have hF := hF.trans (if_pos c_56)
              have hs := hs.1 c_56
              refine lv_iinc (v := (v5 + 1)) (lv' := [(5, .int (v5 + 1)), (0, .ref g.1.1), (1, .int p0), (2, .int p1), (3, .int p2), (4, .int p3), (6, .int v6), (7, .int v7)]) hx hb d_M_oldest_59 hl (k := 5) rfl rfl (by decide) rfl (fun ls hl => ?_)
              refine lv_iload hx hb d_M_oldest_62 (lv_at hl 7 rfl) ?_
              refine lv_istore (lv' := [(6, .int v7), (5, .int (v5 + 1)), (0, .ref g.1.1), (1, .int p0), (2, .int p1), (3, .int p2), (4, .int p3), (7, .int v7)]) hx hb d_M_oldest_64 hl (by decide) rfl (fun ls hl => ?_)
              refine lv_iinc (v := (v7 + 1)) (lv' := [(7, .int (v7 + 1)), (6, .int v7), (5, .int (v5 + 1)), (0, .ref g.1.1), (1, .int p0), (2, .int p1), (3, .int p2), (4, .int p3)]) hx hb d_M_oldest_66 hl (k := 7) rfl rfl (by decide) rfl (fun ls hl => ?_)
              refine lv_goto (tgt := 12) hx hb d_M_oldest_69 (by decide) ?_
              have hl := lv_sub (l' := [(0, .ref g.1.1), (1, .int p0), (2, .int p1), (3, .int p2), (4, .int p3), (5, .int (v5 + 1)), (6, .int v7), (7, .int (v7 + 1))]) hl [3, 4, 5, 6, 7, 2, 1, 0] rfl
              exact ih (v5 + 1) v7 (v7 + 1) _ (Nat.lt_of_lt_of_le hs.1 (Nat.le_of_lt_succ hm)) hF hs.2 hl
  have hl := lv_entry ([.ref g.1.1, .int p0, .int p1, .int p2, .int p3]) (n := 8) (Nat.le_of_ble_eq_true rfl)
  rw [lg_entry_eq]
  generalize (lg_sl ([.ref g.1.1, .int p0, .int p1, .int p2, .int p3]) ++ List.replicate (8 - (lg_sl ([.ref g.1.1, .int p0, .int p1, .int p2, .int p3])).length) Slot.unset).toArray = ls at hl ⊢
  have hl : lv_has ls 8 [(0, .ref g.1.1), (1, .int p0), (2, .int p1), (3, .int p2), (4, .int p3)] := hl
  have hF := M_M_oldest_eq g x p0 p1 p2 p3
  have hs := Eq.mp (S_M_oldest_eq g x p0 p1 p2 p3) hs
  refine lv_iconst (v := 0) hx hb d_M_oldest_0 (by decide) ?_
  refine lv_istore (lv' := [(5, .int (0 : Int32)), (0, .ref g.1.1), (1, .int p0), (2, .int p1), (3, .int p2), (4, .int p3)]) hx hb d_M_oldest_1 hl (by decide) rfl (fun ls hl => ?_)
  refine lv_iconst (v := -1) hx hb d_M_oldest_3 (by decide) ?_
  refine lv_istore (lv' := [(6, .int (-1 : Int32)), (5, .int (0 : Int32)), (0, .ref g.1.1), (1, .int p0), (2, .int p1), (3, .int p2), (4, .int p3)]) hx hb d_M_oldest_4 hl (by decide) rfl (fun ls hl => ?_)
  refine lv_bipush (v := 64) hx hb d_M_oldest_6 (by decide) ?_
  refine lv_iload_n hx hb d_M_oldest_8 rfl (lv_at hl 3 rfl) ?_
  refine lv_imul hx hb d_M_oldest_9 ?_
  refine lv_istore (lv' := [(7, .int ((64 : Int32) * p0)), (6, .int (-1 : Int32)), (5, .int (0 : Int32)), (0, .ref g.1.1), (1, .int p0), (2, .int p1), (3, .int p2), (4, .int p3)]) hx hb d_M_oldest_10 hl (by decide) rfl (fun ls hl => ?_)
  have hl := lv_sub (l' := [(0, .ref g.1.1), (1, .int p0), (2, .int p1), (3, .int p2), (4, .int p3), (5, .int (0 : Int32)), (6, .int (-1 : Int32)), (7, .int ((64 : Int32) * p0))]) hl [3, 4, 5, 6, 7, 2, 1, 0] rfl
  exact cut_12 (mu ((64 : Int32) * p0) (((64 : Int32) * p0) + (x.2.1.1 p0.toNatClampNeg)) + 1) (0 : Int32) (-1 : Int32) ((64 : Int32) * p0) _ (Nat.lt_succ_self _) hF hs hl

def M_M_toMemory (g : GM) (x : Ms) (p0 p1 : Int32) : Ms := (bnd2 (M_M_learn g x p0) (fun r_6 u_6 => ((u_6.1.1, u_6.1.2.1, u_6.1.2.2.1, u_6.1.2.2.2.1, (u_6.1.2.2.2.2.1 + (1 : Int32)), u_6.1.2.2.2.2.2), u_6.2.1, u_6.2.2.1, (u_6.2.2.2.1.1, u_6.2.2.2.1.2.1, (upd u_6.2.2.2.1.2.2 r_6.toNatClampNeg p1)), u_6.2.2.2.2)))
theorem M_M_toMemory_eq (g : GM) (x : Ms) (p0 p1 : Int32) : M_M_toMemory g x p0 p1 = (bnd2 (M_M_learn g x p0) (fun r_6 u_6 => ((u_6.1.1, u_6.1.2.1, u_6.1.2.2.1, u_6.1.2.2.2.1, (u_6.1.2.2.2.2.1 + (1 : Int32)), u_6.1.2.2.2.2.2), u_6.2.1, u_6.2.2.1, (u_6.2.2.2.1.1, u_6.2.2.2.1.2.1, (upd u_6.2.2.2.1.2.2 r_6.toNatClampNeg p1)), u_6.2.2.2.2))) := rfl
def S_M_toMemory (g : GM) (x : Ms) (p0 p1 : Int32) : Prop := (S_M_learn g x p0 ∧ (bnd2 (M_M_learn g x p0) (fun r_6 u_6 => (vp_in r_6 600 ∧ True))))
theorem S_M_toMemory_eq (g : GM) (x : Ms) (p0 p1 : Int32) : S_M_toMemory g x p0 p1 = (S_M_learn g x p0 ∧ (bnd2 (M_M_learn g x p0) (fun r_6 u_6 => (vp_in r_6 600 ∧ True)))) := rfl
abbrev w_M_toMemory : List Cond := .code y_M_toMemory b_M_toMemory 3 none :: tbW
abbrev rm_M_toMemory : Room := { frames := 2, cells := 0, slots := 0, locals := 44 }
set_option maxHeartbeats 4000000 in
set_option maxRecDepth 100000 in
theorem c_M_toMemory (l : Launch) (D : va_G) (cI cZ : ClassId) (g : GM) (hg : okM g) (x : Ms) (p0 p1 : Int32) (hs : S_M_toMemory g x p0 p1) : Met l y_M_toMemory w_M_toMemory rm_M_toMemory (PcW D vwCl (tyK cI cZ) [.ref g.1.1, .int p0, .int p1] (wM cI cZ g x)) (va_Qv (fun (u : Ms) => u = M_M_toMemory g x p0 p1) (fun (u : Ms) (t : State) => va_P D vwCl (wM cI cZ g u) t.heap) (Aw (wM cI cZ g x))) 0 0 (Aw (wM cI cZ g x)) := by
  refine Met.ofW (cc := b_M_toMemory) (maxL := 3) (ret := none) (by decide) rfl ?_
  intro p e s m args below meth c s₁ B hml hv
  obtain ⟨rfl, hP, hK, hD0⟩ := hv
  have hx := B.exec
  have hb := B.bytes
  have hr := B.returns
  have htb : ∀ w ∈ tbW, w.before _ s = true := fun w h => atoms_spec (ws := w_M_toMemory) B.pre w (List.mem_cons_of_mem _ h)
  have hown : s.vm.findClass R_M = some m.cls := findClass_of_methodNamed B.named
  have hlocks := B.notSynchronized
  have hD : va_D (Aw (wM cI cZ g x)) (wM cI cZ g x) := ⟨hD0.1, fun k q hk => ⟨k, q.2, hk⟩⟩
  have hS : va_S (Aw (wM cI cZ g x)) s.heap s.heap [] := va_S.rf
  have hl := lv_entry ([.ref g.1.1, .int p0, .int p1]) (n := 3) (Nat.le_of_ble_eq_true rfl)
  rw [lg_entry_eq]
  generalize (lg_sl ([.ref g.1.1, .int p0, .int p1]) ++ List.replicate (3 - (lg_sl ([.ref g.1.1, .int p0, .int p1])).length) Slot.unset).toArray = ls at hl ⊢
  have hl : lv_has ls 3 [(0, .ref g.1.1), (1, .int p0), (2, .int p1)] := hl
  have hF := M_M_toMemory_eq g x p0 p1
  have hs := Eq.mp (S_M_toMemory_eq g x p0 p1) hs
  refine lv_aload_n hx hb d_M_toMemory_0 rfl (lv_at hl 0 rfl) ?_
  refine va_get (D := D) (ci := 3) (v := .ref g.1.2.2.2.2.2.2.2.2.2.1) (C := R_M) (T := T_M) (N := 20) hx hb htb i_M hown hK hP 0 rfl rfl 16 (by decide) (htb _ k_M_39) (fun _ h9 => h9) rfl d_M_toMemory_1 ?_
  refine lv_aload_n hx hb d_M_toMemory_4 rfl (lv_at hl 0 rfl) ?_
  refine lv_iload_n hx hb d_M_toMemory_5 rfl (lv_at hl 1 rfl) ?_
  refine cwi (As := [.int p0]) (rest := [.ref g.1.2.2.2.2.2.2.2.2.2.1]) (wldC := fun u => (wM cI cZ g u)) ⟨hx, hb, hml, hown, htb⟩ (c_M_learn l D cI cZ g hg x p0 hs.1) (cwv (n := 1) htb cd_M_learn k_M_92 in_M_learn se_M_learn ini_M hd_M_learn ⟨Nat.le_of_ble_eq_true rfl, Nat.le_of_ble_eq_true rfl⟩) hK hP hD hS [0, 1, 2, 3, 4, 5, 6, 7, 8, 9, 10] [] [0, 1, 2, 3, 4, 5, 6, 7, 8, 9, 10] rfl rfl (by decide) (by decide) rfl (fun _ => rfl) (fun _ => rfl) (ci := 3) rfl rfl rfl hl.1 rfl (Nat.le_of_ble_eq_true rfl) d_M_toMemory_6 ⟨Nat.zero_le _, Nat.zero_le _⟩ (fun r_6 u_6 H locs hw_6 hP hD hS => ?_)
  have hP : va_P D vwCl (wM cI cZ g u_6) H := hP
  have hD : va_D _ (wM cI cZ g u_6) := hD
  have hF := hF.trans (bnd2_eq hw_6)
  have hs := Eq.mp (bnd2_eq hw_6) hs.2
  refine lv_iload_n hx hb d_M_toMemory_9 rfl (lv_at hl 2 rfl) ?_
  refine va_iast hx hb hK hP hD hS 9 0 rfl rfl hs.1 d_M_toMemory_10 (fun H locs hP hD hS => ?_)
  have hs := hs.2
  have hP : va_P D vwCl (wM cI cZ g (u_6.1, u_6.2.1, u_6.2.2.1, (u_6.2.2.2.1.1, u_6.2.2.2.1.2.1, (upd u_6.2.2.2.1.2.2 r_6.toNatClampNeg p1)), u_6.2.2.2.2)) H := hP
  have hD : va_D _ (wM cI cZ g (u_6.1, u_6.2.1, u_6.2.2.1, (u_6.2.2.2.1.1, u_6.2.2.2.1.2.1, (upd u_6.2.2.2.1.2.2 r_6.toNatClampNeg p1)), u_6.2.2.2.2)) := hD
  refine lv_aload_n hx hb d_M_toMemory_11 rfl (lv_at hl 0 rfl) ?_
  refine lv_dup hx hb d_M_toMemory_12 rfl ?_
  refine va_get (D := D) (ci := 3) (v := .int u_6.1.2.2.2.2.1) (C := R_M) (T := T_M) (N := 20) hx hb htb i_M hown hK hP 0 rfl rfl 18 (by decide) (htb _ k_M_95) (fun _ h9 => h9) rfl d_M_toMemory_13 ?_
  refine lv_iconst (v := 1) hx hb d_M_toMemory_16 (by decide) ?_
  refine lv_iadd hx hb d_M_toMemory_17 ?_
  refine va_put (D := D) (ci := 3) (v := .int (u_6.1.2.2.2.2.1 + (1 : Int32))) (ty := .int) (C := R_M) (T := T_M) (N := 20) hx hb htb i_M ty_M tyo_M nm_M hown hK hP hD hS 0 rfl rfl 18 (by decide) (htb _ k_M_95) (fun _ h9 => h9) rfl (by decide +kernel) rfl rfl (Nat.le_of_ble_eq_true rfl) d_M_toMemory_18 (fun H locs hP hD hS => ?_)
  have hP : va_P D vwCl (wM cI cZ g ((u_6.1.1, u_6.1.2.1, u_6.1.2.2.1, u_6.1.2.2.2.1, (u_6.1.2.2.2.2.1 + (1 : Int32)), u_6.1.2.2.2.2.2), u_6.2.1, u_6.2.2.1, (u_6.2.2.2.1.1, u_6.2.2.2.1.2.1, (upd u_6.2.2.2.1.2.2 r_6.toNatClampNeg p1)), u_6.2.2.2.2)) H := hP
  have hD : va_D _ (wM cI cZ g ((u_6.1.1, u_6.1.2.1, u_6.1.2.2.1, u_6.1.2.2.2.1, (u_6.1.2.2.2.2.1 + (1 : Int32)), u_6.1.2.2.2.2.2), u_6.2.1, u_6.2.2.1, (u_6.2.2.2.1.1, u_6.2.2.2.1.2.1, (upd u_6.2.2.2.1.2.2 r_6.toNatClampNeg p1)), u_6.2.2.2.2)) := hD
  exact W.vret hx hb hr (fun t ht hW => ⟨⟨((u_6.1.1, u_6.1.2.1, u_6.1.2.2.1, u_6.1.2.2.2.1, (u_6.1.2.2.2.2.1 + (1 : Int32)), u_6.1.2.2.2.2.2), u_6.2.1, u_6.2.2.1, (u_6.2.2.2.1.1, u_6.2.2.2.1.2.1, (upd u_6.2.2.2.1.2.2 r_6.toNatClampNeg p1)), u_6.2.2.2.2), rfl, hF.symm, by dsimp only; rw [ht]; exact hP⟩, hS.F ht⟩) hS.2.2 d_M_toMemory_21

def M_M_goDown (g : GM) (x : Ms) (p0 p1 : Int32) : Ms := (bnd (M_M_at g x (4 : Int32) p0) (fun r_3 => (if 0 ≤ r_3 then (x.1, (x.2.1.1, x.2.1.2.1, (upd x.2.1.2.2.1 r_3.toNatClampNeg (vp_nar .boolean (1 : Int32))), (upd x.2.1.2.2.2.1 r_3.toNatClampNeg p1), x.2.1.2.2.2.2), x.2.2.1, x.2.2.2.1, x.2.2.2.2) else (bnd (M_M_toMemory g x p0 p1) (fun u_14 => u_14)))))
theorem M_M_goDown_eq (g : GM) (x : Ms) (p0 p1 : Int32) : M_M_goDown g x p0 p1 = (bnd (M_M_at g x (4 : Int32) p0) (fun r_3 => (if 0 ≤ r_3 then (x.1, (x.2.1.1, x.2.1.2.1, (upd x.2.1.2.2.1 r_3.toNatClampNeg (vp_nar .boolean (1 : Int32))), (upd x.2.1.2.2.2.1 r_3.toNatClampNeg p1), x.2.1.2.2.2.2), x.2.2.1, x.2.2.2.1, x.2.2.2.2) else (bnd (M_M_toMemory g x p0 p1) (fun u_14 => u_14))))) := rfl
def S_M_goDown (g : GM) (x : Ms) (p0 p1 : Int32) : Prop := (S_M_at g x (4 : Int32) p0 ∧ (bnd (M_M_at g x (4 : Int32) p0) (fun r_3 => ((0 ≤ r_3 → (vp_in r_3 320 ∧ (vp_in r_3 320 ∧ True))) ∧ (¬ 0 ≤ r_3 → (S_M_toMemory g x p0 p1 ∧ (bnd (M_M_toMemory g x p0 p1) (fun u_14 => True))))))))
theorem S_M_goDown_eq (g : GM) (x : Ms) (p0 p1 : Int32) : S_M_goDown g x p0 p1 = (S_M_at g x (4 : Int32) p0 ∧ (bnd (M_M_at g x (4 : Int32) p0) (fun r_3 => ((0 ≤ r_3 → (vp_in r_3 320 ∧ (vp_in r_3 320 ∧ True))) ∧ (¬ 0 ≤ r_3 → (S_M_toMemory g x p0 p1 ∧ (bnd (M_M_toMemory g x p0 p1) (fun u_14 => True)))))))) := rfl
abbrev w_M_goDown : List Cond := .code y_M_goDown b_M_goDown 4 none :: tbW
abbrev rm_M_goDown : Room := { frames := 3, cells := 0, slots := 0, locals := 66 }
set_option maxHeartbeats 4000000 in
set_option maxRecDepth 100000 in
theorem c_M_goDown (l : Launch) (D : va_G) (cI cZ : ClassId) (g : GM) (hg : okM g) (x : Ms) (p0 p1 : Int32) (hs : S_M_goDown g x p0 p1) : Met l y_M_goDown w_M_goDown rm_M_goDown (PcW D vwCl (tyK cI cZ) [.ref g.1.1, .int p0, .int p1] (wM cI cZ g x)) (va_Qv (fun (u : Ms) => u = M_M_goDown g x p0 p1) (fun (u : Ms) (t : State) => va_P D vwCl (wM cI cZ g u) t.heap) (Aw (wM cI cZ g x))) 0 0 (Aw (wM cI cZ g x)) := by
  refine Met.ofW (cc := b_M_goDown) (maxL := 4) (ret := none) (by decide) rfl ?_
  intro p e s m args below meth c s₁ B hml hv
  obtain ⟨rfl, hP, hK, hD0⟩ := hv
  have hx := B.exec
  have hb := B.bytes
  have hr := B.returns
  have htb : ∀ w ∈ tbW, w.before _ s = true := fun w h => atoms_spec (ws := w_M_goDown) B.pre w (List.mem_cons_of_mem _ h)
  have hown : s.vm.findClass R_M = some m.cls := findClass_of_methodNamed B.named
  have hlocks := B.notSynchronized
  have hD : va_D (Aw (wM cI cZ g x)) (wM cI cZ g x) := ⟨hD0.1, fun k q hk => ⟨k, q.2, hk⟩⟩
  have hS : va_S (Aw (wM cI cZ g x)) s.heap s.heap [] := va_S.rf
  have hl := lv_entry ([.ref g.1.1, .int p0, .int p1]) (n := 4) (Nat.le_of_ble_eq_true rfl)
  rw [lg_entry_eq]
  generalize (lg_sl ([.ref g.1.1, .int p0, .int p1]) ++ List.replicate (4 - (lg_sl ([.ref g.1.1, .int p0, .int p1])).length) Slot.unset).toArray = ls at hl ⊢
  have hl : lv_has ls 4 [(0, .ref g.1.1), (1, .int p0), (2, .int p1)] := hl
  have hF := M_M_goDown_eq g x p0 p1
  have hs := Eq.mp (S_M_goDown_eq g x p0 p1) hs
  refine lv_aload_n hx hb d_M_goDown_0 rfl (lv_at hl 0 rfl) ?_
  refine lv_iconst (v := 4) hx hb d_M_goDown_1 (by decide) ?_
  refine lv_iload_n hx hb d_M_goDown_2 rfl (lv_at hl 1 rfl) ?_
  refine cpi (As := [.int (4 : Int32), .int p0]) (rest := []) ⟨hx, hb, hml, hown, htb⟩ (c_M_at l D cI cZ g hg x (4 : Int32) p0 hs.1) (cwv (n := 2) htb cd_M_at k_M_98 in_M_at se_M_at ini_M hd_M_at ⟨Nat.le_of_ble_eq_true rfl, Nat.le_of_ble_eq_true rfl⟩) hK hP [0, 1, 2, 3, 4, 5, 6, 7, 8, 9, 10] rfl (ci := 3) rfl rfl rfl hl.1 rfl (Nat.le_of_ble_eq_true rfl) d_M_goDown_3 ⟨Nat.zero_le _, Nat.zero_le _⟩ (fun r_3 hw_3 => ?_)
  have hF := hF.trans (bnd_eq hw_3)
  have hs := Eq.mp (bnd_eq hw_3) hs.2
  refine lv_istore_n (lv' := [(3, .int r_3), (0, .ref g.1.1), (1, .int p0), (2, .int p1)]) hx hb d_M_goDown_6 rfl hl (by decide) rfl (fun ls hl => ?_)
  refine lv_iload_n hx hb d_M_goDown_7 rfl (lv_at hl 0 rfl) ?_
  refine lv_if_ge (tgt := 18) hx hb d_M_goDown_8 (by decide) (fun c_8 => ?_) (fun c_8 => ?_)
  · have hF := hF.trans (if_pos c_8)
    have hs := hs.1 c_8
    refine lv_aload_n hx hb d_M_goDown_18 rfl (lv_at hl 1 rfl) ?_
    refine va_get (D := D) (ci := 3) (v := .ref g.1.2.2.2.1) (C := R_M) (T := T_M) (N := 20) hx hb htb i_M hown hK hP 0 rfl rfl 7 (by decide) (htb _ k_M_16) (fun _ h9 => h9) rfl d_M_goDown_19 ?_
    refine lv_iload_n hx hb d_M_goDown_22 rfl (lv_at hl 0 rfl) ?_
    refine lv_iconst (v := 1) hx hb d_M_goDown_23 (by decide) ?_
    refine va_zast hx hb hK hP hD hS 3 1 rfl rfl hs.1 d_M_goDown_24 (fun H locs hP hD hS => ?_)
    have hs := hs.2
    have hP : va_P D vwCl (wM cI cZ g (x.1, (x.2.1.1, x.2.1.2.1, (upd x.2.1.2.2.1 r_3.toNatClampNeg (vp_nar .boolean (1 : Int32))), x.2.1.2.2.2.1, x.2.1.2.2.2.2), x.2.2.1, x.2.2.2.1, x.2.2.2.2)) H := hP
    have hD : va_D _ (wM cI cZ g (x.1, (x.2.1.1, x.2.1.2.1, (upd x.2.1.2.2.1 r_3.toNatClampNeg (vp_nar .boolean (1 : Int32))), x.2.1.2.2.2.1, x.2.1.2.2.2.2), x.2.2.1, x.2.2.2.1, x.2.2.2.2)) := hD
    refine lv_aload_n hx hb d_M_goDown_25 rfl (lv_at hl 1 rfl) ?_
    refine va_get (D := D) (ci := 3) (v := .ref g.1.2.2.2.2.1) (C := R_M) (T := T_M) (N := 20) hx hb htb i_M hown hK hP 0 rfl rfl 8 (by decide) (htb _ k_M_20) (fun _ h9 => h9) rfl d_M_goDown_26 ?_
    refine lv_iload_n hx hb d_M_goDown_29 rfl (lv_at hl 0 rfl) ?_
    refine lv_iload_n hx hb d_M_goDown_30 rfl (lv_at hl 3 rfl) ?_
    refine va_iast hx hb hK hP hD hS 4 0 rfl rfl hs.1 d_M_goDown_31 (fun H locs hP hD hS => ?_)
    have hs := hs.2
    have hP : va_P D vwCl (wM cI cZ g (x.1, (x.2.1.1, x.2.1.2.1, (upd x.2.1.2.2.1 r_3.toNatClampNeg (vp_nar .boolean (1 : Int32))), (upd x.2.1.2.2.2.1 r_3.toNatClampNeg p1), x.2.1.2.2.2.2), x.2.2.1, x.2.2.2.1, x.2.2.2.2)) H := hP
    have hD : va_D _ (wM cI cZ g (x.1, (x.2.1.1, x.2.1.2.1, (upd x.2.1.2.2.1 r_3.toNatClampNeg (vp_nar .boolean (1 : Int32))), (upd x.2.1.2.2.2.1 r_3.toNatClampNeg p1), x.2.1.2.2.2.2), x.2.2.1, x.2.2.2.1, x.2.2.2.2)) := hD
    exact W.vret hx hb hr (fun t ht hW => ⟨⟨(x.1, (x.2.1.1, x.2.1.2.1, (upd x.2.1.2.2.1 r_3.toNatClampNeg (vp_nar .boolean (1 : Int32))), (upd x.2.1.2.2.2.1 r_3.toNatClampNeg p1), x.2.1.2.2.2.2), x.2.2.1, x.2.2.2.1, x.2.2.2.2), rfl, hF.symm, by dsimp only; rw [ht]; exact hP⟩, hS.F ht⟩) hS.2.2 d_M_goDown_32
  · have hF := hF.trans (if_neg c_8)
    have hs := hs.2 c_8
    refine lv_aload_n hx hb d_M_goDown_11 rfl (lv_at hl 1 rfl) ?_
    refine lv_iload_n hx hb d_M_goDown_12 rfl (lv_at hl 2 rfl) ?_
    refine lv_iload_n hx hb d_M_goDown_13 rfl (lv_at hl 3 rfl) ?_
    refine cwv_ (As := [.int p0, .int p1]) (rest := []) (wldC := fun u => (wM cI cZ g u)) ⟨hx, hb, hml, hown, htb⟩ (c_M_toMemory l D cI cZ g hg x p0 p1 hs.1) (cwv (n := 2) htb cd_M_toMemory k_M_101 in_M_toMemory se_M_toMemory ini_M hd_M_toMemory ⟨Nat.le_of_ble_eq_true rfl, Nat.le_of_ble_eq_true rfl⟩) hK hP hD hS [0, 1, 2, 3, 4, 5, 6, 7, 8, 9, 10] [] [0, 1, 2, 3, 4, 5, 6, 7, 8, 9, 10] rfl rfl (by decide) (by decide) rfl (fun _ => rfl) (fun _ => rfl) (ci := 3) rfl rfl rfl hl.1 rfl (Nat.le_of_ble_eq_true rfl) d_M_goDown_14 ⟨Nat.zero_le _, Nat.zero_le _⟩ (fun u_14 H locs hw_14 hP hD hS => ?_)
    have hP : va_P D vwCl (wM cI cZ g u_14) H := hP
    have hD : va_D _ (wM cI cZ g u_14) := hD
    have hF := hF.trans (bnd_eq hw_14)
    have hs := Eq.mp (bnd_eq hw_14) hs.2
    exact W.vret hx hb hr (fun t ht hW => ⟨⟨u_14, rfl, hF.symm, by dsimp only; rw [ht]; exact hP⟩, hS.F ht⟩) hS.2.2 d_M_goDown_17

def L_M_isOneOf_5 (g : GM) (x : Ms) (p0 p1 : Int32) : Nat → Int32 → Int32 → Int32
  | 0, _, _ => 0
  | n + 1, v3, v4 => (if g.2.1 ≤ v4 then v3 else (if v3 = 0 then (if v4 = p1 then L_M_isOneOf_5 g x p0 p1 n (0 : Int32) (v4 + 1) else (bnd (M_M_at g x v4 p0) (fun r_28 => (if r_28 < 0 then L_M_isOneOf_5 g x p0 p1 n (0 : Int32) (v4 + 1) else L_M_isOneOf_5 g x p0 p1 n (1 : Int32) (v4 + 1))))) else L_M_isOneOf_5 g x p0 p1 n (1 : Int32) (v4 + 1)))
theorem L_M_isOneOf_5_eq (g : GM) (x : Ms) (p0 p1 : Int32) (n : Nat) (v3 v4 : Int32) : L_M_isOneOf_5 g x p0 p1 (n + 1) v3 v4 = (if g.2.1 ≤ v4 then v3 else (if v3 = 0 then (if v4 = p1 then L_M_isOneOf_5 g x p0 p1 n (0 : Int32) (v4 + 1) else (bnd (M_M_at g x v4 p0) (fun r_28 => (if r_28 < 0 then L_M_isOneOf_5 g x p0 p1 n (0 : Int32) (v4 + 1) else L_M_isOneOf_5 g x p0 p1 n (1 : Int32) (v4 + 1))))) else L_M_isOneOf_5 g x p0 p1 n (1 : Int32) (v4 + 1))) := by first | rfl | rw [L_M_isOneOf_5]
def S_M_isOneOf_5 (g : GM) (x : Ms) (p0 p1 : Int32) : Nat → Int32 → Int32 → Prop
  | 0, _, _ => True
  | n + 1, v3, v4 => ((g.2.1 ≤ v4 → (narrow .boolean (.int v3) = .int v3 ∧ True)) ∧ (¬ g.2.1 ≤ v4 → ((v3 = 0 → ((v4 = p1 → (mu (v4 + 1) g.2.1 < mu v4 g.2.1 ∧ S_M_isOneOf_5 g x p0 p1 n (0 : Int32) (v4 + 1))) ∧ (¬ v4 = p1 → (S_M_at g x v4 p0 ∧ (bnd (M_M_at g x v4 p0) (fun r_28 => ((r_28 < 0 → (mu (v4 + 1) g.2.1 < mu v4 g.2.1 ∧ S_M_isOneOf_5 g x p0 p1 n (0 : Int32) (v4 + 1))) ∧ (¬ r_28 < 0 → (mu (v4 + 1) g.2.1 < mu v4 g.2.1 ∧ S_M_isOneOf_5 g x p0 p1 n (1 : Int32) (v4 + 1)))))))))) ∧ (¬ v3 = 0 → (mu (v4 + 1) g.2.1 < mu v4 g.2.1 ∧ S_M_isOneOf_5 g x p0 p1 n (1 : Int32) (v4 + 1))))))
theorem S_M_isOneOf_5_eq (g : GM) (x : Ms) (p0 p1 : Int32) (n : Nat) (v3 v4 : Int32) : S_M_isOneOf_5 g x p0 p1 (n + 1) v3 v4 = ((g.2.1 ≤ v4 → (narrow .boolean (.int v3) = .int v3 ∧ True)) ∧ (¬ g.2.1 ≤ v4 → ((v3 = 0 → ((v4 = p1 → (mu (v4 + 1) g.2.1 < mu v4 g.2.1 ∧ S_M_isOneOf_5 g x p0 p1 n (0 : Int32) (v4 + 1))) ∧ (¬ v4 = p1 → (S_M_at g x v4 p0 ∧ (bnd (M_M_at g x v4 p0) (fun r_28 => ((r_28 < 0 → (mu (v4 + 1) g.2.1 < mu v4 g.2.1 ∧ S_M_isOneOf_5 g x p0 p1 n (0 : Int32) (v4 + 1))) ∧ (¬ r_28 < 0 → (mu (v4 + 1) g.2.1 < mu v4 g.2.1 ∧ S_M_isOneOf_5 g x p0 p1 n (1 : Int32) (v4 + 1)))))))))) ∧ (¬ v3 = 0 → (mu (v4 + 1) g.2.1 < mu v4 g.2.1 ∧ S_M_isOneOf_5 g x p0 p1 n (1 : Int32) (v4 + 1)))))) := by first | rfl | rw [S_M_isOneOf_5]
def M_M_isOneOf (g : GM) (x : Ms) (p0 p1 : Int32) : Int32 := L_M_isOneOf_5 g x p0 p1 (mu (0 : Int32) g.2.1 + 1) (0 : Int32) (0 : Int32)
theorem M_M_isOneOf_eq (g : GM) (x : Ms) (p0 p1 : Int32) : M_M_isOneOf g x p0 p1 = L_M_isOneOf_5 g x p0 p1 (mu (0 : Int32) g.2.1 + 1) (0 : Int32) (0 : Int32) := rfl
def S_M_isOneOf (g : GM) (x : Ms) (p0 p1 : Int32) : Prop := S_M_isOneOf_5 g x p0 p1 (mu (0 : Int32) g.2.1 + 1) (0 : Int32) (0 : Int32)
theorem S_M_isOneOf_eq (g : GM) (x : Ms) (p0 p1 : Int32) : S_M_isOneOf g x p0 p1 = S_M_isOneOf_5 g x p0 p1 (mu (0 : Int32) g.2.1 + 1) (0 : Int32) (0 : Int32) := rfl
abbrev w_M_isOneOf : List Cond := .code y_M_isOneOf b_M_isOneOf 5 (some .boolean) :: tbW
abbrev rm_M_isOneOf : Room := { frames := 1, cells := 0, slots := 0, locals := 23 }
set_option maxHeartbeats 4000000 in
set_option maxRecDepth 100000 in
theorem c_M_isOneOf (l : Launch) (D : va_G) (cI cZ : ClassId) (g : GM) (hg : okM g) (x : Ms) (p0 p1 : Int32) (hs : S_M_isOneOf g x p0 p1) : Met l y_M_isOneOf w_M_isOneOf rm_M_isOneOf (PcR D vwCl (tyK cI cZ) [.ref g.1.1, .int p0, .int p1] (wM cI cZ g x)) (vp_Si (fun r => r = M_M_isOneOf g x p0 p1)) 0 0 (fun _ => False) := by
  refine Met.ofW (cc := b_M_isOneOf) (maxL := 5) (ret := (some .boolean)) (by decide) rfl ?_
  intro p e s m args below meth c s₁ B hml hv
  obtain ⟨rfl, hP, hK⟩ := hv
  have hx := B.exec
  have hb := B.bytes
  have hr := B.returns
  have htb : ∀ w ∈ tbW, w.before _ s = true := fun w h => atoms_spec (ws := w_M_isOneOf) B.pre w (List.mem_cons_of_mem _ h)
  have hown : s.vm.findClass R_M = some m.cls := findClass_of_methodNamed B.named
  have hlocks := B.notSynchronized
  have cut_5 : ∀ (n : Nat) (v3 v4 : Int32) (ls : Array Slot), mu v4 g.2.1 < n → M_M_isOneOf g x p0 p1 = L_M_isOneOf_5 g x p0 p1 n v3 v4 → S_M_isOneOf_5 g x p0 p1 n v3 v4 → lv_has ls 5 [(0, .ref g.1.1), (1, .int p0), (2, .int p1), (3, .int v3), (4, .int v4)] → W p l e (headSpec w_M_isOneOf rm_M_isOneOf).room s m ([.ref g.1.1, .int p0, .int p1] : List Value).toArray below meth c s.heap [] 0 0 (MQ below (vp_Si (fun r => r = M_M_isOneOf g x p0 p1)) ([.ref g.1.1, .int p0, .int p1] : List Value).toArray s 0 0 (fun _ => False)) (F0 m 5 ls []) := by
    intro n
    induction n with
    | zero => intro v3 v4 ls hm _ _ _; exact absurd hm (Nat.not_lt_zero _)
    | succ n ih =>
      intro v3 v4 ls hm hF hs hl
      have hF := hF.trans (L_M_isOneOf_5_eq g x p0 p1 n v3 v4)
      have hs := Eq.mp (S_M_isOneOf_5_eq g x p0 p1 n v3 v4) hs
      refine lv_iload hx hb d_M_isOneOf_5 (lv_at hl 4 rfl) ?_
      refine lv_aload_n hx hb d_M_isOneOf_7 rfl (lv_at hl 0 rfl) ?_
      refine va_get (D := D) (ci := 3) (v := .int g.2.1) (C := R_M) (T := T_M) (N := 20) hx hb htb i_M hown hK hP 0 rfl rfl 1 (by decide) (htb _ k_M_45) (fun _ h9 => h9) rfl d_M_isOneOf_8 ?_
      refine lv_icmp_ge (tgt := 46) hx hb d_M_isOneOf_11 (by decide) (fun c_11 => ?_) (fun c_11 => ?_)
      · have hF := hF.trans (if_pos c_11)
        have hs := hs.1 c_11
        refine lv_iload_n hx hb d_M_isOneOf_46 rfl (lv_at hl 3 rfl) ?_
        exact W.zret (v := v3) (ty := .boolean) hx hb hr hs.1 (fun t ht hW => ⟨_, rfl, hF.symm, ht⟩) (fun q h => by cases h) d_M_isOneOf_47
      · have hF := hF.trans (if_neg c_11)
        have hs := hs.2 c_11
        refine lv_iload_n hx hb d_M_isOneOf_14 rfl (lv_at hl 3 rfl) ?_
        refine lv_if_ne (tgt := 34) hx hb d_M_isOneOf_15 (by decide) (fun c_15 => ?_) (fun c_15 => ?_)
        · have hF := hF.trans (if_neg c_15)
          have hs := hs.2 c_15
          refine lv_iconst (v := 1) hx hb d_M_isOneOf_34 (by decide) ?_
          refine lv_goto (tgt := 39) hx hb d_M_isOneOf_35 (by decide) ?_
          refine lv_istore_n (lv' := [(3, .int (1 : Int32)), (0, .ref g.1.1), (1, .int p0), (2, .int p1), (4, .int v4)]) hx hb d_M_isOneOf_39 rfl hl (by decide) rfl (fun ls hl => ?_)
          refine lv_iinc (v := (v4 + 1)) (lv' := [(4, .int (v4 + 1)), (3, .int (1 : Int32)), (0, .ref g.1.1), (1, .int p0), (2, .int p1)]) hx hb d_M_isOneOf_40 hl (k := 4) rfl rfl (by decide) rfl (fun ls hl => ?_)
          refine lv_goto (tgt := 5) hx hb d_M_isOneOf_43 (by decide) ?_
          have hl := lv_sub (l' := [(0, .ref g.1.1), (1, .int p0), (2, .int p1), (3, .int (1 : Int32)), (4, .int (v4 + 1))]) hl [2, 3, 4, 1, 0] rfl
          exact ih (1 : Int32) (v4 + 1) _ (Nat.lt_of_lt_of_le hs.1 (Nat.le_of_lt_succ hm)) hF hs.2 hl
        · have hF := hF.trans (if_pos c_15)
          have hs := hs.1 c_15
          refine lv_iload hx hb d_M_isOneOf_18 (lv_at hl 4 rfl) ?_
          refine lv_iload_n hx hb d_M_isOneOf_20 rfl (lv_at hl 2 rfl) ?_
          refine lv_icmp_eq (tgt := 38) hx hb d_M_isOneOf_21 (by decide) (fun c_21 => ?_) (fun c_21 => ?_)
          · have hF := hF.trans (if_pos c_21)
            have hs := hs.1 c_21
            refine lv_iconst (v := 0) hx hb d_M_isOneOf_38 (by decide) ?_
            refine lv_istore_n (lv' := [(3, .int (0 : Int32)), (0, .ref g.1.1), (1, .int p0), (2, .int p1), (4, .int v4)]) hx hb d_M_isOneOf_39 rfl hl (by decide) rfl (fun ls hl => ?_)
            refine lv_iinc (v := (v4 + 1)) (lv' := [(4, .int (v4 + 1)), (3, .int (0 : Int32)), (0, .ref g.1.1), (1, .int p0), (2, .int p1)]) hx hb d_M_isOneOf_40 hl (k := 4) rfl rfl (by decide) rfl (fun ls hl => ?_)
            refine lv_goto (tgt := 5) hx hb d_M_isOneOf_43 (by decide) ?_
            have hl := lv_sub (l' := [(0, .ref g.1.1), (1, .int p0), (2, .int p1), (3, .int (0 : Int32)), (4, .int (v4 + 1))]) hl [2, 3, 4, 1, 0] rfl
            exact ih (0 : Int32) (v4 + 1) _ (Nat.lt_of_lt_of_le hs.1 (Nat.le_of_lt_succ hm)) hF hs.2 hl
          · have hF := hF.trans (if_neg c_21)
            have hs := hs.2 c_21
            refine lv_aload_n hx hb d_M_isOneOf_24 rfl (lv_at hl 0 rfl) ?_
            refine lv_iload hx hb d_M_isOneOf_25 (lv_at hl 4 rfl) ?_
            refine lv_iload_n hx hb d_M_isOneOf_27 rfl (lv_at hl 1 rfl) ?_
            refine cpi (As := [.int v4, .int p0]) (rest := []) ⟨hx, hb, hml, hown, htb⟩ (c_M_at l D cI cZ g hg x v4 p0 hs.1) (cwv (n := 2) htb cd_M_at k_M_98 in_M_at se_M_at ini_M hd_M_at ⟨Nat.le_of_ble_eq_true rfl, Nat.le_of_ble_eq_true rfl⟩) hK hP [0, 1, 2, 3, 4, 5, 6, 7, 8, 9, 10] rfl (ci := 3) rfl rfl rfl hl.1 rfl (Nat.le_of_ble_eq_true rfl) d_M_isOneOf_28 ⟨Nat.zero_le _, Nat.zero_le _⟩ (fun r_28 hw_28 => ?_)
            have hF := hF.trans (bnd_eq hw_28)
            have hs := Eq.mp (bnd_eq hw_28) hs.2
            refine lv_if_lt (tgt := 38) hx hb d_M_isOneOf_31 (by decide) (fun c_31 => ?_) (fun c_31 => ?_)
            · have hF := hF.trans (if_pos c_31)
              have hs := hs.1 c_31
              refine lv_iconst (v := 0) hx hb d_M_isOneOf_38 (by decide) ?_
              refine lv_istore_n (lv' := [(3, .int (0 : Int32)), (0, .ref g.1.1), (1, .int p0), (2, .int p1), (4, .int v4)]) hx hb d_M_isOneOf_39 rfl hl (by decide) rfl (fun ls hl => ?_)
              refine lv_iinc (v := (v4 + 1)) (lv' := [(4, .int (v4 + 1)), (3, .int (0 : Int32)), (0, .ref g.1.1), (1, .int p0), (2, .int p1)]) hx hb d_M_isOneOf_40 hl (k := 4) rfl rfl (by decide) rfl (fun ls hl => ?_)
              refine lv_goto (tgt := 5) hx hb d_M_isOneOf_43 (by decide) ?_
              have hl := lv_sub (l' := [(0, .ref g.1.1), (1, .int p0), (2, .int p1), (3, .int (0 : Int32)), (4, .int (v4 + 1))]) hl [2, 3, 4, 1, 0] rfl
              exact ih (0 : Int32) (v4 + 1) _ (Nat.lt_of_lt_of_le hs.1 (Nat.le_of_lt_succ hm)) hF hs.2 hl
            · have hF := hF.trans (if_neg c_31)
              have hs := hs.2 c_31
              refine lv_iconst (v := 1) hx hb d_M_isOneOf_34 (by decide) ?_
              refine lv_goto (tgt := 39) hx hb d_M_isOneOf_35 (by decide) ?_
              refine lv_istore_n (lv' := [(3, .int (1 : Int32)), (0, .ref g.1.1), (1, .int p0), (2, .int p1), (4, .int v4)]) hx hb d_M_isOneOf_39 rfl hl (by decide) rfl (fun ls hl => ?_)
              refine lv_iinc (v := (v4 + 1)) (lv' := [(4, .int (v4 + 1)), (3, .int (1 : Int32)), (0, .ref g.1.1), (1, .int p0), (2, .int p1)]) hx hb d_M_isOneOf_40 hl (k := 4) rfl rfl (by decide) rfl (fun ls hl => ?_)
              refine lv_goto (tgt := 5) hx hb d_M_isOneOf_43 (by decide) ?_
              have hl := lv_sub (l' := [(0, .ref g.1.1), (1, .int p0), (2, .int p1), (3, .int (1 : Int32)), (4, .int (v4 + 1))]) hl [2, 3, 4, 1, 0] rfl
              exact ih (1 : Int32) (v4 + 1) _ (Nat.lt_of_lt_of_le hs.1 (Nat.le_of_lt_succ hm)) hF hs.2 hl
  have hl := lv_entry ([.ref g.1.1, .int p0, .int p1]) (n := 5) (Nat.le_of_ble_eq_true rfl)
  rw [lg_entry_eq]
  generalize (lg_sl ([.ref g.1.1, .int p0, .int p1]) ++ List.replicate (5 - (lg_sl ([.ref g.1.1, .int p0, .int p1])).length) Slot.unset).toArray = ls at hl ⊢
  have hl : lv_has ls 5 [(0, .ref g.1.1), (1, .int p0), (2, .int p1)] := hl
  have hF := M_M_isOneOf_eq g x p0 p1
  have hs := Eq.mp (S_M_isOneOf_eq g x p0 p1) hs
  refine lv_iconst (v := 0) hx hb d_M_isOneOf_0 (by decide) ?_
  refine lv_istore_n (lv' := [(3, .int (0 : Int32)), (0, .ref g.1.1), (1, .int p0), (2, .int p1)]) hx hb d_M_isOneOf_1 rfl hl (by decide) rfl (fun ls hl => ?_)
  refine lv_iconst (v := 0) hx hb d_M_isOneOf_2 (by decide) ?_
  refine lv_istore (lv' := [(4, .int (0 : Int32)), (3, .int (0 : Int32)), (0, .ref g.1.1), (1, .int p0), (2, .int p1)]) hx hb d_M_isOneOf_3 hl (by decide) rfl (fun ls hl => ?_)
  have hl := lv_sub (l' := [(0, .ref g.1.1), (1, .int p0), (2, .int p1), (3, .int (0 : Int32)), (4, .int (0 : Int32))]) hl [2, 3, 4, 1, 0] rfl
  exact cut_5 (mu (0 : Int32) g.2.1 + 1) (0 : Int32) (0 : Int32) _ (Nat.lt_succ_self _) hF hs hl

def M_M_passes (g : GM) (x : Ms) (p0 : Int32) : Int32 := (if p0 < x.1.2.1 then (0 : Int32) else (if x.1.2.2.1 < p0 then (0 : Int32) else (1 : Int32)))
theorem M_M_passes_eq (g : GM) (x : Ms) (p0 : Int32) : M_M_passes g x p0 = (if p0 < x.1.2.1 then (0 : Int32) else (if x.1.2.2.1 < p0 then (0 : Int32) else (1 : Int32))) := rfl
abbrev w_M_passes : List Cond := .code y_M_passes b_M_passes 2 (some .boolean) :: tbW
abbrev rm_M_passes : Room := { frames := 0, cells := 0, slots := 0, locals := 0 }
set_option maxHeartbeats 4000000 in
set_option maxRecDepth 100000 in
theorem c_M_passes (l : Launch) (D : va_G) (cI cZ : ClassId) (g : GM) (hg : okM g) (x : Ms) (p0 : Int32) : Met l y_M_passes w_M_passes rm_M_passes (PcR D vwCl (tyK cI cZ) [.ref g.1.1, .int p0] (wM cI cZ g x)) (vp_Si (fun r => r = M_M_passes g x p0)) 0 0 (fun _ => False) := by
  refine Met.ofW (cc := b_M_passes) (maxL := 2) (ret := (some .boolean)) (by decide) rfl ?_
  intro p e s m args below meth c s₁ B hml hv
  obtain ⟨rfl, hP, hK⟩ := hv
  have hx := B.exec
  have hb := B.bytes
  have hr := B.returns
  have htb : ∀ w ∈ tbW, w.before _ s = true := fun w h => atoms_spec (ws := w_M_passes) B.pre w (List.mem_cons_of_mem _ h)
  have hown : s.vm.findClass R_M = some m.cls := findClass_of_methodNamed B.named
  have hlocks := B.notSynchronized
  have hl := lv_entry ([.ref g.1.1, .int p0]) (n := 2) (Nat.le_of_ble_eq_true rfl)
  rw [lg_entry_eq]
  generalize (lg_sl ([.ref g.1.1, .int p0]) ++ List.replicate (2 - (lg_sl ([.ref g.1.1, .int p0])).length) Slot.unset).toArray = ls at hl ⊢
  have hl : lv_has ls 2 [(0, .ref g.1.1), (1, .int p0)] := hl
  have hF := M_M_passes_eq g x p0
  refine lv_iload_n hx hb d_M_passes_0 rfl (lv_at hl 1 rfl) ?_
  refine lv_aload_n hx hb d_M_passes_1 rfl (lv_at hl 0 rfl) ?_
  refine va_get (D := D) (ci := 3) (v := .int x.1.2.1) (C := R_M) (T := T_M) (N := 20) hx hb htb i_M hown hK hP 0 rfl rfl 11 (by decide) (htb _ k_M_29) (fun _ h9 => h9) rfl d_M_passes_2 ?_
  refine lv_icmp_lt (tgt := 20) hx hb d_M_passes_5 (by decide) (fun c_5 => ?_) (fun c_5 => ?_)
  · have hF := hF.trans (if_pos c_5)
    refine lv_iconst (v := 0) hx hb d_M_passes_20 (by decide) ?_
    exact W.zret (v := (0 : Int32)) (ty := .boolean) hx hb hr rfl (fun t ht hW => ⟨_, rfl, hF.symm, ht⟩) (fun q h => by cases h) d_M_passes_21
  · have hF := hF.trans (if_neg c_5)
    refine lv_iload_n hx hb d_M_passes_8 rfl (lv_at hl 1 rfl) ?_
    refine lv_aload_n hx hb d_M_passes_9 rfl (lv_at hl 0 rfl) ?_
    refine va_get (D := D) (ci := 3) (v := .int x.1.2.2.1) (C := R_M) (T := T_M) (N := 20) hx hb htb i_M hown hK hP 0 rfl rfl 12 (by decide) (htb _ k_M_104) (fun _ h9 => h9) rfl d_M_passes_10 ?_
    refine lv_icmp_gt (tgt := 20) hx hb d_M_passes_13 (by decide) (fun c_13 => ?_) (fun c_13 => ?_)
    · have hF := hF.trans (if_pos c_13)
      refine lv_iconst (v := 0) hx hb d_M_passes_20 (by decide) ?_
      exact W.zret (v := (0 : Int32)) (ty := .boolean) hx hb hr rfl (fun t ht hW => ⟨_, rfl, hF.symm, ht⟩) (fun q h => by cases h) d_M_passes_21
    · have hF := hF.trans (if_neg c_13)
      refine lv_iconst (v := 1) hx hb d_M_passes_16 (by decide) ?_
      refine lv_goto (tgt := 21) hx hb d_M_passes_17 (by decide) ?_
      exact W.zret (v := (1 : Int32)) (ty := .boolean) hx hb hr rfl (fun t ht hW => ⟨_, rfl, hF.symm, ht⟩) (fun q h => by cases h) d_M_passes_21

def L_M_leaveSecond_114 (g : GM) (p0 : Int32) (v2 v3 v4 : Int32) (z : Ms) : Ms := (if v3 = 0 then z else (bnd (M_M_toMemory g z v2 v4) (fun u_122 => u_122)))
theorem L_M_leaveSecond_114_eq (g : GM) (p0 : Int32) (v2 v3 v4 : Int32) (z : Ms) : L_M_leaveSecond_114 g p0 v2 v3 v4 z = (if v3 = 0 then z else (bnd (M_M_toMemory g z v2 v4) (fun u_122 => u_122))) := rfl
def S_M_leaveSecond_114 (g : GM) (p0 : Int32) (v2 v3 v4 : Int32) (z : Ms) : Prop := ((v3 = 0 → True) ∧ (¬ v3 = 0 → (S_M_toMemory g z v2 v4 ∧ (bnd (M_M_toMemory g z v2 v4) (fun u_122 => True)))))
theorem S_M_leaveSecond_114_eq (g : GM) (p0 : Int32) (v2 v3 v4 : Int32) (z : Ms) : S_M_leaveSecond_114 g p0 v2 v3 v4 z = ((v3 = 0 → True) ∧ (¬ v3 = 0 → (S_M_toMemory g z v2 v4 ∧ (bnd (M_M_toMemory g z v2 v4) (fun u_122 => True))))) := rfl
def L_M_leaveSecond_39 (g : GM) (p0 : Int32) : Nat → Int32 → Int32 → Int32 → Int32 → Ms → Ms
  | 0, _, _, _, _, z => z
  | n + 1, v2, v3, v4, v5, z => (if g.2.1 ≤ v5 then L_M_leaveSecond_114 g p0 v2 v3 v4 z else (bnd (M_M_at g z v5 v2) (fun r_52 => (if r_52 < 0 then L_M_leaveSecond_39 g p0 n v2 v3 v4 (v5 + 1) z else (if (z.2.1.2.2.1 r_52.toNatClampNeg) = 0 then (bnd (M_M_takeOut g (z.1, z.2.1, z.2.2.1, z.2.2.2.1, (upd z.2.2.2.2 (((7 : Int32) * v5) + (6 : Int32)).toNatClampNeg ((z.2.2.2.2 (((7 : Int32) * v5) + (6 : Int32)).toNatClampNeg) + (1 : Int32)))) v5 r_52) (fun u_105 => L_M_leaveSecond_39 g p0 n v2 v3 v4 (v5 + 1) u_105)) else (bnd (M_M_takeOut g (z.1, z.2.1, z.2.2.1, z.2.2.2.1, (upd z.2.2.2.2 (((7 : Int32) * v5) + (6 : Int32)).toNatClampNeg ((z.2.2.2.2 (((7 : Int32) * v5) + (6 : Int32)).toNatClampNeg) + (1 : Int32)))) v5 r_52) (fun u_105 => L_M_leaveSecond_39 g p0 n v2 (1 : Int32) (z.2.1.2.2.2.1 r_52.toNatClampNeg) (v5 + 1) u_105)))))))
theorem L_M_leaveSecond_39_eq (g : GM) (p0 : Int32) (n : Nat) (v2 v3 v4 v5 : Int32) (z : Ms) : L_M_leaveSecond_39 g p0 (n + 1) v2 v3 v4 v5 z = (if g.2.1 ≤ v5 then L_M_leaveSecond_114 g p0 v2 v3 v4 z else (bnd (M_M_at g z v5 v2) (fun r_52 => (if r_52 < 0 then L_M_leaveSecond_39 g p0 n v2 v3 v4 (v5 + 1) z else (if (z.2.1.2.2.1 r_52.toNatClampNeg) = 0 then (bnd (M_M_takeOut g (z.1, z.2.1, z.2.2.1, z.2.2.2.1, (upd z.2.2.2.2 (((7 : Int32) * v5) + (6 : Int32)).toNatClampNeg ((z.2.2.2.2 (((7 : Int32) * v5) + (6 : Int32)).toNatClampNeg) + (1 : Int32)))) v5 r_52) (fun u_105 => L_M_leaveSecond_39 g p0 n v2 v3 v4 (v5 + 1) u_105)) else (bnd (M_M_takeOut g (z.1, z.2.1, z.2.2.1, z.2.2.2.1, (upd z.2.2.2.2 (((7 : Int32) * v5) + (6 : Int32)).toNatClampNeg ((z.2.2.2.2 (((7 : Int32) * v5) + (6 : Int32)).toNatClampNeg) + (1 : Int32)))) v5 r_52) (fun u_105 => L_M_leaveSecond_39 g p0 n v2 (1 : Int32) (z.2.1.2.2.2.1 r_52.toNatClampNeg) (v5 + 1) u_105))))))) := by first | rfl | rw [L_M_leaveSecond_39]
def S_M_leaveSecond_39 (g : GM) (p0 : Int32) : Nat → Int32 → Int32 → Int32 → Int32 → Ms → Prop
  | 0, _, _, _, _, _ => True
  | n + 1, v2, v3, v4, v5, z => ((g.2.1 ≤ v5 → S_M_leaveSecond_114 g p0 v2 v3 v4 z) ∧ (¬ g.2.1 ≤ v5 → (S_M_at g z v5 v2 ∧ (bnd (M_M_at g z v5 v2) (fun r_52 => ((r_52 < 0 → (mu (v5 + 1) g.2.1 < mu v5 g.2.1 ∧ S_M_leaveSecond_39 g p0 n v2 v3 v4 (v5 + 1) z)) ∧ (¬ r_52 < 0 → (vp_in (((7 : Int32) * v5) + (6 : Int32)) 28 ∧ (vp_in (((7 : Int32) * v5) + (6 : Int32)) 28 ∧ (vp_in r_52 320 ∧ (((z.2.1.2.2.1 r_52.toNatClampNeg) = 0 → (S_M_takeOut g (z.1, z.2.1, z.2.2.1, z.2.2.2.1, (upd z.2.2.2.2 (((7 : Int32) * v5) + (6 : Int32)).toNatClampNeg ((z.2.2.2.2 (((7 : Int32) * v5) + (6 : Int32)).toNatClampNeg) + (1 : Int32)))) v5 r_52 ∧ (bnd (M_M_takeOut g (z.1, z.2.1, z.2.2.1, z.2.2.2.1, (upd z.2.2.2.2 (((7 : Int32) * v5) + (6 : Int32)).toNatClampNeg ((z.2.2.2.2 (((7 : Int32) * v5) + (6 : Int32)).toNatClampNeg) + (1 : Int32)))) v5 r_52) (fun u_105 => (mu (v5 + 1) g.2.1 < mu v5 g.2.1 ∧ S_M_leaveSecond_39 g p0 n v2 v3 v4 (v5 + 1) u_105))))) ∧ (¬ (z.2.1.2.2.1 r_52.toNatClampNeg) = 0 → (vp_in r_52 320 ∧ (S_M_takeOut g (z.1, z.2.1, z.2.2.1, z.2.2.2.1, (upd z.2.2.2.2 (((7 : Int32) * v5) + (6 : Int32)).toNatClampNeg ((z.2.2.2.2 (((7 : Int32) * v5) + (6 : Int32)).toNatClampNeg) + (1 : Int32)))) v5 r_52 ∧ (bnd (M_M_takeOut g (z.1, z.2.1, z.2.2.1, z.2.2.2.1, (upd z.2.2.2.2 (((7 : Int32) * v5) + (6 : Int32)).toNatClampNeg ((z.2.2.2.2 (((7 : Int32) * v5) + (6 : Int32)).toNatClampNeg) + (1 : Int32)))) v5 r_52) (fun u_105 => (mu (v5 + 1) g.2.1 < mu v5 g.2.1 ∧ S_M_leaveSecond_39 g p0 n v2 (1 : Int32) (z.2.1.2.2.2.1 r_52.toNatClampNeg) (v5 + 1) u_105)))))))))))))))))
theorem S_M_leaveSecond_39_eq (g : GM) (p0 : Int32) (n : Nat) (v2 v3 v4 v5 : Int32) (z : Ms) : S_M_leaveSecond_39 g p0 (n + 1) v2 v3 v4 v5 z = ((g.2.1 ≤ v5 → S_M_leaveSecond_114 g p0 v2 v3 v4 z) ∧ (¬ g.2.1 ≤ v5 → (S_M_at g z v5 v2 ∧ (bnd (M_M_at g z v5 v2) (fun r_52 => ((r_52 < 0 → (mu (v5 + 1) g.2.1 < mu v5 g.2.1 ∧ S_M_leaveSecond_39 g p0 n v2 v3 v4 (v5 + 1) z)) ∧ (¬ r_52 < 0 → (vp_in (((7 : Int32) * v5) + (6 : Int32)) 28 ∧ (vp_in (((7 : Int32) * v5) + (6 : Int32)) 28 ∧ (vp_in r_52 320 ∧ (((z.2.1.2.2.1 r_52.toNatClampNeg) = 0 → (S_M_takeOut g (z.1, z.2.1, z.2.2.1, z.2.2.2.1, (upd z.2.2.2.2 (((7 : Int32) * v5) + (6 : Int32)).toNatClampNeg ((z.2.2.2.2 (((7 : Int32) * v5) + (6 : Int32)).toNatClampNeg) + (1 : Int32)))) v5 r_52 ∧ (bnd (M_M_takeOut g (z.1, z.2.1, z.2.2.1, z.2.2.2.1, (upd z.2.2.2.2 (((7 : Int32) * v5) + (6 : Int32)).toNatClampNeg ((z.2.2.2.2 (((7 : Int32) * v5) + (6 : Int32)).toNatClampNeg) + (1 : Int32)))) v5 r_52) (fun u_105 => (mu (v5 + 1) g.2.1 < mu v5 g.2.1 ∧ S_M_leaveSecond_39 g p0 n v2 v3 v4 (v5 + 1) u_105))))) ∧ (¬ (z.2.1.2.2.1 r_52.toNatClampNeg) = 0 → (vp_in r_52 320 ∧ (S_M_takeOut g (z.1, z.2.1, z.2.2.1, z.2.2.2.1, (upd z.2.2.2.2 (((7 : Int32) * v5) + (6 : Int32)).toNatClampNeg ((z.2.2.2.2 (((7 : Int32) * v5) + (6 : Int32)).toNatClampNeg) + (1 : Int32)))) v5 r_52 ∧ (bnd (M_M_takeOut g (z.1, z.2.1, z.2.2.1, z.2.2.2.1, (upd z.2.2.2.2 (((7 : Int32) * v5) + (6 : Int32)).toNatClampNeg ((z.2.2.2.2 (((7 : Int32) * v5) + (6 : Int32)).toNatClampNeg) + (1 : Int32)))) v5 r_52) (fun u_105 => (mu (v5 + 1) g.2.1 < mu v5 g.2.1 ∧ S_M_leaveSecond_39 g p0 n v2 (1 : Int32) (z.2.1.2.2.2.1 r_52.toNatClampNeg) (v5 + 1) u_105))))))))))))))))) := by first | rfl | rw [S_M_leaveSecond_39]
def M_M_leaveSecond (g : GM) (x : Ms) (p0 : Int32) : Ms := (bnd (M_M_takeOut g x (4 : Int32) p0) (fun u_25 => (if g.2.2.1 = (1 : Int32) then L_M_leaveSecond_39 g p0 (mu (0 : Int32) g.2.1 + 1) (x.2.1.2.1 p0.toNatClampNeg) (x.2.1.2.2.1 p0.toNatClampNeg) (x.2.1.2.2.2.1 p0.toNatClampNeg) (0 : Int32) u_25 else L_M_leaveSecond_114 g p0 (x.2.1.2.1 p0.toNatClampNeg) (x.2.1.2.2.1 p0.toNatClampNeg) (x.2.1.2.2.2.1 p0.toNatClampNeg) u_25)))
theorem M_M_leaveSecond_eq (g : GM) (x : Ms) (p0 : Int32) : M_M_leaveSecond g x p0 = (bnd (M_M_takeOut g x (4 : Int32) p0) (fun u_25 => (if g.2.2.1 = (1 : Int32) then L_M_leaveSecond_39 g p0 (mu (0 : Int32) g.2.1 + 1) (x.2.1.2.1 p0.toNatClampNeg) (x.2.1.2.2.1 p0.toNatClampNeg) (x.2.1.2.2.2.1 p0.toNatClampNeg) (0 : Int32) u_25 else L_M_leaveSecond_114 g p0 (x.2.1.2.1 p0.toNatClampNeg) (x.2.1.2.2.1 p0.toNatClampNeg) (x.2.1.2.2.2.1 p0.toNatClampNeg) u_25))) := rfl
def S_M_leaveSecond (g : GM) (x : Ms) (p0 : Int32) : Prop := (vp_in p0 320 ∧ (vp_in p0 320 ∧ (vp_in p0 320 ∧ (S_M_takeOut g x (4 : Int32) p0 ∧ (bnd (M_M_takeOut g x (4 : Int32) p0) (fun u_25 => ((g.2.2.1 = (1 : Int32) → S_M_leaveSecond_39 g p0 (mu (0 : Int32) g.2.1 + 1) (x.2.1.2.1 p0.toNatClampNeg) (x.2.1.2.2.1 p0.toNatClampNeg) (x.2.1.2.2.2.1 p0.toNatClampNeg) (0 : Int32) u_25) ∧ (¬ g.2.2.1 = (1 : Int32) → S_M_leaveSecond_114 g p0 (x.2.1.2.1 p0.toNatClampNeg) (x.2.1.2.2.1 p0.toNatClampNeg) (x.2.1.2.2.2.1 p0.toNatClampNeg) u_25))))))))
theorem S_M_leaveSecond_eq (g : GM) (x : Ms) (p0 : Int32) : S_M_leaveSecond g x p0 = (vp_in p0 320 ∧ (vp_in p0 320 ∧ (vp_in p0 320 ∧ (S_M_takeOut g x (4 : Int32) p0 ∧ (bnd (M_M_takeOut g x (4 : Int32) p0) (fun u_25 => ((g.2.2.1 = (1 : Int32) → S_M_leaveSecond_39 g p0 (mu (0 : Int32) g.2.1 + 1) (x.2.1.2.1 p0.toNatClampNeg) (x.2.1.2.2.1 p0.toNatClampNeg) (x.2.1.2.2.2.1 p0.toNatClampNeg) (0 : Int32) u_25) ∧ (¬ g.2.2.1 = (1 : Int32) → S_M_leaveSecond_114 g p0 (x.2.1.2.1 p0.toNatClampNeg) (x.2.1.2.2.1 p0.toNatClampNeg) (x.2.1.2.2.2.1 p0.toNatClampNeg) u_25)))))))) := rfl
abbrev w_M_leaveSecond : List Cond := .code y_M_leaveSecond b_M_leaveSecond 7 none :: tbW
abbrev rm_M_leaveSecond : Room := { frames := 3, cells := 0, slots := 0, locals := 66 }
set_option maxHeartbeats 4000000 in
set_option maxRecDepth 100000 in
theorem c_M_leaveSecond (l : Launch) (D : va_G) (cI cZ : ClassId) (g : GM) (hg : okM g) (x : Ms) (p0 : Int32) (hs : S_M_leaveSecond g x p0) : Met l y_M_leaveSecond w_M_leaveSecond rm_M_leaveSecond (PcW D vwCl (tyK cI cZ) [.ref g.1.1, .int p0] (wM cI cZ g x)) (va_Qv (fun (u : Ms) => u = M_M_leaveSecond g x p0) (fun (u : Ms) (t : State) => va_P D vwCl (wM cI cZ g u) t.heap) (Aw (wM cI cZ g x))) 0 0 (Aw (wM cI cZ g x)) := by
  refine Met.ofW (cc := b_M_leaveSecond) (maxL := 7) (ret := none) (by decide) rfl ?_
  intro p e s m args below meth c s₁ B hml hv
  obtain ⟨rfl, hP, hK, hD0⟩ := hv
  have hx := B.exec
  have hb := B.bytes
  have hr := B.returns
  have htb : ∀ w ∈ tbW, w.before _ s = true := fun w h => atoms_spec (ws := w_M_leaveSecond) B.pre w (List.mem_cons_of_mem _ h)
  have hown : s.vm.findClass R_M = some m.cls := findClass_of_methodNamed B.named
  have hlocks := B.notSynchronized
  have hD : va_D (Aw (wM cI cZ g x)) (wM cI cZ g x) := ⟨hD0.1, fun k q hk => ⟨k, q.2, hk⟩⟩
  have hS : va_S (Aw (wM cI cZ g x)) s.heap s.heap [] := va_S.rf
  have cut_114 : ∀ (v2 v3 v4 : Int32) (z : Ms) (H : Heap) (locs : List Loc) (ls : Array Slot), M_M_leaveSecond g x p0 = L_M_leaveSecond_114 g p0 v2 v3 v4 z → S_M_leaveSecond_114 g p0 v2 v3 v4 z → va_P D vwCl (wM cI cZ g z) H → va_D (Aw (wM cI cZ g x)) (wM cI cZ g z) → va_S (Aw (wM cI cZ g x)) s.heap H locs → lv_has ls 7 [(0, .ref g.1.1), (1, .int p0), (2, .int v2), (3, .int v3), (4, .int v4)] → W p l e (headSpec w_M_leaveSecond rm_M_leaveSecond).room s m ([.ref g.1.1, .int p0] : List Value).toArray below meth c H locs 0 0 (MQ below (va_Qv (fun (u : Ms) => u = M_M_leaveSecond g x p0) (fun (u : Ms) (t : State) => va_P D vwCl (wM cI cZ g u) t.heap) (Aw (wM cI cZ g x))) ([.ref g.1.1, .int p0] : List Value).toArray s 0 0 (Aw (wM cI cZ g x))) (F0 m 114 ls []) := by
    intro v2 v3 v4 z H locs ls hF hs hP hD hS hl
    have hF := hF.trans (L_M_leaveSecond_114_eq g p0 v2 v3 v4 z)
    have hs := Eq.mp (S_M_leaveSecond_114_eq g p0 v2 v3 v4 z) hs
    refine lv_iload_n hx hb d_M_leaveSecond_114 rfl (lv_at hl 3 rfl) ?_
    refine lv_if_eq (tgt := 125) hx hb d_M_leaveSecond_115 (by decide) (fun c_115 => ?_) (fun c_115 => ?_)
    · have hF := hF.trans (if_pos c_115)
      have hs := hs.1 c_115
      exact W.vret hx hb hr (fun t ht hW => ⟨⟨z, rfl, hF.symm, by dsimp only; rw [ht]; exact hP⟩, hS.F ht⟩) hS.2.2 d_M_leaveSecond_125
    · have hF := hF.trans (if_neg c_115)
      have hs := hs.2 c_115
      refine lv_aload_n hx hb d_M_leaveSecond_118 rfl (lv_at hl 0 rfl) ?_
      refine lv_iload_n hx hb d_M_leaveSecond_119 rfl (lv_at hl 2 rfl) ?_
      refine lv_iload hx hb d_M_leaveSecond_120 (lv_at hl 4 rfl) ?_
      refine cwv_ (As := [.int v2, .int v4]) (rest := []) (wldC := fun u => (wM cI cZ g u)) ⟨hx, hb, hml, hown, htb⟩ (c_M_toMemory l D cI cZ g hg z v2 v4 hs.1) (cwv (n := 2) htb cd_M_toMemory k_M_101 in_M_toMemory se_M_toMemory ini_M hd_M_toMemory ⟨Nat.le_of_ble_eq_true rfl, Nat.le_of_ble_eq_true rfl⟩) hK hP hD hS [0, 1, 2, 3, 4, 5, 6, 7, 8, 9, 10] [] [0, 1, 2, 3, 4, 5, 6, 7, 8, 9, 10] rfl rfl (by decide) (by decide) rfl (fun _ => rfl) (fun _ => rfl) (ci := 3) rfl rfl rfl hl.1 rfl (Nat.le_of_ble_eq_true rfl) d_M_leaveSecond_122 ⟨Nat.zero_le _, Nat.zero_le _⟩ (fun u_122 H locs hw_122 hP hD hS => ?_)
      have hP : va_P D vwCl (wM cI cZ g u_122) H := hP
      have hD : va_D _ (wM cI cZ g u_122) := hD
      have hF := hF.trans (bnd_eq hw_122)
      have hs := Eq.mp (bnd_eq hw_122) hs.2
      exact W.vret hx hb hr (fun t ht hW => ⟨⟨u_122, rfl, hF.symm, by dsimp only; rw [ht]; exact hP⟩, hS.F ht⟩) hS.2.2 d_M_leaveSecond_125
  have cut_39 : ∀ (n : Nat) (v2 v3 v4 v5 : Int32) (z : Ms) (H : Heap) (locs : List Loc) (ls : Array Slot), mu v5 g.2.1 < n → M_M_leaveSecond g x p0 = L_M_leaveSecond_39 g p0 n v2 v3 v4 v5 z → S_M_leaveSecond_39 g p0 n v2 v3 v4 v5 z → va_P D vwCl (wM cI cZ g z) H → va_D (Aw (wM cI cZ g x)) (wM cI cZ g z) → va_S (Aw (wM cI cZ g x)) s.heap H locs → lv_has ls 7 [(0, .ref g.1.1), (1, .int p0), (2, .int v2), (3, .int v3), (4, .int v4), (5, .int v5)] → W p l e (headSpec w_M_leaveSecond rm_M_leaveSecond).room s m ([.ref g.1.1, .int p0] : List Value).toArray below meth c H locs 0 0 (MQ below (va_Qv (fun (u : Ms) => u = M_M_leaveSecond g x p0) (fun (u : Ms) (t : State) => va_P D vwCl (wM cI cZ g u) t.heap) (Aw (wM cI cZ g x))) ([.ref g.1.1, .int p0] : List Value).toArray s 0 0 (Aw (wM cI cZ g x))) (F0 m 39 ls []) := by
    intro n
    induction n with
    | zero => intro v2 v3 v4 v5 z H locs ls hm _ _ _ _ _ _; exact absurd hm (Nat.not_lt_zero _)
    | succ n ih =>
      intro v2 v3 v4 v5 z H locs ls hm hF hs hP hD hS hl
      have hF := hF.trans (L_M_leaveSecond_39_eq g p0 n v2 v3 v4 v5 z)
      have hs := Eq.mp (S_M_leaveSecond_39_eq g p0 n v2 v3 v4 v5 z) hs
      refine lv_iload hx hb d_M_leaveSecond_39 (lv_at hl 5 rfl) ?_
      refine lv_aload_n hx hb d_M_leaveSecond_41 rfl (lv_at hl 0 rfl) ?_
      refine va_get (D := D) (ci := 3) (v := .int g.2.1) (C := R_M) (T := T_M) (N := 20) hx hb htb i_M hown hK hP 0 rfl rfl 1 (by decide) (htb _ k_M_45) (fun _ h9 => h9) rfl d_M_leaveSecond_42 ?_
      refine lv_icmp_ge (tgt := 114) hx hb d_M_leaveSecond_45 (by decide) (fun c_45 => ?_) (fun c_45 => ?_)
      · have hF := hF.trans (if_pos c_45)
        have hs := hs.1 c_45
        have hl := lv_sub (l' := [(0, .ref g.1.1), (1, .int p0), (2, .int v2), (3, .int v3), (4, .int v4)]) hl [0, 1, 2, 3, 4] rfl
        exact cut_114 v2 v3 v4 z _ _ _ hF hs hP hD hS hl
      · have hF := hF.trans (if_neg c_45)
        have hs := hs.2 c_45
        refine lv_aload_n hx hb d_M_leaveSecond_48 rfl (lv_at hl 0 rfl) ?_
        refine lv_iload hx hb d_M_leaveSecond_49 (lv_at hl 5 rfl) ?_
        refine lv_iload_n hx hb d_M_leaveSecond_51 rfl (lv_at hl 2 rfl) ?_
        refine cpi (As := [.int v5, .int v2]) (rest := []) ⟨hx, hb, hml, hown, htb⟩ (c_M_at l D cI cZ g hg z v5 v2 hs.1) (cwv (n := 2) htb cd_M_at k_M_98 in_M_at se_M_at ini_M hd_M_at ⟨Nat.le_of_ble_eq_true rfl, Nat.le_of_ble_eq_true rfl⟩) hK hP [0, 1, 2, 3, 4, 5, 6, 7, 8, 9, 10] rfl (ci := 3) rfl rfl rfl hl.1 rfl (Nat.le_of_ble_eq_true rfl) d_M_leaveSecond_52 ⟨Nat.zero_le _, Nat.zero_le _⟩ (fun r_52 hw_52 => ?_)
        have hF := hF.trans (bnd_eq hw_52)
        have hs := Eq.mp (bnd_eq hw_52) hs.2
        refine lv_istore (lv' := [(6, .int r_52), (0, .ref g.1.1), (1, .int p0), (2, .int v2), (3, .int v3), (4, .int v4), (5, .int v5)]) hx hb d_M_leaveSecond_55 hl (by decide) rfl (fun ls hl => ?_)
        refine lv_iload hx hb d_M_leaveSecond_57 (lv_at hl 0 rfl) ?_
        refine lv_if_lt (tgt := 108) hx hb d_M_leaveSecond_59 (by decide) (fun c_59 => ?_) (fun c_59 => ?_)
        · have hF := hF.trans (if_pos c_59)
          have hs := hs.1 c_59
          refine lv_iinc (v := (v5 + 1)) (lv' := [(5, .int (v5 + 1)), (6, .int r_52), (0, .ref g.1.1), (1, .int p0), (2, .int v2), (3, .int v3), (4, .int v4)]) hx hb d_M_leaveSecond_108 hl (k := 6) rfl rfl (by decide) rfl (fun ls hl => ?_)
          refine lv_goto (tgt := 39) hx hb d_M_leaveSecond_111 (by decide) ?_
          have hl := lv_sub (l' := [(0, .ref g.1.1), (1, .int p0), (2, .int v2), (3, .int v3), (4, .int v4), (5, .int (v5 + 1))]) hl [2, 3, 4, 5, 6, 0] rfl
          exact ih v2 v3 v4 (v5 + 1) z _ _ _ (Nat.lt_of_lt_of_le hs.1 (Nat.le_of_lt_succ hm)) hF hs.2 hP hD hS hl
        · have hF := hF.trans (if_neg c_59)
          have hs := hs.2 c_59
          refine lv_aload_n hx hb d_M_leaveSecond_62 rfl (lv_at hl 1 rfl) ?_
          refine va_get (D := D) (ci := 3) (v := .ref g.1.2.2.2.2.2.2.2.2.2.2) (C := R_M) (T := T_M) (N := 20) hx hb htb i_M hown hK hP 0 rfl rfl 17 (by decide) (htb _ k_M_42) (fun _ h9 => h9) rfl d_M_leaveSecond_63 ?_
          refine lv_bipush (v := 7) hx hb d_M_leaveSecond_66 (by decide) ?_
          refine lv_iload hx hb d_M_leaveSecond_68 (lv_at hl 6 rfl) ?_
          refine lv_imul hx hb d_M_leaveSecond_70 ?_
          refine lv_bipush (v := 6) hx hb d_M_leaveSecond_71 (by decide) ?_
          refine lv_iadd hx hb d_M_leaveSecond_73 ?_
          refine lv_dup2_11 hx hb d_M_leaveSecond_74 rfl rfl ?_
          refine va_iald hx hb hK hP 10 0 rfl rfl hs.1 d_M_leaveSecond_75 ?_
          have hs := hs.2
          refine lv_iconst (v := 1) hx hb d_M_leaveSecond_76 (by decide) ?_
          refine lv_iadd hx hb d_M_leaveSecond_77 ?_
          refine va_iast hx hb hK hP hD hS 10 0 rfl rfl hs.1 d_M_leaveSecond_78 (fun H locs hP hD hS => ?_)
          have hs := hs.2
          have hP : va_P D vwCl (wM cI cZ g (z.1, z.2.1, z.2.2.1, z.2.2.2.1, (upd z.2.2.2.2 (((7 : Int32) * v5) + (6 : Int32)).toNatClampNeg ((z.2.2.2.2 (((7 : Int32) * v5) + (6 : Int32)).toNatClampNeg) + (1 : Int32))))) H := hP
          have hD : va_D _ (wM cI cZ g (z.1, z.2.1, z.2.2.1, z.2.2.2.1, (upd z.2.2.2.2 (((7 : Int32) * v5) + (6 : Int32)).toNatClampNeg ((z.2.2.2.2 (((7 : Int32) * v5) + (6 : Int32)).toNatClampNeg) + (1 : Int32))))) := hD
          refine lv_aload_n hx hb d_M_leaveSecond_79 rfl (lv_at hl 1 rfl) ?_
          refine va_get (D := D) (ci := 3) (v := .ref g.1.2.2.2.1) (C := R_M) (T := T_M) (N := 20) hx hb htb i_M hown hK hP 0 rfl rfl 7 (by decide) (htb _ k_M_16) (fun _ h9 => h9) rfl d_M_leaveSecond_80 ?_
          refine lv_iload hx hb d_M_leaveSecond_83 (lv_at hl 0 rfl) ?_
          refine va_zald hx hb hK hP 3 1 rfl rfl hs.1 d_M_leaveSecond_85 ?_
          have hs := hs.2
          refine lv_if_eq (tgt := 100) hx hb d_M_leaveSecond_86 (by decide) (fun c_86 => ?_) (fun c_86 => ?_)
          · have hF := hF.trans (if_pos c_86)
            have hs := hs.1 c_86
            refine lv_aload_n hx hb d_M_leaveSecond_100 rfl (lv_at hl 1 rfl) ?_
            refine lv_iload hx hb d_M_leaveSecond_101 (lv_at hl 6 rfl) ?_
            refine lv_iload hx hb d_M_leaveSecond_103 (lv_at hl 0 rfl) ?_
            refine cwv_ (As := [.int v5, .int r_52]) (rest := []) (wldC := fun u => (wM cI cZ g u)) ⟨hx, hb, hml, hown, htb⟩ (c_M_takeOut l D cI cZ g hg (z.1, z.2.1, z.2.2.1, z.2.2.2.1, (upd z.2.2.2.2 (((7 : Int32) * v5) + (6 : Int32)).toNatClampNeg ((z.2.2.2.2 (((7 : Int32) * v5) + (6 : Int32)).toNatClampNeg) + (1 : Int32)))) v5 r_52 hs.1) (cwv (n := 2) htb cd_M_takeOut k_M_82 in_M_takeOut se_M_takeOut ini_M hd_M_takeOut ⟨Nat.le_of_ble_eq_true rfl, Nat.le_of_ble_eq_true rfl⟩) hK hP hD hS [0, 1, 2, 3, 4, 5, 6, 7, 8, 9, 10] [] [0, 1, 2, 3, 4, 5, 6, 7, 8, 9, 10] rfl rfl (by decide) (by decide) rfl (fun _ => rfl) (fun _ => rfl) (ci := 3) rfl rfl rfl hl.1 rfl (Nat.le_of_ble_eq_true rfl) d_M_leaveSecond_105 ⟨Nat.zero_le _, Nat.zero_le _⟩ (fun u_105 H locs hw_105 hP hD hS => ?_)
            have hP : va_P D vwCl (wM cI cZ g u_105) H := hP
            have hD : va_D _ (wM cI cZ g u_105) := hD
            have hF := hF.trans (bnd_eq hw_105)
            have hs := Eq.mp (bnd_eq hw_105) hs.2
            refine lv_iinc (v := (v5 + 1)) (lv' := [(5, .int (v5 + 1)), (6, .int r_52), (0, .ref g.1.1), (1, .int p0), (2, .int v2), (3, .int v3), (4, .int v4)]) hx hb d_M_leaveSecond_108 hl (k := 6) rfl rfl (by decide) rfl (fun ls hl => ?_)
            refine lv_goto (tgt := 39) hx hb d_M_leaveSecond_111 (by decide) ?_
            have hl := lv_sub (l' := [(0, .ref g.1.1), (1, .int p0), (2, .int v2), (3, .int v3), (4, .int v4), (5, .int (v5 + 1))]) hl [2, 3, 4, 5, 6, 0] rfl
            exact ih v2 v3 v4 (v5 + 1) u_105 _ _ _ (Nat.lt_of_lt_of_le hs.1 (Nat.le_of_lt_succ hm)) hF hs.2 hP hD hS hl
          · have hF := hF.trans (if_neg c_86)
            have hs := hs.2 c_86
            refine lv_iconst (v := 1) hx hb d_M_leaveSecond_89 (by decide) ?_
            refine lv_istore_n (lv' := [(3, .int (1 : Int32)), (6, .int r_52), (0, .ref g.1.1), (1, .int p0), (2, .int v2), (4, .int v4), (5, .int v5)]) hx hb d_M_leaveSecond_90 rfl hl (by decide) rfl (fun ls hl => ?_)
            refine lv_aload_n hx hb d_M_leaveSecond_91 rfl (lv_at hl 2 rfl) ?_
            refine va_get (D := D) (ci := 3) (v := .ref g.1.2.2.2.2.1) (C := R_M) (T := T_M) (N := 20) hx hb htb i_M hown hK hP 0 rfl rfl 8 (by decide) (htb _ k_M_20) (fun _ h9 => h9) rfl d_M_leaveSecond_92 ?_
            refine lv_iload hx hb d_M_leaveSecond_95 (lv_at hl 1 rfl) ?_
            refine va_iald hx hb hK hP 4 0 rfl rfl hs.1 d_M_leaveSecond_97 ?_
            have hs := hs.2
            refine lv_istore (lv' := [(4, .int (z.2.1.2.2.2.1 r_52.toNatClampNeg)), (3, .int (1 : Int32)), (6, .int r_52), (0, .ref g.1.1), (1, .int p0), (2, .int v2), (5, .int v5)]) hx hb d_M_leaveSecond_98 hl (by decide) rfl (fun ls hl => ?_)
            refine lv_aload_n hx hb d_M_leaveSecond_100 rfl (lv_at hl 3 rfl) ?_
            refine lv_iload hx hb d_M_leaveSecond_101 (lv_at hl 6 rfl) ?_
            refine lv_iload hx hb d_M_leaveSecond_103 (lv_at hl 2 rfl) ?_
            refine cwv_ (As := [.int v5, .int r_52]) (rest := []) (wldC := fun u => (wM cI cZ g u)) ⟨hx, hb, hml, hown, htb⟩ (c_M_takeOut l D cI cZ g hg (z.1, z.2.1, z.2.2.1, z.2.2.2.1, (upd z.2.2.2.2 (((7 : Int32) * v5) + (6 : Int32)).toNatClampNeg ((z.2.2.2.2 (((7 : Int32) * v5) + (6 : Int32)).toNatClampNeg) + (1 : Int32)))) v5 r_52 hs.1) (cwv (n := 2) htb cd_M_takeOut k_M_82 in_M_takeOut se_M_takeOut ini_M hd_M_takeOut ⟨Nat.le_of_ble_eq_true rfl, Nat.le_of_ble_eq_true rfl⟩) hK hP hD hS [0, 1, 2, 3, 4, 5, 6, 7, 8, 9, 10] [] [0, 1, 2, 3, 4, 5, 6, 7, 8, 9, 10] rfl rfl (by decide) (by decide) rfl (fun _ => rfl) (fun _ => rfl) (ci := 3) rfl rfl rfl hl.1 rfl (Nat.le_of_ble_eq_true rfl) d_M_leaveSecond_105 ⟨Nat.zero_le _, Nat.zero_le _⟩ (fun u_105 H locs hw_105 hP hD hS => ?_)
            have hP : va_P D vwCl (wM cI cZ g u_105) H := hP
            have hD : va_D _ (wM cI cZ g u_105) := hD
            have hF := hF.trans (bnd_eq hw_105)
            have hs := Eq.mp (bnd_eq hw_105) hs.2
            refine lv_iinc (v := (v5 + 1)) (lv' := [(5, .int (v5 + 1)), (4, .int (z.2.1.2.2.2.1 r_52.toNatClampNeg)), (3, .int (1 : Int32)), (6, .int r_52), (0, .ref g.1.1), (1, .int p0), (2, .int v2)]) hx hb d_M_leaveSecond_108 hl (k := 6) rfl rfl (by decide) rfl (fun ls hl => ?_)
            refine lv_goto (tgt := 39) hx hb d_M_leaveSecond_111 (by decide) ?_
            have hl := lv_sub (l' := [(0, .ref g.1.1), (1, .int p0), (2, .int v2), (3, .int (1 : Int32)), (4, .int (z.2.1.2.2.2.1 r_52.toNatClampNeg)), (5, .int (v5 + 1))]) hl [4, 5, 6, 2, 1, 0] rfl
            exact ih v2 (1 : Int32) (z.2.1.2.2.2.1 r_52.toNatClampNeg) (v5 + 1) u_105 _ _ _ (Nat.lt_of_lt_of_le hs.1 (Nat.le_of_lt_succ hm)) hF hs.2 hP hD hS hl
  have hl := lv_entry ([.ref g.1.1, .int p0]) (n := 7) (Nat.le_of_ble_eq_true rfl)
  rw [lg_entry_eq]
  generalize (lg_sl ([.ref g.1.1, .int p0]) ++ List.replicate (7 - (lg_sl ([.ref g.1.1, .int p0])).length) Slot.unset).toArray = ls at hl ⊢
  have hl : lv_has ls 7 [(0, .ref g.1.1), (1, .int p0)] := hl
  have hF := M_M_leaveSecond_eq g x p0
  have hs := Eq.mp (S_M_leaveSecond_eq g x p0) hs
  refine lv_aload_n hx hb d_M_leaveSecond_0 rfl (lv_at hl 0 rfl) ?_
  refine va_get (D := D) (ci := 3) (v := .ref g.1.2.2.1) (C := R_M) (T := T_M) (N := 20) hx hb htb i_M hown hK hP 0 rfl rfl 6 (by decide) (htb _ k_M_13) (fun _ h9 => h9) rfl d_M_leaveSecond_1 ?_
  refine lv_iload_n hx hb d_M_leaveSecond_4 rfl (lv_at hl 1 rfl) ?_
  refine va_iald hx hb hK hP 2 0 rfl rfl hs.1 d_M_leaveSecond_5 ?_
  have hs := hs.2
  refine lv_istore_n (lv' := [(2, .int (x.2.1.2.1 p0.toNatClampNeg)), (0, .ref g.1.1), (1, .int p0)]) hx hb d_M_leaveSecond_6 rfl hl (by decide) rfl (fun ls hl => ?_)
  refine lv_aload_n hx hb d_M_leaveSecond_7 rfl (lv_at hl 1 rfl) ?_
  refine va_get (D := D) (ci := 3) (v := .ref g.1.2.2.2.1) (C := R_M) (T := T_M) (N := 20) hx hb htb i_M hown hK hP 0 rfl rfl 7 (by decide) (htb _ k_M_16) (fun _ h9 => h9) rfl d_M_leaveSecond_8 ?_
  refine lv_iload_n hx hb d_M_leaveSecond_11 rfl (lv_at hl 2 rfl) ?_
  refine va_zald hx hb hK hP 3 1 rfl rfl hs.1 d_M_leaveSecond_12 ?_
  have hs := hs.2
  refine lv_istore_n (lv' := [(3, .int (x.2.1.2.2.1 p0.toNatClampNeg)), (2, .int (x.2.1.2.1 p0.toNatClampNeg)), (0, .ref g.1.1), (1, .int p0)]) hx hb d_M_leaveSecond_13 rfl hl (by decide) rfl (fun ls hl => ?_)
  refine lv_aload_n hx hb d_M_leaveSecond_14 rfl (lv_at hl 2 rfl) ?_
  refine va_get (D := D) (ci := 3) (v := .ref g.1.2.2.2.2.1) (C := R_M) (T := T_M) (N := 20) hx hb htb i_M hown hK hP 0 rfl rfl 8 (by decide) (htb _ k_M_20) (fun _ h9 => h9) rfl d_M_leaveSecond_15 ?_
  refine lv_iload_n hx hb d_M_leaveSecond_18 rfl (lv_at hl 3 rfl) ?_
  refine va_iald hx hb hK hP 4 0 rfl rfl hs.1 d_M_leaveSecond_19 ?_
  have hs := hs.2
  refine lv_istore (lv' := [(4, .int (x.2.1.2.2.2.1 p0.toNatClampNeg)), (3, .int (x.2.1.2.2.1 p0.toNatClampNeg)), (2, .int (x.2.1.2.1 p0.toNatClampNeg)), (0, .ref g.1.1), (1, .int p0)]) hx hb d_M_leaveSecond_20 hl (by decide) rfl (fun ls hl => ?_)
  refine lv_aload_n hx hb d_M_leaveSecond_22 rfl (lv_at hl 3 rfl) ?_
  refine lv_iconst (v := 4) hx hb d_M_leaveSecond_23 (by decide) ?_
  refine lv_iload_n hx hb d_M_leaveSecond_24 rfl (lv_at hl 4 rfl) ?_
  refine cwv_ (As := [.int (4 : Int32), .int p0]) (rest := []) (wldC := fun u => (wM cI cZ g u)) ⟨hx, hb, hml, hown, htb⟩ (c_M_takeOut l D cI cZ g hg x (4 : Int32) p0 hs.1) (cwv (n := 2) htb cd_M_takeOut k_M_82 in_M_takeOut se_M_takeOut ini_M hd_M_takeOut ⟨Nat.le_of_ble_eq_true rfl, Nat.le_of_ble_eq_true rfl⟩) hK hP hD hS [0, 1, 2, 3, 4, 5, 6, 7, 8, 9, 10] [] [0, 1, 2, 3, 4, 5, 6, 7, 8, 9, 10] rfl rfl (by decide) (by decide) rfl (fun _ => rfl) (fun _ => rfl) (ci := 3) rfl rfl rfl hl.1 rfl (Nat.le_of_ble_eq_true rfl) d_M_leaveSecond_25 ⟨Nat.zero_le _, Nat.zero_le _⟩ (fun u_25 H locs hw_25 hP hD hS => ?_)
  have hP : va_P D vwCl (wM cI cZ g u_25) H := hP
  have hD : va_D _ (wM cI cZ g u_25) := hD
  have hF := hF.trans (bnd_eq hw_25)
  have hs := Eq.mp (bnd_eq hw_25) hs.2
  refine lv_aload_n hx hb d_M_leaveSecond_28 rfl (lv_at hl 3 rfl) ?_
  refine va_get (D := D) (ci := 3) (v := .int g.2.2.1) (C := R_M) (T := T_M) (N := 20) hx hb htb i_M hown hK hP 0 rfl rfl 2 (by decide) (htb _ k_M_52) (fun _ h9 => h9) rfl d_M_leaveSecond_29 ?_
  refine lv_iconst (v := 1) hx hb d_M_leaveSecond_32 (by decide) ?_
  refine lv_icmp_ne (tgt := 114) hx hb d_M_leaveSecond_33 (by decide) (fun c_33 => ?_) (fun c_33 => ?_)
  · have hF := hF.trans (if_neg c_33)
    have hs := hs.2 c_33
    have hl := lv_sub (l' := [(0, .ref g.1.1), (1, .int p0), (2, .int (x.2.1.2.1 p0.toNatClampNeg)), (3, .int (x.2.1.2.2.1 p0.toNatClampNeg)), (4, .int (x.2.1.2.2.2.1 p0.toNatClampNeg))]) hl [3, 4, 2, 1, 0] rfl
    exact cut_114 (x.2.1.2.1 p0.toNatClampNeg) (x.2.1.2.2.1 p0.toNatClampNeg) (x.2.1.2.2.2.1 p0.toNatClampNeg) u_25 _ _ _ hF hs hP hD hS hl
  · have hF := hF.trans (if_pos c_33)
    have hs := hs.1 c_33
    refine lv_iconst (v := 0) hx hb d_M_leaveSecond_36 (by decide) ?_
    refine lv_istore (lv' := [(5, .int (0 : Int32)), (4, .int (x.2.1.2.2.2.1 p0.toNatClampNeg)), (3, .int (x.2.1.2.2.1 p0.toNatClampNeg)), (2, .int (x.2.1.2.1 p0.toNatClampNeg)), (0, .ref g.1.1), (1, .int p0)]) hx hb d_M_leaveSecond_37 hl (by decide) rfl (fun ls hl => ?_)
    have hl := lv_sub (l' := [(0, .ref g.1.1), (1, .int p0), (2, .int (x.2.1.2.1 p0.toNatClampNeg)), (3, .int (x.2.1.2.2.1 p0.toNatClampNeg)), (4, .int (x.2.1.2.2.2.1 p0.toNatClampNeg)), (5, .int (0 : Int32))]) hl [4, 5, 3, 2, 1, 0] rfl
    exact cut_39 (mu (0 : Int32) g.2.1 + 1) (x.2.1.2.1 p0.toNatClampNeg) (x.2.1.2.2.1 p0.toNatClampNeg) (x.2.1.2.2.2.1 p0.toNatClampNeg) (0 : Int32) u_25 _ _ _ (Nat.lt_succ_self _) hF hs hP hD hS hl

def L_M_comeToSecond_72 (g : GM) (p0 p1 p2 p3 : Int32) (z : Ms) : Ms := (bnd (M_M_putFirst g z (4 : Int32) p1 p2 p3 p0) (fun u_79 => u_79))
theorem L_M_comeToSecond_72_eq (g : GM) (p0 p1 p2 p3 : Int32) (z : Ms) : L_M_comeToSecond_72 g p0 p1 p2 p3 z = (bnd (M_M_putFirst g z (4 : Int32) p1 p2 p3 p0) (fun u_79 => u_79)) := rfl
def S_M_comeToSecond_72 (g : GM) (p0 p1 p2 p3 : Int32) (z : Ms) : Prop := (S_M_putFirst g z (4 : Int32) p1 p2 p3 p0 ∧ (bnd (M_M_putFirst g z (4 : Int32) p1 p2 p3 p0) (fun u_79 => True)))
theorem S_M_comeToSecond_72_eq (g : GM) (p0 p1 p2 p3 : Int32) (z : Ms) : S_M_comeToSecond_72 g p0 p1 p2 p3 z = (S_M_putFirst g z (4 : Int32) p1 p2 p3 p0 ∧ (bnd (M_M_putFirst g z (4 : Int32) p1 p2 p3 p0) (fun u_79 => True))) := rfl
def L_M_comeToSecond_61 (g : GM) (p0 p1 p2 p3 : Int32) (v5 v6 : Int32) (z : Ms) : Ms := (if v6 < 0 then L_M_comeToSecond_72 g p0 p1 p2 p3 z else (bnd (M_M_leaveSecond g z v6) (fun u_69 => L_M_comeToSecond_72 g p0 p1 p2 p3 u_69)))
theorem L_M_comeToSecond_61_eq (g : GM) (p0 p1 p2 p3 : Int32) (v5 v6 : Int32) (z : Ms) : L_M_comeToSecond_61 g p0 p1 p2 p3 v5 v6 z = (if v6 < 0 then L_M_comeToSecond_72 g p0 p1 p2 p3 z else (bnd (M_M_leaveSecond g z v6) (fun u_69 => L_M_comeToSecond_72 g p0 p1 p2 p3 u_69))) := rfl
def S_M_comeToSecond_61 (g : GM) (p0 p1 p2 p3 : Int32) (v5 v6 : Int32) (z : Ms) : Prop := ((v6 < 0 → S_M_comeToSecond_72 g p0 p1 p2 p3 z) ∧ (¬ v6 < 0 → (S_M_leaveSecond g z v6 ∧ (bnd (M_M_leaveSecond g z v6) (fun u_69 => S_M_comeToSecond_72 g p0 p1 p2 p3 u_69)))))
theorem S_M_comeToSecond_61_eq (g : GM) (p0 p1 p2 p3 : Int32) (v5 v6 : Int32) (z : Ms) : S_M_comeToSecond_61 g p0 p1 p2 p3 v5 v6 z = ((v6 < 0 → S_M_comeToSecond_72 g p0 p1 p2 p3 z) ∧ (¬ v6 < 0 → (S_M_leaveSecond g z v6 ∧ (bnd (M_M_leaveSecond g z v6) (fun u_69 => S_M_comeToSecond_72 g p0 p1 p2 p3 u_69))))) := rfl
def M_M_comeToSecond (g : GM) (x : Ms) (p0 p1 p2 p3 : Int32) : Ms := (if (x.2.2.1 p0.toNatClampNeg) = 0 then (if p2 = 0 then x else (bnd (M_M_toMemory g x p1 p3) (fun u_17 => u_17))) else (bnd (M_M_setOf g x (4 : Int32) p1) (fun r_24 => (bnd (M_M_oldest g x (4 : Int32) r_24 p0 (x.2.2.1 p0.toNatClampNeg)) (fun r_40 => (if 0 ≤ r_40 then L_M_comeToSecond_61 g p0 p1 p2 p3 r_24 r_40 x else (bnd (M_M_oldest g x (4 : Int32) r_24 (-1 : Int32) (4 : Int32)) (fun r_56 => L_M_comeToSecond_61 g p0 p1 p2 p3 r_24 r_56 x))))))))
theorem M_M_comeToSecond_eq (g : GM) (x : Ms) (p0 p1 p2 p3 : Int32) : M_M_comeToSecond g x p0 p1 p2 p3 = (if (x.2.2.1 p0.toNatClampNeg) = 0 then (if p2 = 0 then x else (bnd (M_M_toMemory g x p1 p3) (fun u_17 => u_17))) else (bnd (M_M_setOf g x (4 : Int32) p1) (fun r_24 => (bnd (M_M_oldest g x (4 : Int32) r_24 p0 (x.2.2.1 p0.toNatClampNeg)) (fun r_40 => (if 0 ≤ r_40 then L_M_comeToSecond_61 g p0 p1 p2 p3 r_24 r_40 x else (bnd (M_M_oldest g x (4 : Int32) r_24 (-1 : Int32) (4 : Int32)) (fun r_56 => L_M_comeToSecond_61 g p0 p1 p2 p3 r_24 r_56 x)))))))) := rfl
def S_M_comeToSecond (g : GM) (x : Ms) (p0 p1 p2 p3 : Int32) : Prop := (vp_in p0 4 ∧ (((x.2.2.1 p0.toNatClampNeg) = 0 → ((p2 = 0 → True) ∧ (¬ p2 = 0 → (S_M_toMemory g x p1 p3 ∧ (bnd (M_M_toMemory g x p1 p3) (fun u_17 => True)))))) ∧ (¬ (x.2.2.1 p0.toNatClampNeg) = 0 → (S_M_setOf g x (4 : Int32) p1 ∧ (bnd (M_M_setOf g x (4 : Int32) p1) (fun r_24 => (vp_in p0 4 ∧ (S_M_oldest g x (4 : Int32) r_24 p0 (x.2.2.1 p0.toNatClampNeg) ∧ (bnd (M_M_oldest g x (4 : Int32) r_24 p0 (x.2.2.1 p0.toNatClampNeg)) (fun r_40 => ((0 ≤ r_40 → S_M_comeToSecond_61 g p0 p1 p2 p3 r_24 r_40 x) ∧ (¬ 0 ≤ r_40 → (S_M_oldest g x (4 : Int32) r_24 (-1 : Int32) (4 : Int32) ∧ (bnd (M_M_oldest g x (4 : Int32) r_24 (-1 : Int32) (4 : Int32)) (fun r_56 => S_M_comeToSecond_61 g p0 p1 p2 p3 r_24 r_56 x)))))))))))))))
theorem S_M_comeToSecond_eq (g : GM) (x : Ms) (p0 p1 p2 p3 : Int32) : S_M_comeToSecond g x p0 p1 p2 p3 = (vp_in p0 4 ∧ (((x.2.2.1 p0.toNatClampNeg) = 0 → ((p2 = 0 → True) ∧ (¬ p2 = 0 → (S_M_toMemory g x p1 p3 ∧ (bnd (M_M_toMemory g x p1 p3) (fun u_17 => True)))))) ∧ (¬ (x.2.2.1 p0.toNatClampNeg) = 0 → (S_M_setOf g x (4 : Int32) p1 ∧ (bnd (M_M_setOf g x (4 : Int32) p1) (fun r_24 => (vp_in p0 4 ∧ (S_M_oldest g x (4 : Int32) r_24 p0 (x.2.2.1 p0.toNatClampNeg) ∧ (bnd (M_M_oldest g x (4 : Int32) r_24 p0 (x.2.2.1 p0.toNatClampNeg)) (fun r_40 => ((0 ≤ r_40 → S_M_comeToSecond_61 g p0 p1 p2 p3 r_24 r_40 x) ∧ (¬ 0 ≤ r_40 → (S_M_oldest g x (4 : Int32) r_24 (-1 : Int32) (4 : Int32) ∧ (bnd (M_M_oldest g x (4 : Int32) r_24 (-1 : Int32) (4 : Int32)) (fun r_56 => S_M_comeToSecond_61 g p0 p1 p2 p3 r_24 r_56 x))))))))))))))) := rfl
abbrev w_M_comeToSecond : List Cond := .code y_M_comeToSecond b_M_comeToSecond 7 none :: tbW
abbrev rm_M_comeToSecond : Room := { frames := 4, cells := 0, slots := 0, locals := 92 }
set_option maxHeartbeats 4000000 in
set_option maxRecDepth 100000 in
theorem c_M_comeToSecond (l : Launch) (D : va_G) (cI cZ : ClassId) (g : GM) (hg : okM g) (x : Ms) (p0 p1 p2 p3 : Int32) (hs : S_M_comeToSecond g x p0 p1 p2 p3) : Met l y_M_comeToSecond w_M_comeToSecond rm_M_comeToSecond (PcW D vwCl (tyK cI cZ) [.ref g.1.1, .int p0, .int p1, .int p2, .int p3] (wM cI cZ g x)) (va_Qv (fun (u : Ms) => u = M_M_comeToSecond g x p0 p1 p2 p3) (fun (u : Ms) (t : State) => va_P D vwCl (wM cI cZ g u) t.heap) (Aw (wM cI cZ g x))) 0 0 (Aw (wM cI cZ g x)) := by
  refine Met.ofW (cc := b_M_comeToSecond) (maxL := 7) (ret := none) (by decide) rfl ?_
  intro p e s m args below meth c s₁ B hml hv
  obtain ⟨rfl, hP, hK, hD0⟩ := hv
  have hx := B.exec
  have hb := B.bytes
  have hr := B.returns
  have htb : ∀ w ∈ tbW, w.before _ s = true := fun w h => atoms_spec (ws := w_M_comeToSecond) B.pre w (List.mem_cons_of_mem _ h)
  have hown : s.vm.findClass R_M = some m.cls := findClass_of_methodNamed B.named
  have hlocks := B.notSynchronized
  have hD : va_D (Aw (wM cI cZ g x)) (wM cI cZ g x) := ⟨hD0.1, fun k q hk => ⟨k, q.2, hk⟩⟩
  have hS : va_S (Aw (wM cI cZ g x)) s.heap s.heap [] := va_S.rf
  have cut_72 : ∀ (z : Ms) (H : Heap) (locs : List Loc) (ls : Array Slot), M_M_comeToSecond g x p0 p1 p2 p3 = L_M_comeToSecond_72 g p0 p1 p2 p3 z → S_M_comeToSecond_72 g p0 p1 p2 p3 z → va_P D vwCl (wM cI cZ g z) H → va_D (Aw (wM cI cZ g x)) (wM cI cZ g z) → va_S (Aw (wM cI cZ g x)) s.heap H locs → lv_has ls 7 [(0, .ref g.1.1), (1, .int p0), (2, .int p1), (3, .int p2), (4, .int p3)] → W p l e (headSpec w_M_comeToSecond rm_M_comeToSecond).room s m ([.ref g.1.1, .int p0, .int p1, .int p2, .int p3] : List Value).toArray below meth c H locs 0 0 (MQ below (va_Qv (fun (u : Ms) => u = M_M_comeToSecond g x p0 p1 p2 p3) (fun (u : Ms) (t : State) => va_P D vwCl (wM cI cZ g u) t.heap) (Aw (wM cI cZ g x))) ([.ref g.1.1, .int p0, .int p1, .int p2, .int p3] : List Value).toArray s 0 0 (Aw (wM cI cZ g x))) (F0 m 72 ls []) := by
    intro z H locs ls hF hs hP hD hS hl
    have hF := hF.trans (L_M_comeToSecond_72_eq g p0 p1 p2 p3 z)
    have hs := Eq.mp (S_M_comeToSecond_72_eq g p0 p1 p2 p3 z) hs
    refine lv_aload_n hx hb d_M_comeToSecond_72 rfl (lv_at hl 0 rfl) ?_
    refine lv_iconst (v := 4) hx hb d_M_comeToSecond_73 (by decide) ?_
    refine lv_iload_n hx hb d_M_comeToSecond_74 rfl (lv_at hl 2 rfl) ?_
    refine lv_iload_n hx hb d_M_comeToSecond_75 rfl (lv_at hl 3 rfl) ?_
    refine lv_iload hx hb d_M_comeToSecond_76 (lv_at hl 4 rfl) ?_
    refine lv_iload_n hx hb d_M_comeToSecond_78 rfl (lv_at hl 1 rfl) ?_
    refine cwv_ (As := [.int (4 : Int32), .int p1, .int p2, .int p3, .int p0]) (rest := []) (wldC := fun u => (wM cI cZ g u)) ⟨hx, hb, hml, hown, htb⟩ (c_M_putFirst l D cI cZ g hg z (4 : Int32) p1 p2 p3 p0 hs.1) (cwv (n := 5) htb cd_M_putFirst k_M_85 in_M_putFirst se_M_putFirst ini_M hd_M_putFirst ⟨Nat.le_of_ble_eq_true rfl, Nat.le_of_ble_eq_true rfl⟩) hK hP hD hS [0, 1, 2, 3, 4, 5, 6, 7, 8, 9, 10] [] [0, 1, 2, 3, 4, 5, 6, 7, 8, 9, 10] rfl rfl (by decide) (by decide) rfl (fun _ => rfl) (fun _ => rfl) (ci := 3) rfl rfl rfl hl.1 rfl (Nat.le_of_ble_eq_true rfl) d_M_comeToSecond_79 ⟨Nat.zero_le _, Nat.zero_le _⟩ (fun u_79 H locs hw_79 hP hD hS => ?_)
    have hP : va_P D vwCl (wM cI cZ g u_79) H := hP
    have hD : va_D _ (wM cI cZ g u_79) := hD
    have hF := hF.trans (bnd_eq hw_79)
    have hs := Eq.mp (bnd_eq hw_79) hs.2
    exact W.vret hx hb hr (fun t ht hW => ⟨⟨u_79, rfl, hF.symm, by dsimp only; rw [ht]; exact hP⟩, hS.F ht⟩) hS.2.2 d_M_comeToSecond_82
  have cut_61 : ∀ (v5 v6 : Int32) (z : Ms) (H : Heap) (locs : List Loc) (ls : Array Slot), M_M_comeToSecond g x p0 p1 p2 p3 = L_M_comeToSecond_61 g p0 p1 p2 p3 v5 v6 z → S_M_comeToSecond_61 g p0 p1 p2 p3 v5 v6 z → va_P D vwCl (wM cI cZ g z) H → va_D (Aw (wM cI cZ g x)) (wM cI cZ g z) → va_S (Aw (wM cI cZ g x)) s.heap H locs → lv_has ls 7 [(0, .ref g.1.1), (1, .int p0), (2, .int p1), (3, .int p2), (4, .int p3), (5, .int v5), (6, .int v6)] → W p l e (headSpec w_M_comeToSecond rm_M_comeToSecond).room s m ([.ref g.1.1, .int p0, .int p1, .int p2, .int p3] : List Value).toArray below meth c H locs 0 0 (MQ below (va_Qv (fun (u : Ms) => u = M_M_comeToSecond g x p0 p1 p2 p3) (fun (u : Ms) (t : State) => va_P D vwCl (wM cI cZ g u) t.heap) (Aw (wM cI cZ g x))) ([.ref g.1.1, .int p0, .int p1, .int p2, .int p3] : List Value).toArray s 0 0 (Aw (wM cI cZ g x))) (F0 m 61 ls []) := by
    intro v5 v6 z H locs ls hF hs hP hD hS hl
    have hF := hF.trans (L_M_comeToSecond_61_eq g p0 p1 p2 p3 v5 v6 z)
    have hs := Eq.mp (S_M_comeToSecond_61_eq g p0 p1 p2 p3 v5 v6 z) hs
    refine lv_iload hx hb d_M_comeToSecond_61 (lv_at hl 6 rfl) ?_
    refine lv_if_lt (tgt := 72) hx hb d_M_comeToSecond_63 (by decide) (fun c_63 => ?_) (fun c_63 => ?_)
    · have hF := hF.trans (if_pos c_63)
      have hs := hs.1 c_63
      have hl := lv_sub (l' := [(0, .ref g.1.1), (1, .int p0), (2, .int p1), (3, .int p2), (4, .int p3)]) hl [0, 1, 2, 3, 4] rfl
      exact cut_72 z _ _ _ hF hs hP hD hS hl
    · have hF := hF.trans (if_neg c_63)
      have hs := hs.2 c_63
      refine lv_aload_n hx hb d_M_comeToSecond_66 rfl (lv_at hl 0 rfl) ?_
      refine lv_iload hx hb d_M_comeToSecond_67 (lv_at hl 6 rfl) ?_
      refine cwv_ (As := [.int v6]) (rest := []) (wldC := fun u => (wM cI cZ g u)) ⟨hx, hb, hml, hown, htb⟩ (c_M_leaveSecond l D cI cZ g hg z v6 hs.1) (cwv (n := 1) htb cd_M_leaveSecond k_M_111 in_M_leaveSecond se_M_leaveSecond ini_M hd_M_leaveSecond ⟨Nat.le_of_ble_eq_true rfl, Nat.le_of_ble_eq_true rfl⟩) hK hP hD hS [0, 1, 2, 3, 4, 5, 6, 7, 8, 9, 10] [] [0, 1, 2, 3, 4, 5, 6, 7, 8, 9, 10] rfl rfl (by decide) (by decide) rfl (fun _ => rfl) (fun _ => rfl) (ci := 3) rfl rfl rfl hl.1 rfl (Nat.le_of_ble_eq_true rfl) d_M_comeToSecond_69 ⟨Nat.zero_le _, Nat.zero_le _⟩ (fun u_69 H locs hw_69 hP hD hS => ?_)
      have hP : va_P D vwCl (wM cI cZ g u_69) H := hP
      have hD : va_D _ (wM cI cZ g u_69) := hD
      have hF := hF.trans (bnd_eq hw_69)
      have hs := Eq.mp (bnd_eq hw_69) hs.2
      have hl := lv_sub (l' := [(0, .ref g.1.1), (1, .int p0), (2, .int p1), (3, .int p2), (4, .int p3)]) hl [0, 1, 2, 3, 4] rfl
      exact cut_72 u_69 _ _ _ hF hs hP hD hS hl
  have hl := lv_entry ([.ref g.1.1, .int p0, .int p1, .int p2, .int p3]) (n := 7) (Nat.le_of_ble_eq_true rfl)
  rw [lg_entry_eq]
  generalize (lg_sl ([.ref g.1.1, .int p0, .int p1, .int p2, .int p3]) ++ List.replicate (7 - (lg_sl ([.ref g.1.1, .int p0, .int p1, .int p2, .int p3])).length) Slot.unset).toArray = ls at hl ⊢
  have hl : lv_has ls 7 [(0, .ref g.1.1), (1, .int p0), (2, .int p1), (3, .int p2), (4, .int p3)] := hl
  have hF := M_M_comeToSecond_eq g x p0 p1 p2 p3
  have hs := Eq.mp (S_M_comeToSecond_eq g x p0 p1 p2 p3) hs
  refine lv_aload_n hx hb d_M_comeToSecond_0 rfl (lv_at hl 0 rfl) ?_
  refine va_get (D := D) (ci := 3) (v := .ref g.1.2.2.2.2.2.2.1) (C := R_M) (T := T_M) (N := 20) hx hb htb i_M hown hK hP 0 rfl rfl 10 (by decide) (htb _ k_M_26) (fun _ h9 => h9) rfl d_M_comeToSecond_1 ?_
  refine lv_iload_n hx hb d_M_comeToSecond_4 rfl (lv_at hl 1 rfl) ?_
  refine va_iald hx hb hK hP 6 0 rfl rfl hs.1 d_M_comeToSecond_5 ?_
  have hs := hs.2
  refine lv_if_ne (tgt := 21) hx hb d_M_comeToSecond_6 (by decide) (fun c_6 => ?_) (fun c_6 => ?_)
  · have hF := hF.trans (if_neg c_6)
    have hs := hs.2 c_6
    refine lv_aload_n hx hb d_M_comeToSecond_21 rfl (lv_at hl 0 rfl) ?_
    refine lv_iconst (v := 4) hx hb d_M_comeToSecond_22 (by decide) ?_
    refine lv_iload_n hx hb d_M_comeToSecond_23 rfl (lv_at hl 2 rfl) ?_
    refine cpi (As := [.int (4 : Int32), .int p1]) (rest := []) ⟨hx, hb, hml, hown, htb⟩ (c_M_setOf l D cI cZ g hg x (4 : Int32) p1 hs.1) (cwv (n := 2) htb cd_M_setOf k_M_89 in_M_setOf se_M_setOf ini_M hd_M_setOf ⟨Nat.le_of_ble_eq_true rfl, Nat.le_of_ble_eq_true rfl⟩) hK hP [0, 1, 2, 3, 4, 5, 6, 7, 8, 9, 10] rfl (ci := 3) rfl rfl rfl hl.1 rfl (Nat.le_of_ble_eq_true rfl) d_M_comeToSecond_24 ⟨Nat.zero_le _, Nat.zero_le _⟩ (fun r_24 hw_24 => ?_)
    have hF := hF.trans (bnd_eq hw_24)
    have hs := Eq.mp (bnd_eq hw_24) hs.2
    refine lv_istore (lv' := [(5, .int r_24), (0, .ref g.1.1), (1, .int p0), (2, .int p1), (3, .int p2), (4, .int p3)]) hx hb d_M_comeToSecond_27 hl (by decide) rfl (fun ls hl => ?_)
    refine lv_aload_n hx hb d_M_comeToSecond_29 rfl (lv_at hl 1 rfl) ?_
    refine lv_iconst (v := 4) hx hb d_M_comeToSecond_30 (by decide) ?_
    refine lv_iload hx hb d_M_comeToSecond_31 (lv_at hl 0 rfl) ?_
    refine lv_iload_n hx hb d_M_comeToSecond_33 rfl (lv_at hl 2 rfl) ?_
    refine lv_aload_n hx hb d_M_comeToSecond_34 rfl (lv_at hl 1 rfl) ?_
    refine va_get (D := D) (ci := 3) (v := .ref g.1.2.2.2.2.2.2.1) (C := R_M) (T := T_M) (N := 20) hx hb htb i_M hown hK hP 0 rfl rfl 10 (by decide) (htb _ k_M_26) (fun _ h9 => h9) rfl d_M_comeToSecond_35 ?_
    refine lv_iload_n hx hb d_M_comeToSecond_38 rfl (lv_at hl 2 rfl) ?_
    refine va_iald hx hb hK hP 6 0 rfl rfl hs.1 d_M_comeToSecond_39 ?_
    have hs := hs.2
    refine cpi (As := [.int (4 : Int32), .int r_24, .int p0, .int (x.2.2.1 p0.toNatClampNeg)]) (rest := []) ⟨hx, hb, hml, hown, htb⟩ (c_M_oldest l D cI cZ g hg x (4 : Int32) r_24 p0 (x.2.2.1 p0.toNatClampNeg) hs.1) (cwv (n := 4) htb cd_M_oldest k_M_107 in_M_oldest se_M_oldest ini_M hd_M_oldest ⟨Nat.le_of_ble_eq_true rfl, Nat.le_of_ble_eq_true rfl⟩) hK hP [0, 1, 2, 3, 4, 5, 6, 7, 8, 9, 10] rfl (ci := 3) rfl rfl rfl hl.1 rfl (Nat.le_of_ble_eq_true rfl) d_M_comeToSecond_40 ⟨Nat.zero_le _, Nat.zero_le _⟩ (fun r_40 hw_40 => ?_)
    have hF := hF.trans (bnd_eq hw_40)
    have hs := Eq.mp (bnd_eq hw_40) hs.2
    refine lv_istore (lv' := [(6, .int r_40), (5, .int r_24), (0, .ref g.1.1), (1, .int p0), (2, .int p1), (3, .int p2), (4, .int p3)]) hx hb d_M_comeToSecond_43 hl (by decide) rfl (fun ls hl => ?_)
    refine lv_iload hx hb d_M_comeToSecond_45 (lv_at hl 0 rfl) ?_
    refine lv_if_ge (tgt := 61) hx hb d_M_comeToSecond_47 (by decide) (fun c_47 => ?_) (fun c_47 => ?_)
    · have hF := hF.trans (if_pos c_47)
      have hs := hs.1 c_47
      have hl := lv_sub (l' := [(0, .ref g.1.1), (1, .int p0), (2, .int p1), (3, .int p2), (4, .int p3), (5, .int r_24), (6, .int r_40)]) hl [2, 3, 4, 5, 6, 1, 0] rfl
      exact cut_61 r_24 r_40 x _ _ _ hF hs hP hD hS hl
    · have hF := hF.trans (if_neg c_47)
      have hs := hs.2 c_47
      refine lv_aload_n hx hb d_M_comeToSecond_50 rfl (lv_at hl 2 rfl) ?_
      refine lv_iconst (v := 4) hx hb d_M_comeToSecond_51 (by decide) ?_
      refine lv_iload hx hb d_M_comeToSecond_52 (lv_at hl 1 rfl) ?_
      refine lv_iconst (v := -1) hx hb d_M_comeToSecond_54 (by decide) ?_
      refine lv_iconst (v := 4) hx hb d_M_comeToSecond_55 (by decide) ?_
      refine cpi (As := [.int (4 : Int32), .int r_24, .int (-1 : Int32), .int (4 : Int32)]) (rest := []) ⟨hx, hb, hml, hown, htb⟩ (c_M_oldest l D cI cZ g hg x (4 : Int32) r_24 (-1 : Int32) (4 : Int32) hs.1) (cwv (n := 4) htb cd_M_oldest k_M_107 in_M_oldest se_M_oldest ini_M hd_M_oldest ⟨Nat.le_of_ble_eq_true rfl, Nat.le_of_ble_eq_true rfl⟩) hK hP [0, 1, 2, 3, 4, 5, 6, 7, 8, 9, 10] rfl (ci := 3) rfl rfl rfl hl.1 rfl (Nat.le_of_ble_eq_true rfl) d_M_comeToSecond_56 ⟨Nat.zero_le _, Nat.zero_le _⟩ (fun r_56 hw_56 => ?_)
      have hF := hF.trans (bnd_eq hw_56)
      have hs := Eq.mp (bnd_eq hw_56) hs.2
      refine lv_istore (lv' := [(6, .int r_56), (5, .int r_24), (0, .ref g.1.1), (1, .int p0), (2, .int p1), (3, .int p2), (4, .int p3)]) hx hb d_M_comeToSecond_59 hl (by decide) rfl (fun ls hl => ?_)
      have hl := lv_sub (l' := [(0, .ref g.1.1), (1, .int p0), (2, .int p1), (3, .int p2), (4, .int p3), (5, .int r_24), (6, .int r_56)]) hl [2, 3, 4, 5, 6, 1, 0] rfl
      exact cut_61 r_24 r_56 x _ _ _ hF hs hP hD hS hl
  · have hF := hF.trans (if_pos c_6)
    have hs := hs.1 c_6
    refine lv_iload_n hx hb d_M_comeToSecond_9 rfl (lv_at hl 3 rfl) ?_
    refine lv_if_eq (tgt := 20) hx hb d_M_comeToSecond_10 (by decide) (fun c_10 => ?_) (fun c_10 => ?_)
    · have hF := hF.trans (if_pos c_10)
      have hs := hs.1 c_10
      exact W.vret hx hb hr (fun t ht hW => ⟨⟨x, rfl, hF.symm, by dsimp only; rw [ht]; exact hP⟩, hS.F ht⟩) hS.2.2 d_M_comeToSecond_20
    · have hF := hF.trans (if_neg c_10)
      have hs := hs.2 c_10
      refine lv_aload_n hx hb d_M_comeToSecond_13 rfl (lv_at hl 0 rfl) ?_
      refine lv_iload_n hx hb d_M_comeToSecond_14 rfl (lv_at hl 2 rfl) ?_
      refine lv_iload hx hb d_M_comeToSecond_15 (lv_at hl 4 rfl) ?_
      refine cwv_ (As := [.int p1, .int p3]) (rest := []) (wldC := fun u => (wM cI cZ g u)) ⟨hx, hb, hml, hown, htb⟩ (c_M_toMemory l D cI cZ g hg x p1 p3 hs.1) (cwv (n := 2) htb cd_M_toMemory k_M_101 in_M_toMemory se_M_toMemory ini_M hd_M_toMemory ⟨Nat.le_of_ble_eq_true rfl, Nat.le_of_ble_eq_true rfl⟩) hK hP hD hS [0, 1, 2, 3, 4, 5, 6, 7, 8, 9, 10] [] [0, 1, 2, 3, 4, 5, 6, 7, 8, 9, 10] rfl rfl (by decide) (by decide) rfl (fun _ => rfl) (fun _ => rfl) (ci := 3) rfl rfl rfl hl.1 rfl (Nat.le_of_ble_eq_true rfl) d_M_comeToSecond_17 ⟨Nat.zero_le _, Nat.zero_le _⟩ (fun u_17 H locs hw_17 hP hD hS => ?_)
      have hP : va_P D vwCl (wM cI cZ g u_17) H := hP
      have hD : va_D _ (wM cI cZ g u_17) := hD
      have hF := hF.trans (bnd_eq hw_17)
      have hs := Eq.mp (bnd_eq hw_17) hs.2
      exact W.vret hx hb hr (fun t ht hW => ⟨⟨u_17, rfl, hF.symm, by dsimp only; rw [ht]; exact hP⟩, hS.F ht⟩) hS.2.2 d_M_comeToSecond_20

def L_M_comeToFirst_108 (g : GM) (p0 p1 p2 p3 : Int32) (z : Ms) : Ms := (bnd (M_M_putFirst g z p0 p1 p2 p3 p0) (fun u_115 => u_115))
theorem L_M_comeToFirst_108_eq (g : GM) (p0 p1 p2 p3 : Int32) (z : Ms) : L_M_comeToFirst_108 g p0 p1 p2 p3 z = (bnd (M_M_putFirst g z p0 p1 p2 p3 p0) (fun u_115 => u_115)) := rfl
def S_M_comeToFirst_108 (g : GM) (p0 p1 p2 p3 : Int32) (z : Ms) : Prop := (S_M_putFirst g z p0 p1 p2 p3 p0 ∧ (bnd (M_M_putFirst g z p0 p1 p2 p3 p0) (fun u_115 => True)))
theorem S_M_comeToFirst_108_eq (g : GM) (p0 p1 p2 p3 : Int32) (z : Ms) : S_M_comeToFirst_108 g p0 p1 p2 p3 z = (S_M_putFirst g z p0 p1 p2 p3 p0 ∧ (bnd (M_M_putFirst g z p0 p1 p2 p3 p0) (fun u_115 => True))) := rfl
def L_M_comeToFirst_95 (g : GM) (p0 p1 p2 p3 : Int32) (v6 v7 v8 : Int32) (z : Ms) : Ms := (if v7 = 0 then L_M_comeToFirst_108 g p0 p1 p2 p3 z else (bnd (M_M_goDown g z v6 v8) (fun u_105 => L_M_comeToFirst_108 g p0 p1 p2 p3 u_105)))
theorem L_M_comeToFirst_95_eq (g : GM) (p0 p1 p2 p3 : Int32) (v6 v7 v8 : Int32) (z : Ms) : L_M_comeToFirst_95 g p0 p1 p2 p3 v6 v7 v8 z = (if v7 = 0 then L_M_comeToFirst_108 g p0 p1 p2 p3 z else (bnd (M_M_goDown g z v6 v8) (fun u_105 => L_M_comeToFirst_108 g p0 p1 p2 p3 u_105))) := rfl
def S_M_comeToFirst_95 (g : GM) (p0 p1 p2 p3 : Int32) (v6 v7 v8 : Int32) (z : Ms) : Prop := ((v7 = 0 → S_M_comeToFirst_108 g p0 p1 p2 p3 z) ∧ (¬ v7 = 0 → (S_M_goDown g z v6 v8 ∧ (bnd (M_M_goDown g z v6 v8) (fun u_105 => S_M_comeToFirst_108 g p0 p1 p2 p3 u_105)))))
theorem S_M_comeToFirst_95_eq (g : GM) (p0 p1 p2 p3 : Int32) (v6 v7 v8 : Int32) (z : Ms) : S_M_comeToFirst_95 g p0 p1 p2 p3 v6 v7 v8 z = ((v7 = 0 → S_M_comeToFirst_108 g p0 p1 p2 p3 z) ∧ (¬ v7 = 0 → (S_M_goDown g z v6 v8 ∧ (bnd (M_M_goDown g z v6 v8) (fun u_105 => S_M_comeToFirst_108 g p0 p1 p2 p3 u_105))))) := rfl
def M_M_comeToFirst (g : GM) (x : Ms) (p0 p1 p2 p3 : Int32) : Ms := (bnd (M_M_setOf g x p0 p1) (fun r_5 => (bnd (M_M_oldest g x p0 r_5 (-1 : Int32) (2 : Int32)) (fun r_10 => (if r_10 < 0 then L_M_comeToFirst_108 g p0 p1 p2 p3 x else (bnd (M_M_takeOut g x p0 r_10) (fun u_51 => (if g.2.2.1 = (2 : Int32) then (bnd (M_M_passes g u_51 (x.2.1.2.1 r_10.toNatClampNeg)) (fun r_65 => (if r_65 = 0 then (bnd (M_M_isOneOf g u_51 (x.2.1.2.1 r_10.toNatClampNeg) p0) (fun r_75 => (if r_75 = 0 then (bnd (M_M_comeToSecond g u_51 p0 (x.2.1.2.1 r_10.toNatClampNeg) (x.2.1.2.2.1 r_10.toNatClampNeg) (x.2.1.2.2.2.1 r_10.toNatClampNeg)) (fun u_89 => L_M_comeToFirst_108 g p0 p1 p2 p3 u_89)) else L_M_comeToFirst_95 g p0 p1 p2 p3 (x.2.1.2.1 r_10.toNatClampNeg) (x.2.1.2.2.1 r_10.toNatClampNeg) (x.2.1.2.2.2.1 r_10.toNatClampNeg) u_51))) else L_M_comeToFirst_95 g p0 p1 p2 p3 (x.2.1.2.1 r_10.toNatClampNeg) (x.2.1.2.2.1 r_10.toNatClampNeg) (x.2.1.2.2.2.1 r_10.toNatClampNeg) u_51))) else L_M_comeToFirst_95 g p0 p1 p2 p3 (x.2.1.2.1 r_10.toNatClampNeg) (x.2.1.2.2.1 r_10.toNatClampNeg) (x.2.1.2.2.2.1 r_10.toNatClampNeg) u_51))))))))
theorem M_M_comeToFirst_eq (g : GM) (x : Ms) (p0 p1 p2 p3 : Int32) : M_M_comeToFirst g x p0 p1 p2 p3 = (bnd (M_M_setOf g x p0 p1) (fun r_5 => (bnd (M_M_oldest g x p0 r_5 (-1 : Int32) (2 : Int32)) (fun r_10 => (if r_10 < 0 then L_M_comeToFirst_108 g p0 p1 p2 p3 x else (bnd (M_M_takeOut g x p0 r_10) (fun u_51 => (if g.2.2.1 = (2 : Int32) then (bnd (M_M_passes g u_51 (x.2.1.2.1 r_10.toNatClampNeg)) (fun r_65 => (if r_65 = 0 then (bnd (M_M_isOneOf g u_51 (x.2.1.2.1 r_10.toNatClampNeg) p0) (fun r_75 => (if r_75 = 0 then (bnd (M_M_comeToSecond g u_51 p0 (x.2.1.2.1 r_10.toNatClampNeg) (x.2.1.2.2.1 r_10.toNatClampNeg) (x.2.1.2.2.2.1 r_10.toNatClampNeg)) (fun u_89 => L_M_comeToFirst_108 g p0 p1 p2 p3 u_89)) else L_M_comeToFirst_95 g p0 p1 p2 p3 (x.2.1.2.1 r_10.toNatClampNeg) (x.2.1.2.2.1 r_10.toNatClampNeg) (x.2.1.2.2.2.1 r_10.toNatClampNeg) u_51))) else L_M_comeToFirst_95 g p0 p1 p2 p3 (x.2.1.2.1 r_10.toNatClampNeg) (x.2.1.2.2.1 r_10.toNatClampNeg) (x.2.1.2.2.2.1 r_10.toNatClampNeg) u_51))) else L_M_comeToFirst_95 g p0 p1 p2 p3 (x.2.1.2.1 r_10.toNatClampNeg) (x.2.1.2.2.1 r_10.toNatClampNeg) (x.2.1.2.2.2.1 r_10.toNatClampNeg) u_51)))))))) := rfl
def S_M_comeToFirst (g : GM) (x : Ms) (p0 p1 p2 p3 : Int32) : Prop := (S_M_setOf g x p0 p1 ∧ (bnd (M_M_setOf g x p0 p1) (fun r_5 => (S_M_oldest g x p0 r_5 (-1 : Int32) (2 : Int32) ∧ (bnd (M_M_oldest g x p0 r_5 (-1 : Int32) (2 : Int32)) (fun r_10 => ((r_10 < 0 → S_M_comeToFirst_108 g p0 p1 p2 p3 x) ∧ (¬ r_10 < 0 → (vp_in r_10 320 ∧ (vp_in r_10 320 ∧ (vp_in r_10 320 ∧ (S_M_takeOut g x p0 r_10 ∧ (bnd (M_M_takeOut g x p0 r_10) (fun u_51 => ((g.2.2.1 = (2 : Int32) → (bnd (M_M_passes g u_51 (x.2.1.2.1 r_10.toNatClampNeg)) (fun r_65 => ((r_65 = 0 → (S_M_isOneOf g u_51 (x.2.1.2.1 r_10.toNatClampNeg) p0 ∧ (bnd (M_M_isOneOf g u_51 (x.2.1.2.1 r_10.toNatClampNeg) p0) (fun r_75 => ((r_75 = 0 → (S_M_comeToSecond g u_51 p0 (x.2.1.2.1 r_10.toNatClampNeg) (x.2.1.2.2.1 r_10.toNatClampNeg) (x.2.1.2.2.2.1 r_10.toNatClampNeg) ∧ (bnd (M_M_comeToSecond g u_51 p0 (x.2.1.2.1 r_10.toNatClampNeg) (x.2.1.2.2.1 r_10.toNatClampNeg) (x.2.1.2.2.2.1 r_10.toNatClampNeg)) (fun u_89 => S_M_comeToFirst_108 g p0 p1 p2 p3 u_89)))) ∧ (¬ r_75 = 0 → S_M_comeToFirst_95 g p0 p1 p2 p3 (x.2.1.2.1 r_10.toNatClampNeg) (x.2.1.2.2.1 r_10.toNatClampNeg) (x.2.1.2.2.2.1 r_10.toNatClampNeg) u_51)))))) ∧ (¬ r_65 = 0 → S_M_comeToFirst_95 g p0 p1 p2 p3 (x.2.1.2.1 r_10.toNatClampNeg) (x.2.1.2.2.1 r_10.toNatClampNeg) (x.2.1.2.2.2.1 r_10.toNatClampNeg) u_51))))) ∧ (¬ g.2.2.1 = (2 : Int32) → S_M_comeToFirst_95 g p0 p1 p2 p3 (x.2.1.2.1 r_10.toNatClampNeg) (x.2.1.2.2.1 r_10.toNatClampNeg) (x.2.1.2.2.2.1 r_10.toNatClampNeg) u_51))))))))))))))))
theorem S_M_comeToFirst_eq (g : GM) (x : Ms) (p0 p1 p2 p3 : Int32) : S_M_comeToFirst g x p0 p1 p2 p3 = (S_M_setOf g x p0 p1 ∧ (bnd (M_M_setOf g x p0 p1) (fun r_5 => (S_M_oldest g x p0 r_5 (-1 : Int32) (2 : Int32) ∧ (bnd (M_M_oldest g x p0 r_5 (-1 : Int32) (2 : Int32)) (fun r_10 => ((r_10 < 0 → S_M_comeToFirst_108 g p0 p1 p2 p3 x) ∧ (¬ r_10 < 0 → (vp_in r_10 320 ∧ (vp_in r_10 320 ∧ (vp_in r_10 320 ∧ (S_M_takeOut g x p0 r_10 ∧ (bnd (M_M_takeOut g x p0 r_10) (fun u_51 => ((g.2.2.1 = (2 : Int32) → (bnd (M_M_passes g u_51 (x.2.1.2.1 r_10.toNatClampNeg)) (fun r_65 => ((r_65 = 0 → (S_M_isOneOf g u_51 (x.2.1.2.1 r_10.toNatClampNeg) p0 ∧ (bnd (M_M_isOneOf g u_51 (x.2.1.2.1 r_10.toNatClampNeg) p0) (fun r_75 => ((r_75 = 0 → (S_M_comeToSecond g u_51 p0 (x.2.1.2.1 r_10.toNatClampNeg) (x.2.1.2.2.1 r_10.toNatClampNeg) (x.2.1.2.2.2.1 r_10.toNatClampNeg) ∧ (bnd (M_M_comeToSecond g u_51 p0 (x.2.1.2.1 r_10.toNatClampNeg) (x.2.1.2.2.1 r_10.toNatClampNeg) (x.2.1.2.2.2.1 r_10.toNatClampNeg)) (fun u_89 => S_M_comeToFirst_108 g p0 p1 p2 p3 u_89)))) ∧ (¬ r_75 = 0 → S_M_comeToFirst_95 g p0 p1 p2 p3 (x.2.1.2.1 r_10.toNatClampNeg) (x.2.1.2.2.1 r_10.toNatClampNeg) (x.2.1.2.2.2.1 r_10.toNatClampNeg) u_51)))))) ∧ (¬ r_65 = 0 → S_M_comeToFirst_95 g p0 p1 p2 p3 (x.2.1.2.1 r_10.toNatClampNeg) (x.2.1.2.2.1 r_10.toNatClampNeg) (x.2.1.2.2.2.1 r_10.toNatClampNeg) u_51))))) ∧ (¬ g.2.2.1 = (2 : Int32) → S_M_comeToFirst_95 g p0 p1 p2 p3 (x.2.1.2.1 r_10.toNatClampNeg) (x.2.1.2.2.1 r_10.toNatClampNeg) (x.2.1.2.2.2.1 r_10.toNatClampNeg) u_51)))))))))))))))) := rfl
abbrev w_M_comeToFirst : List Cond := .code y_M_comeToFirst b_M_comeToFirst 9 none :: tbW
abbrev rm_M_comeToFirst : Room := { frames := 5, cells := 0, slots := 0, locals := 118 }
set_option maxHeartbeats 4000000 in
set_option maxRecDepth 100000 in
theorem c_M_comeToFirst (l : Launch) (D : va_G) (cI cZ : ClassId) (g : GM) (hg : okM g) (x : Ms) (p0 p1 p2 p3 : Int32) (hs : S_M_comeToFirst g x p0 p1 p2 p3) : Met l y_M_comeToFirst w_M_comeToFirst rm_M_comeToFirst (PcW D vwCl (tyK cI cZ) [.ref g.1.1, .int p0, .int p1, .int p2, .int p3] (wM cI cZ g x)) (va_Qv (fun (u : Ms) => u = M_M_comeToFirst g x p0 p1 p2 p3) (fun (u : Ms) (t : State) => va_P D vwCl (wM cI cZ g u) t.heap) (Aw (wM cI cZ g x))) 0 0 (Aw (wM cI cZ g x)) := by
  refine Met.ofW (cc := b_M_comeToFirst) (maxL := 9) (ret := none) (by decide) rfl ?_
  intro p e s m args below meth c s₁ B hml hv
  obtain ⟨rfl, hP, hK, hD0⟩ := hv
  have hx := B.exec
  have hb := B.bytes
  have hr := B.returns
  have htb : ∀ w ∈ tbW, w.before _ s = true := fun w h => atoms_spec (ws := w_M_comeToFirst) B.pre w (List.mem_cons_of_mem _ h)
  have hown : s.vm.findClass R_M = some m.cls := findClass_of_methodNamed B.named
  have hlocks := B.notSynchronized
  have hD : va_D (Aw (wM cI cZ g x)) (wM cI cZ g x) := ⟨hD0.1, fun k q hk => ⟨k, q.2, hk⟩⟩
  have hS : va_S (Aw (wM cI cZ g x)) s.heap s.heap [] := va_S.rf
  have cut_108 : ∀ (z : Ms) (H : Heap) (locs : List Loc) (ls : Array Slot), M_M_comeToFirst g x p0 p1 p2 p3 = L_M_comeToFirst_108 g p0 p1 p2 p3 z → S_M_comeToFirst_108 g p0 p1 p2 p3 z → va_P D vwCl (wM cI cZ g z) H → va_D (Aw (wM cI cZ g x)) (wM cI cZ g z) → va_S (Aw (wM cI cZ g x)) s.heap H locs → lv_has ls 9 [(0, .ref g.1.1), (1, .int p0), (2, .int p1), (3, .int p2), (4, .int p3)] → W p l e (headSpec w_M_comeToFirst rm_M_comeToFirst).room s m ([.ref g.1.1, .int p0, .int p1, .int p2, .int p3] : List Value).toArray below meth c H locs 0 0 (MQ below (va_Qv (fun (u : Ms) => u = M_M_comeToFirst g x p0 p1 p2 p3) (fun (u : Ms) (t : State) => va_P D vwCl (wM cI cZ g u) t.heap) (Aw (wM cI cZ g x))) ([.ref g.1.1, .int p0, .int p1, .int p2, .int p3] : List Value).toArray s 0 0 (Aw (wM cI cZ g x))) (F0 m 108 ls []) := by
    intro z H locs ls hF hs hP hD hS hl
    have hF := hF.trans (L_M_comeToFirst_108_eq g p0 p1 p2 p3 z)
    have hs := Eq.mp (S_M_comeToFirst_108_eq g p0 p1 p2 p3 z) hs
    refine lv_aload_n hx hb d_M_comeToFirst_108 rfl (lv_at hl 0 rfl) ?_
    refine lv_iload_n hx hb d_M_comeToFirst_109 rfl (lv_at hl 1 rfl) ?_
    refine lv_iload_n hx hb d_M_comeToFirst_110 rfl (lv_at hl 2 rfl) ?_
    refine lv_iload_n hx hb d_M_comeToFirst_111 rfl (lv_at hl 3 rfl) ?_
    refine lv_iload hx hb d_M_comeToFirst_112 (lv_at hl 4 rfl) ?_
    refine lv_iload_n hx hb d_M_comeToFirst_114 rfl (lv_at hl 1 rfl) ?_
    refine cwv_ (As := [.int p0, .int p1, .int p2, .int p3, .int p0]) (rest := []) (wldC := fun u => (wM cI cZ g u)) ⟨hx, hb, hml, hown, htb⟩ (c_M_putFirst l D cI cZ g hg z p0 p1 p2 p3 p0 hs.1) (cwv (n := 5) htb cd_M_putFirst k_M_85 in_M_putFirst se_M_putFirst ini_M hd_M_putFirst ⟨Nat.le_of_ble_eq_true rfl, Nat.le_of_ble_eq_true rfl⟩) hK hP hD hS [0, 1, 2, 3, 4, 5, 6, 7, 8, 9, 10] [] [0, 1, 2, 3, 4, 5, 6, 7, 8, 9, 10] rfl rfl (by decide) (by decide) rfl (fun _ => rfl) (fun _ => rfl) (ci := 3) rfl rfl rfl hl.1 rfl (Nat.le_of_ble_eq_true rfl) d_M_comeToFirst_115 ⟨Nat.zero_le _, Nat.zero_le _⟩ (fun u_115 H locs hw_115 hP hD hS => ?_)
    have hP : va_P D vwCl (wM cI cZ g u_115) H := hP
    have hD : va_D _ (wM cI cZ g u_115) := hD
    have hF := hF.trans (bnd_eq hw_115)
    have hs := Eq.mp (bnd_eq hw_115) hs.2
    exact W.vret hx hb hr (fun t ht hW => ⟨⟨u_115, rfl, hF.symm, by dsimp only; rw [ht]; exact hP⟩, hS.F ht⟩) hS.2.2 d_M_comeToFirst_118
  have cut_95 : ∀ (v6 v7 v8 : Int32) (z : Ms) (H : Heap) (locs : List Loc) (ls : Array Slot), M_M_comeToFirst g x p0 p1 p2 p3 = L_M_comeToFirst_95 g p0 p1 p2 p3 v6 v7 v8 z → S_M_comeToFirst_95 g p0 p1 p2 p3 v6 v7 v8 z → va_P D vwCl (wM cI cZ g z) H → va_D (Aw (wM cI cZ g x)) (wM cI cZ g z) → va_S (Aw (wM cI cZ g x)) s.heap H locs → lv_has ls 9 [(0, .ref g.1.1), (1, .int p0), (2, .int p1), (3, .int p2), (4, .int p3), (6, .int v6), (7, .int v7), (8, .int v8)] → W p l e (headSpec w_M_comeToFirst rm_M_comeToFirst).room s m ([.ref g.1.1, .int p0, .int p1, .int p2, .int p3] : List Value).toArray below meth c H locs 0 0 (MQ below (va_Qv (fun (u : Ms) => u = M_M_comeToFirst g x p0 p1 p2 p3) (fun (u : Ms) (t : State) => va_P D vwCl (wM cI cZ g u) t.heap) (Aw (wM cI cZ g x))) ([.ref g.1.1, .int p0, .int p1, .int p2, .int p3] : List Value).toArray s 0 0 (Aw (wM cI cZ g x))) (F0 m 95 ls []) := by
    intro v6 v7 v8 z H locs ls hF hs hP hD hS hl
    have hF := hF.trans (L_M_comeToFirst_95_eq g p0 p1 p2 p3 v6 v7 v8 z)
    have hs := Eq.mp (S_M_comeToFirst_95_eq g p0 p1 p2 p3 v6 v7 v8 z) hs
    refine lv_iload hx hb d_M_comeToFirst_95 (lv_at hl 6 rfl) ?_
    refine lv_if_eq (tgt := 108) hx hb d_M_comeToFirst_97 (by decide) (fun c_97 => ?_) (fun c_97 => ?_)
    · have hF := hF.trans (if_pos c_97)
      have hs := hs.1 c_97
      have hl := lv_sub (l' := [(0, .ref g.1.1), (1, .int p0), (2, .int p1), (3, .int p2), (4, .int p3)]) hl [0, 1, 2, 3, 4] rfl
      exact cut_108 z _ _ _ hF hs hP hD hS hl
    · have hF := hF.trans (if_neg c_97)
      have hs := hs.2 c_97
      refine lv_aload_n hx hb d_M_comeToFirst_100 rfl (lv_at hl 0 rfl) ?_
      refine lv_iload hx hb d_M_comeToFirst_101 (lv_at hl 5 rfl) ?_
      refine lv_iload hx hb d_M_comeToFirst_103 (lv_at hl 7 rfl) ?_
      refine cwv_ (As := [.int v6, .int v8]) (rest := []) (wldC := fun u => (wM cI cZ g u)) ⟨hx, hb, hml, hown, htb⟩ (c_M_goDown l D cI cZ g hg z v6 v8 hs.1) (cwv (n := 2) htb cd_M_goDown k_M_127 in_M_goDown se_M_goDown ini_M hd_M_goDown ⟨Nat.le_of_ble_eq_true rfl, Nat.le_of_ble_eq_true rfl⟩) hK hP hD hS [0, 1, 2, 3, 4, 5, 6, 7, 8, 9, 10] [] [0, 1, 2, 3, 4, 5, 6, 7, 8, 9, 10] rfl rfl (by decide) (by decide) rfl (fun _ => rfl) (fun _ => rfl) (ci := 3) rfl rfl rfl hl.1 rfl (Nat.le_of_ble_eq_true rfl) d_M_comeToFirst_105 ⟨Nat.zero_le _, Nat.zero_le _⟩ (fun u_105 H locs hw_105 hP hD hS => ?_)
      have hP : va_P D vwCl (wM cI cZ g u_105) H := hP
      have hD : va_D _ (wM cI cZ g u_105) := hD
      have hF := hF.trans (bnd_eq hw_105)
      have hs := Eq.mp (bnd_eq hw_105) hs.2
      have hl := lv_sub (l' := [(0, .ref g.1.1), (1, .int p0), (2, .int p1), (3, .int p2), (4, .int p3)]) hl [0, 1, 2, 3, 4] rfl
      exact cut_108 u_105 _ _ _ hF hs hP hD hS hl
  have hl := lv_entry ([.ref g.1.1, .int p0, .int p1, .int p2, .int p3]) (n := 9) (Nat.le_of_ble_eq_true rfl)
  rw [lg_entry_eq]
  generalize (lg_sl ([.ref g.1.1, .int p0, .int p1, .int p2, .int p3]) ++ List.replicate (9 - (lg_sl ([.ref g.1.1, .int p0, .int p1, .int p2, .int p3])).length) Slot.unset).toArray = ls at hl ⊢
  have hl : lv_has ls 9 [(0, .ref g.1.1), (1, .int p0), (2, .int p1), (3, .int p2), (4, .int p3)] := hl
  have hF := M_M_comeToFirst_eq g x p0 p1 p2 p3
  have hs := Eq.mp (S_M_comeToFirst_eq g x p0 p1 p2 p3) hs
  refine lv_aload_n hx hb d_M_comeToFirst_0 rfl (lv_at hl 0 rfl) ?_
  refine lv_iload_n hx hb d_M_comeToFirst_1 rfl (lv_at hl 1 rfl) ?_
  refine lv_aload_n hx hb d_M_comeToFirst_2 rfl (lv_at hl 0 rfl) ?_
  refine lv_iload_n hx hb d_M_comeToFirst_3 rfl (lv_at hl 1 rfl) ?_
  refine lv_iload_n hx hb d_M_comeToFirst_4 rfl (lv_at hl 2 rfl) ?_
  refine cpi (As := [.int p0, .int p1]) (rest := [.int p0, .ref g.1.1]) ⟨hx, hb, hml, hown, htb⟩ (c_M_setOf l D cI cZ g hg x p0 p1 hs.1) (cwv (n := 2) htb cd_M_setOf k_M_89 in_M_setOf se_M_setOf ini_M hd_M_setOf ⟨Nat.le_of_ble_eq_true rfl, Nat.le_of_ble_eq_true rfl⟩) hK hP [0, 1, 2, 3, 4, 5, 6, 7, 8, 9, 10] rfl (ci := 3) rfl rfl rfl hl.1 rfl (Nat.le_of_ble_eq_true rfl) d_M_comeToFirst_5 ⟨Nat.zero_le _, Nat.zero_le _⟩ (fun r_5 hw_5 => ?_)
  have hF := hF.trans (bnd_eq hw_5)
  have hs := Eq.mp (bnd_eq hw_5) hs.2
  refine lv_iconst (v := -1) hx hb d_M_comeToFirst_8 (by decide) ?_
  refine lv_iconst (v := 2) hx hb d_M_comeToFirst_9 (by decide) ?_
  refine cpi (As := [.int p0, .int r_5, .int (-1 : Int32), .int (2 : Int32)]) (rest := []) ⟨hx, hb, hml, hown, htb⟩ (c_M_oldest l D cI cZ g hg x p0 r_5 (-1 : Int32) (2 : Int32) hs.1) (cwv (n := 4) htb cd_M_oldest k_M_107 in_M_oldest se_M_oldest ini_M hd_M_oldest ⟨Nat.le_of_ble_eq_true rfl, Nat.le_of_ble_eq_true rfl⟩) hK hP [0, 1, 2, 3, 4, 5, 6, 7, 8, 9, 10] rfl (ci := 3) rfl rfl rfl hl.1 rfl (Nat.le_of_ble_eq_true rfl) d_M_comeToFirst_10 ⟨Nat.zero_le _, Nat.zero_le _⟩ (fun r_10 hw_10 => ?_)
  have hF := hF.trans (bnd_eq hw_10)
  have hs := Eq.mp (bnd_eq hw_10) hs.2
  refine lv_istore (lv' := [(5, .int r_10), (0, .ref g.1.1), (1, .int p0), (2, .int p1), (3, .int p2), (4, .int p3)]) hx hb d_M_comeToFirst_13 hl (by decide) rfl (fun ls hl => ?_)
  refine lv_iload hx hb d_M_comeToFirst_15 (lv_at hl 0 rfl) ?_
  refine lv_if_lt (tgt := 108) hx hb d_M_comeToFirst_17 (by decide) (fun c_17 => ?_) (fun c_17 => ?_)
  · have hF := hF.trans (if_pos c_17)
    have hs := hs.1 c_17
    have hl := lv_sub (l' := [(0, .ref g.1.1), (1, .int p0), (2, .int p1), (3, .int p2), (4, .int p3)]) hl [1, 2, 3, 4, 5] rfl
    exact cut_108 x _ _ _ hF hs hP hD hS hl
  · have hF := hF.trans (if_neg c_17)
    have hs := hs.2 c_17
    refine lv_aload_n hx hb d_M_comeToFirst_20 rfl (lv_at hl 1 rfl) ?_
    refine va_get (D := D) (ci := 3) (v := .ref g.1.2.2.1) (C := R_M) (T := T_M) (N := 20) hx hb htb i_M hown hK hP 0 rfl rfl 6 (by decide) (htb _ k_M_13) (fun _ h9 => h9) rfl d_M_comeToFirst_21 ?_
    refine lv_iload hx hb d_M_comeToFirst_24 (lv_at hl 0 rfl) ?_
    refine va_iald hx hb hK hP 2 0 rfl rfl hs.1 d_M_comeToFirst_26 ?_
    have hs := hs.2
    refine lv_istore (lv' := [(6, .int (x.2.1.2.1 r_10.toNatClampNeg)), (5, .int r_10), (0, .ref g.1.1), (1, .int p0), (2, .int p1), (3, .int p2), (4, .int p3)]) hx hb d_M_comeToFirst_27 hl (by decide) rfl (fun ls hl => ?_)
    refine lv_aload_n hx hb d_M_comeToFirst_29 rfl (lv_at hl 2 rfl) ?_
    refine va_get (D := D) (ci := 3) (v := .ref g.1.2.2.2.1) (C := R_M) (T := T_M) (N := 20) hx hb htb i_M hown hK hP 0 rfl rfl 7 (by decide) (htb _ k_M_16) (fun _ h9 => h9) rfl d_M_comeToFirst_30 ?_
    refine lv_iload hx hb d_M_comeToFirst_33 (lv_at hl 1 rfl) ?_
    refine va_zald hx hb hK hP 3 1 rfl rfl hs.1 d_M_comeToFirst_35 ?_
    have hs := hs.2
    refine lv_istore (lv' := [(7, .int (x.2.1.2.2.1 r_10.toNatClampNeg)), (6, .int (x.2.1.2.1 r_10.toNatClampNeg)), (5, .int r_10), (0, .ref g.1.1), (1, .int p0), (2, .int p1), (3, .int p2), (4, .int p3)]) hx hb d_M_comeToFirst_36 hl (by decide) rfl (fun ls hl => ?_)
    refine lv_aload_n hx hb d_M_comeToFirst_38 rfl (lv_at hl 3 rfl) ?_
    refine va_get (D := D) (ci := 3) (v := .ref g.1.2.2.2.2.1) (C := R_M) (T := T_M) (N := 20) hx hb htb i_M hown hK hP 0 rfl rfl 8 (by decide) (htb _ k_M_20) (fun _ h9 => h9) rfl d_M_comeToFirst_39 ?_
    refine lv_iload hx hb d_M_comeToFirst_42 (lv_at hl 2 rfl) ?_
    refine va_iald hx hb hK hP 4 0 rfl rfl hs.1 d_M_comeToFirst_44 ?_
    have hs := hs.2
    refine lv_istore (lv' := [(8, .int (x.2.1.2.2.2.1 r_10.toNatClampNeg)), (7, .int (x.2.1.2.2.1 r_10.toNatClampNeg)), (6, .int (x.2.1.2.1 r_10.toNatClampNeg)), (5, .int r_10), (0, .ref g.1.1), (1, .int p0), (2, .int p1), (3, .int p2), (4, .int p3)]) hx hb d_M_comeToFirst_45 hl (by decide) rfl (fun ls hl => ?_)
    refine lv_aload_n hx hb d_M_comeToFirst_47 rfl (lv_at hl 4 rfl) ?_
    refine lv_iload_n hx hb d_M_comeToFirst_48 rfl (lv_at hl 5 rfl) ?_
    refine lv_iload hx hb d_M_comeToFirst_49 (lv_at hl 3 rfl) ?_
    refine cwv_ (As := [.int p0, .int r_10]) (rest := []) (wldC := fun u => (wM cI cZ g u)) ⟨hx, hb, hml, hown, htb⟩ (c_M_takeOut l D cI cZ g hg x p0 r_10 hs.1) (cwv (n := 2) htb cd_M_takeOut k_M_82 in_M_takeOut se_M_takeOut ini_M hd_M_takeOut ⟨Nat.le_of_ble_eq_true rfl, Nat.le_of_ble_eq_true rfl⟩) hK hP hD hS [0, 1, 2, 3, 4, 5, 6, 7, 8, 9, 10] [] [0, 1, 2, 3, 4, 5, 6, 7, 8, 9, 10] rfl rfl (by decide) (by decide) rfl (fun _ => rfl) (fun _ => rfl) (ci := 3) rfl rfl rfl hl.1 rfl (Nat.le_of_ble_eq_true rfl) d_M_comeToFirst_51 ⟨Nat.zero_le _, Nat.zero_le _⟩ (fun u_51 H locs hw_51 hP hD hS => ?_)
    have hP : va_P D vwCl (wM cI cZ g u_51) H := hP
    have hD : va_D _ (wM cI cZ g u_51) := hD
    have hF := hF.trans (bnd_eq hw_51)
    have hs := Eq.mp (bnd_eq hw_51) hs.2
    refine lv_aload_n hx hb d_M_comeToFirst_54 rfl (lv_at hl 4 rfl) ?_
    refine va_get (D := D) (ci := 3) (v := .int g.2.2.1) (C := R_M) (T := T_M) (N := 20) hx hb htb i_M hown hK hP 0 rfl rfl 2 (by decide) (htb _ k_M_52) (fun _ h9 => h9) rfl d_M_comeToFirst_55 ?_
    refine lv_iconst (v := 2) hx hb d_M_comeToFirst_58 (by decide) ?_
    refine lv_icmp_ne (tgt := 95) hx hb d_M_comeToFirst_59 (by decide) (fun c_59 => ?_) (fun c_59 => ?_)
    · have hF := hF.trans (if_neg c_59)
      have hs := hs.2 c_59
      have hl := lv_sub (l' := [(0, .ref g.1.1), (1, .int p0), (2, .int p1), (3, .int p2), (4, .int p3), (6, .int (x.2.1.2.1 r_10.toNatClampNeg)), (7, .int (x.2.1.2.2.1 r_10.toNatClampNeg)), (8, .int (x.2.1.2.2.2.1 r_10.toNatClampNeg))]) hl [4, 5, 6, 7, 8, 2, 1, 0] rfl
      exact cut_95 (x.2.1.2.1 r_10.toNatClampNeg) (x.2.1.2.2.1 r_10.toNatClampNeg) (x.2.1.2.2.2.1 r_10.toNatClampNeg) u_51 _ _ _ hF hs hP hD hS hl
    · have hF := hF.trans (if_pos c_59)
      have hs := hs.1 c_59
      refine lv_aload_n hx hb d_M_comeToFirst_62 rfl (lv_at hl 4 rfl) ?_
      refine lv_iload hx hb d_M_comeToFirst_63 (lv_at hl 2 rfl) ?_
      refine cpi (As := [.int (x.2.1.2.1 r_10.toNatClampNeg)]) (rest := []) ⟨hx, hb, hml, hown, htb⟩ (c_M_passes l D cI cZ g hg u_51 (x.2.1.2.1 r_10.toNatClampNeg)) (cwv (n := 1) htb cd_M_passes k_M_115 in_M_passes se_M_passes ini_M hd_M_passes ⟨Nat.le_of_ble_eq_true rfl, Nat.le_of_ble_eq_true rfl⟩) hK hP [0, 1, 2, 3, 4, 5, 6, 7, 8, 9, 10] rfl (ci := 3) rfl rfl rfl hl.1 rfl (Nat.le_of_ble_eq_true rfl) d_M_comeToFirst_65 ⟨Nat.zero_le _, Nat.zero_le _⟩ (fun r_65 hw_65 => ?_)
      have hF := hF.trans (bnd_eq hw_65)
      have hs := Eq.mp (bnd_eq hw_65) hs
      refine lv_if_ne (tgt := 95) hx hb d_M_comeToFirst_68 (by decide) (fun c_68 => ?_) (fun c_68 => ?_)
      · have hF := hF.trans (if_neg c_68)
        have hs := hs.2 c_68
        have hl := lv_sub (l' := [(0, .ref g.1.1), (1, .int p0), (2, .int p1), (3, .int p2), (4, .int p3), (6, .int (x.2.1.2.1 r_10.toNatClampNeg)), (7, .int (x.2.1.2.2.1 r_10.toNatClampNeg)), (8, .int (x.2.1.2.2.2.1 r_10.toNatClampNeg))]) hl [4, 5, 6, 7, 8, 2, 1, 0] rfl
        exact cut_95 (x.2.1.2.1 r_10.toNatClampNeg) (x.2.1.2.2.1 r_10.toNatClampNeg) (x.2.1.2.2.2.1 r_10.toNatClampNeg) u_51 _ _ _ hF hs hP hD hS hl
      · have hF := hF.trans (if_pos c_68)
        have hs := hs.1 c_68
        refine lv_aload_n hx hb d_M_comeToFirst_71 rfl (lv_at hl 4 rfl) ?_
        refine lv_iload hx hb d_M_comeToFirst_72 (lv_at hl 2 rfl) ?_
        refine lv_iload_n hx hb d_M_comeToFirst_74 rfl (lv_at hl 5 rfl) ?_
        refine cpi (As := [.int (x.2.1.2.1 r_10.toNatClampNeg), .int p0]) (rest := []) ⟨hx, hb, hml, hown, htb⟩ (c_M_isOneOf l D cI cZ g hg u_51 (x.2.1.2.1 r_10.toNatClampNeg) p0 hs.1) (cwv (n := 2) htb cd_M_isOneOf k_M_119 in_M_isOneOf se_M_isOneOf ini_M hd_M_isOneOf ⟨Nat.le_of_ble_eq_true rfl, Nat.le_of_ble_eq_true rfl⟩) hK hP [0, 1, 2, 3, 4, 5, 6, 7, 8, 9, 10] rfl (ci := 3) rfl rfl rfl hl.1 rfl (Nat.le_of_ble_eq_true rfl) d_M_comeToFirst_75 ⟨Nat.zero_le _, Nat.zero_le _⟩ (fun r_75 hw_75 => ?_)
        have hF := hF.trans (bnd_eq hw_75)
        have hs := Eq.mp (bnd_eq hw_75) hs.2
        refine lv_if_ne (tgt := 95) hx hb d_M_comeToFirst_78 (by decide) (fun c_78 => ?_) (fun c_78 => ?_)
        · have hF := hF.trans (if_neg c_78)
          have hs := hs.2 c_78
          have hl := lv_sub (l' := [(0, .ref g.1.1), (1, .int p0), (2, .int p1), (3, .int p2), (4, .int p3), (6, .int (x.2.1.2.1 r_10.toNatClampNeg)), (7, .int (x.2.1.2.2.1 r_10.toNatClampNeg)), (8, .int (x.2.1.2.2.2.1 r_10.toNatClampNeg))]) hl [4, 5, 6, 7, 8, 2, 1, 0] rfl
          exact cut_95 (x.2.1.2.1 r_10.toNatClampNeg) (x.2.1.2.2.1 r_10.toNatClampNeg) (x.2.1.2.2.2.1 r_10.toNatClampNeg) u_51 _ _ _ hF hs hP hD hS hl
        · have hF := hF.trans (if_pos c_78)
          have hs := hs.1 c_78
          refine lv_aload_n hx hb d_M_comeToFirst_81 rfl (lv_at hl 4 rfl) ?_
          refine lv_iload_n hx hb d_M_comeToFirst_82 rfl (lv_at hl 5 rfl) ?_
          refine lv_iload hx hb d_M_comeToFirst_83 (lv_at hl 2 rfl) ?_
          refine lv_iload hx hb d_M_comeToFirst_85 (lv_at hl 1 rfl) ?_
          refine lv_iload hx hb d_M_comeToFirst_87 (lv_at hl 0 rfl) ?_
          refine cwv_ (As := [.int p0, .int (x.2.1.2.1 r_10.toNatClampNeg), .int (x.2.1.2.2.1 r_10.toNatClampNeg), .int (x.2.1.2.2.2.1 r_10.toNatClampNeg)]) (rest := []) (wldC := fun u => (wM cI cZ g u)) ⟨hx, hb, hml, hown, htb⟩ (c_M_comeToSecond l D cI cZ g hg u_51 p0 (x.2.1.2.1 r_10.toNatClampNeg) (x.2.1.2.2.1 r_10.toNatClampNeg) (x.2.1.2.2.2.1 r_10.toNatClampNeg) hs.1) (cwv (n := 4) htb cd_M_comeToSecond k_M_123 in_M_comeToSecond se_M_comeToSecond ini_M hd_M_comeToSecond ⟨Nat.le_of_ble_eq_true rfl, Nat.le_of_ble_eq_true rfl⟩) hK hP hD hS [0, 1, 2, 3, 4, 5, 6, 7, 8, 9, 10] [] [0, 1, 2, 3, 4, 5, 6, 7, 8, 9, 10] rfl rfl (by decide) (by decide) rfl (fun _ => rfl) (fun _ => rfl) (ci := 3) rfl rfl rfl hl.1 rfl (Nat.le_of_ble_eq_true rfl) d_M_comeToFirst_89 ⟨Nat.zero_le _, Nat.zero_le _⟩ (fun u_89 H locs hw_89 hP hD hS => ?_)
          have hP : va_P D vwCl (wM cI cZ g u_89) H := hP
          have hD : va_D _ (wM cI cZ g u_89) := hD
          have hF := hF.trans (bnd_eq hw_89)
          have hs := Eq.mp (bnd_eq hw_89) hs.2
          refine lv_goto (tgt := 108) hx hb d_M_comeToFirst_92 (by decide) ?_
          have hl := lv_sub (l' := [(0, .ref g.1.1), (1, .int p0), (2, .int p1), (3, .int p2), (4, .int p3)]) hl [4, 5, 6, 7, 8] rfl
          exact cut_108 u_89 _ _ _ hF hs hP hD hS hl

def L_M_othersLose_79 (g : GM) (p0 p1 : Int32) (v3 : Int32) (z : Ms) : Ms := (if v3 < 0 then z else (bnd (M_M_takeOut g z (4 : Int32) v3) (fun u_86 => u_86)))
theorem L_M_othersLose_79_eq (g : GM) (p0 p1 : Int32) (v3 : Int32) (z : Ms) : L_M_othersLose_79 g p0 p1 v3 z = (if v3 < 0 then z else (bnd (M_M_takeOut g z (4 : Int32) v3) (fun u_86 => u_86))) := rfl
def S_M_othersLose_79 (g : GM) (p0 p1 : Int32) (v3 : Int32) (z : Ms) : Prop := ((v3 < 0 → True) ∧ (¬ v3 < 0 → (S_M_takeOut g z (4 : Int32) v3 ∧ (bnd (M_M_takeOut g z (4 : Int32) v3) (fun u_86 => True)))))
theorem S_M_othersLose_79_eq (g : GM) (p0 p1 : Int32) (v3 : Int32) (z : Ms) : S_M_othersLose_79 g p0 p1 v3 z = ((v3 < 0 → True) ∧ (¬ v3 < 0 → (S_M_takeOut g z (4 : Int32) v3 ∧ (bnd (M_M_takeOut g z (4 : Int32) v3) (fun u_86 => True))))) := rfl
def L_M_othersLose_2 (g : GM) (p0 p1 : Int32) : Nat → Int32 → Ms → Ms
  | 0, _, z => z
  | n + 1, v3, z => (if g.2.1 ≤ v3 then (if g.2.2.1 = (2 : Int32) then (bnd (M_M_at g z (4 : Int32) p1) (fun r_71 => L_M_othersLose_79 g p0 p1 r_71 z)) else L_M_othersLose_79 g p0 p1 (-1 : Int32) z) else (if v3 = p0 then (if (-1 : Int32) < 0 then L_M_othersLose_2 g p0 p1 n (v3 + 1) z else (bnd (M_M_takeOut g (z.1, z.2.1, z.2.2.1, z.2.2.2.1, (upd z.2.2.2.2 (((7 : Int32) * v3) + (5 : Int32)).toNatClampNeg ((z.2.2.2.2 (((7 : Int32) * v3) + (5 : Int32)).toNatClampNeg) + (1 : Int32)))) v3 (-1 : Int32)) (fun u_51 => L_M_othersLose_2 g p0 p1 n (v3 + 1) u_51))) else (bnd (M_M_at g z v3 p1) (fun r_22 => (if r_22 < 0 then L_M_othersLose_2 g p0 p1 n (v3 + 1) z else (bnd (M_M_takeOut g (z.1, z.2.1, z.2.2.1, z.2.2.2.1, (upd z.2.2.2.2 (((7 : Int32) * v3) + (5 : Int32)).toNatClampNeg ((z.2.2.2.2 (((7 : Int32) * v3) + (5 : Int32)).toNatClampNeg) + (1 : Int32)))) v3 r_22) (fun u_51 => L_M_othersLose_2 g p0 p1 n (v3 + 1) u_51)))))))
theorem L_M_othersLose_2_eq (g : GM) (p0 p1 : Int32) (n : Nat) (v3 : Int32) (z : Ms) : L_M_othersLose_2 g p0 p1 (n + 1) v3 z = (if g.2.1 ≤ v3 then (if g.2.2.1 = (2 : Int32) then (bnd (M_M_at g z (4 : Int32) p1) (fun r_71 => L_M_othersLose_79 g p0 p1 r_71 z)) else L_M_othersLose_79 g p0 p1 (-1 : Int32) z) else (if v3 = p0 then (if (-1 : Int32) < 0 then L_M_othersLose_2 g p0 p1 n (v3 + 1) z else (bnd (M_M_takeOut g (z.1, z.2.1, z.2.2.1, z.2.2.2.1, (upd z.2.2.2.2 (((7 : Int32) * v3) + (5 : Int32)).toNatClampNeg ((z.2.2.2.2 (((7 : Int32) * v3) + (5 : Int32)).toNatClampNeg) + (1 : Int32)))) v3 (-1 : Int32)) (fun u_51 => L_M_othersLose_2 g p0 p1 n (v3 + 1) u_51))) else (bnd (M_M_at g z v3 p1) (fun r_22 => (if r_22 < 0 then L_M_othersLose_2 g p0 p1 n (v3 + 1) z else (bnd (M_M_takeOut g (z.1, z.2.1, z.2.2.1, z.2.2.2.1, (upd z.2.2.2.2 (((7 : Int32) * v3) + (5 : Int32)).toNatClampNeg ((z.2.2.2.2 (((7 : Int32) * v3) + (5 : Int32)).toNatClampNeg) + (1 : Int32)))) v3 r_22) (fun u_51 => L_M_othersLose_2 g p0 p1 n (v3 + 1) u_51))))))) := by first | rfl | rw [L_M_othersLose_2]
def S_M_othersLose_2 (g : GM) (p0 p1 : Int32) : Nat → Int32 → Ms → Prop
  | 0, _, _ => True
  | n + 1, v3, z => ((g.2.1 ≤ v3 → ((g.2.2.1 = (2 : Int32) → (S_M_at g z (4 : Int32) p1 ∧ (bnd (M_M_at g z (4 : Int32) p1) (fun r_71 => S_M_othersLose_79 g p0 p1 r_71 z)))) ∧ (¬ g.2.2.1 = (2 : Int32) → S_M_othersLose_79 g p0 p1 (-1 : Int32) z))) ∧ (¬ g.2.1 ≤ v3 → ((v3 = p0 → (((-1 : Int32) < 0 → (mu (v3 + 1) g.2.1 < mu v3 g.2.1 ∧ S_M_othersLose_2 g p0 p1 n (v3 + 1) z)) ∧ (¬ (-1 : Int32) < 0 → (vp_in (((7 : Int32) * v3) + (5 : Int32)) 28 ∧ (vp_in (((7 : Int32) * v3) + (5 : Int32)) 28 ∧ (S_M_takeOut g (z.1, z.2.1, z.2.2.1, z.2.2.2.1, (upd z.2.2.2.2 (((7 : Int32) * v3) + (5 : Int32)).toNatClampNeg ((z.2.2.2.2 (((7 : Int32) * v3) + (5 : Int32)).toNatClampNeg) + (1 : Int32)))) v3 (-1 : Int32) ∧ (bnd (M_M_takeOut g (z.1, z.2.1, z.2.2.1, z.2.2.2.1, (upd z.2.2.2.2 (((7 : Int32) * v3) + (5 : Int32)).toNatClampNeg ((z.2.2.2.2 (((7 : Int32) * v3) + (5 : Int32)).toNatClampNeg) + (1 : Int32)))) v3 (-1 : Int32)) (fun u_51 => (mu (v3 + 1) g.2.1 < mu v3 g.2.1 ∧ S_M_othersLose_2 g p0 p1 n (v3 + 1) u_51))))))))) ∧ (¬ v3 = p0 → (S_M_at g z v3 p1 ∧ (bnd (M_M_at g z v3 p1) (fun r_22 => ((r_22 < 0 → (mu (v3 + 1) g.2.1 < mu v3 g.2.1 ∧ S_M_othersLose_2 g p0 p1 n (v3 + 1) z)) ∧ (¬ r_22 < 0 → (vp_in (((7 : Int32) * v3) + (5 : Int32)) 28 ∧ (vp_in (((7 : Int32) * v3) + (5 : Int32)) 28 ∧ (S_M_takeOut g (z.1, z.2.1, z.2.2.1, z.2.2.2.1, (upd z.2.2.2.2 (((7 : Int32) * v3) + (5 : Int32)).toNatClampNeg ((z.2.2.2.2 (((7 : Int32) * v3) + (5 : Int32)).toNatClampNeg) + (1 : Int32)))) v3 r_22 ∧ (bnd (M_M_takeOut g (z.1, z.2.1, z.2.2.1, z.2.2.2.1, (upd z.2.2.2.2 (((7 : Int32) * v3) + (5 : Int32)).toNatClampNeg ((z.2.2.2.2 (((7 : Int32) * v3) + (5 : Int32)).toNatClampNeg) + (1 : Int32)))) v3 r_22) (fun u_51 => (mu (v3 + 1) g.2.1 < mu v3 g.2.1 ∧ S_M_othersLose_2 g p0 p1 n (v3 + 1) u_51)))))))))))))))
theorem S_M_othersLose_2_eq (g : GM) (p0 p1 : Int32) (n : Nat) (v3 : Int32) (z : Ms) : S_M_othersLose_2 g p0 p1 (n + 1) v3 z = ((g.2.1 ≤ v3 → ((g.2.2.1 = (2 : Int32) → (S_M_at g z (4 : Int32) p1 ∧ (bnd (M_M_at g z (4 : Int32) p1) (fun r_71 => S_M_othersLose_79 g p0 p1 r_71 z)))) ∧ (¬ g.2.2.1 = (2 : Int32) → S_M_othersLose_79 g p0 p1 (-1 : Int32) z))) ∧ (¬ g.2.1 ≤ v3 → ((v3 = p0 → (((-1 : Int32) < 0 → (mu (v3 + 1) g.2.1 < mu v3 g.2.1 ∧ S_M_othersLose_2 g p0 p1 n (v3 + 1) z)) ∧ (¬ (-1 : Int32) < 0 → (vp_in (((7 : Int32) * v3) + (5 : Int32)) 28 ∧ (vp_in (((7 : Int32) * v3) + (5 : Int32)) 28 ∧ (S_M_takeOut g (z.1, z.2.1, z.2.2.1, z.2.2.2.1, (upd z.2.2.2.2 (((7 : Int32) * v3) + (5 : Int32)).toNatClampNeg ((z.2.2.2.2 (((7 : Int32) * v3) + (5 : Int32)).toNatClampNeg) + (1 : Int32)))) v3 (-1 : Int32) ∧ (bnd (M_M_takeOut g (z.1, z.2.1, z.2.2.1, z.2.2.2.1, (upd z.2.2.2.2 (((7 : Int32) * v3) + (5 : Int32)).toNatClampNeg ((z.2.2.2.2 (((7 : Int32) * v3) + (5 : Int32)).toNatClampNeg) + (1 : Int32)))) v3 (-1 : Int32)) (fun u_51 => (mu (v3 + 1) g.2.1 < mu v3 g.2.1 ∧ S_M_othersLose_2 g p0 p1 n (v3 + 1) u_51))))))))) ∧ (¬ v3 = p0 → (S_M_at g z v3 p1 ∧ (bnd (M_M_at g z v3 p1) (fun r_22 => ((r_22 < 0 → (mu (v3 + 1) g.2.1 < mu v3 g.2.1 ∧ S_M_othersLose_2 g p0 p1 n (v3 + 1) z)) ∧ (¬ r_22 < 0 → (vp_in (((7 : Int32) * v3) + (5 : Int32)) 28 ∧ (vp_in (((7 : Int32) * v3) + (5 : Int32)) 28 ∧ (S_M_takeOut g (z.1, z.2.1, z.2.2.1, z.2.2.2.1, (upd z.2.2.2.2 (((7 : Int32) * v3) + (5 : Int32)).toNatClampNeg ((z.2.2.2.2 (((7 : Int32) * v3) + (5 : Int32)).toNatClampNeg) + (1 : Int32)))) v3 r_22 ∧ (bnd (M_M_takeOut g (z.1, z.2.1, z.2.2.1, z.2.2.2.1, (upd z.2.2.2.2 (((7 : Int32) * v3) + (5 : Int32)).toNatClampNeg ((z.2.2.2.2 (((7 : Int32) * v3) + (5 : Int32)).toNatClampNeg) + (1 : Int32)))) v3 r_22) (fun u_51 => (mu (v3 + 1) g.2.1 < mu v3 g.2.1 ∧ S_M_othersLose_2 g p0 p1 n (v3 + 1) u_51))))))))))))))) := by first | rfl | rw [S_M_othersLose_2]
def M_M_othersLose (g : GM) (x : Ms) (p0 p1 : Int32) : Ms := L_M_othersLose_2 g p0 p1 (mu (0 : Int32) g.2.1 + 1) (0 : Int32) x
theorem M_M_othersLose_eq (g : GM) (x : Ms) (p0 p1 : Int32) : M_M_othersLose g x p0 p1 = L_M_othersLose_2 g p0 p1 (mu (0 : Int32) g.2.1 + 1) (0 : Int32) x := rfl
def S_M_othersLose (g : GM) (x : Ms) (p0 p1 : Int32) : Prop := S_M_othersLose_2 g p0 p1 (mu (0 : Int32) g.2.1 + 1) (0 : Int32) x
theorem S_M_othersLose_eq (g : GM) (x : Ms) (p0 p1 : Int32) : S_M_othersLose g x p0 p1 = S_M_othersLose_2 g p0 p1 (mu (0 : Int32) g.2.1 + 1) (0 : Int32) x := rfl
abbrev w_M_othersLose : List Cond := .code y_M_othersLose b_M_othersLose 5 none :: tbW
abbrev rm_M_othersLose : Room := { frames := 2, cells := 0, slots := 0, locals := 45 }
set_option maxHeartbeats 4000000 in
set_option maxRecDepth 100000 in
theorem c_M_othersLose (l : Launch) (D : va_G) (cI cZ : ClassId) (g : GM) (hg : okM g) (x : Ms) (p0 p1 : Int32) (hs : S_M_othersLose g x p0 p1) : Met l y_M_othersLose w_M_othersLose rm_M_othersLose (PcW D vwCl (tyK cI cZ) [.ref g.1.1, .int p0, .int p1] (wM cI cZ g x)) (va_Qv (fun (u : Ms) => u = M_M_othersLose g x p0 p1) (fun (u : Ms) (t : State) => va_P D vwCl (wM cI cZ g u) t.heap) (Aw (wM cI cZ g x))) 0 0 (Aw (wM cI cZ g x)) := by
  refine Met.ofW (cc := b_M_othersLose) (maxL := 5) (ret := none) (by decide) rfl ?_
  intro p e s m args below meth c s₁ B hml hv
  obtain ⟨rfl, hP, hK, hD0⟩ := hv
  have hx := B.exec
  have hb := B.bytes
  have hr := B.returns
  have htb : ∀ w ∈ tbW, w.before _ s = true := fun w h => atoms_spec (ws := w_M_othersLose) B.pre w (List.mem_cons_of_mem _ h)
  have hown : s.vm.findClass R_M = some m.cls := findClass_of_methodNamed B.named
  have hlocks := B.notSynchronized
  have hD : va_D (Aw (wM cI cZ g x)) (wM cI cZ g x) := ⟨hD0.1, fun k q hk => ⟨k, q.2, hk⟩⟩
  have hS : va_S (Aw (wM cI cZ g x)) s.heap s.heap [] := va_S.rf
  have cut_79 : ∀ (v3 : Int32) (z : Ms) (H : Heap) (locs : List Loc) (ls : Array Slot), M_M_othersLose g x p0 p1 = L_M_othersLose_79 g p0 p1 v3 z → S_M_othersLose_79 g p0 p1 v3 z → va_P D vwCl (wM cI cZ g z) H → va_D (Aw (wM cI cZ g x)) (wM cI cZ g z) → va_S (Aw (wM cI cZ g x)) s.heap H locs → lv_has ls 5 [(0, .ref g.1.1), (1, .int p0), (2, .int p1), (3, .int v3)] → W p l e (headSpec w_M_othersLose rm_M_othersLose).room s m ([.ref g.1.1, .int p0, .int p1] : List Value).toArray below meth c H locs 0 0 (MQ below (va_Qv (fun (u : Ms) => u = M_M_othersLose g x p0 p1) (fun (u : Ms) (t : State) => va_P D vwCl (wM cI cZ g u) t.heap) (Aw (wM cI cZ g x))) ([.ref g.1.1, .int p0, .int p1] : List Value).toArray s 0 0 (Aw (wM cI cZ g x))) (F0 m 79 ls []) := by
    intro v3 z H locs ls hF hs hP hD hS hl
    have hF := hF.trans (L_M_othersLose_79_eq g p0 p1 v3 z)
    have hs := Eq.mp (S_M_othersLose_79_eq g p0 p1 v3 z) hs
    refine lv_iload_n hx hb d_M_othersLose_79 rfl (lv_at hl 3 rfl) ?_
    refine lv_if_lt (tgt := 89) hx hb d_M_othersLose_80 (by decide) (fun c_80 => ?_) (fun c_80 => ?_)
    · have hF := hF.trans (if_pos c_80)
      have hs := hs.1 c_80
      exact W.vret hx hb hr (fun t ht hW => ⟨⟨z, rfl, hF.symm, by dsimp only; rw [ht]; exact hP⟩, hS.F ht⟩) hS.2.2 d_M_othersLose_89
    · have hF := hF.trans (if_neg c_80)
      have hs := hs.2 c_80
      refine lv_aload_n hx hb d_M_othersLose_83 rfl (lv_at hl 0 rfl) ?_
      refine lv_iconst (v := 4) hx hb d_M_othersLose_84 (by decide) ?_
      refine lv_iload_n hx hb d_M_othersLose_85 rfl (lv_at hl 3 rfl) ?_
      refine cwv_ (As := [.int (4 : Int32), .int v3]) (rest := []) (wldC := fun u => (wM cI cZ g u)) ⟨hx, hb, hml, hown, htb⟩ (c_M_takeOut l D cI cZ g hg z (4 : Int32) v3 hs.1) (cwv (n := 2) htb cd_M_takeOut k_M_82 in_M_takeOut se_M_takeOut ini_M hd_M_takeOut ⟨Nat.le_of_ble_eq_true rfl, Nat.le_of_ble_eq_true rfl⟩) hK hP hD hS [0, 1, 2, 3, 4, 5, 6, 7, 8, 9, 10] [] [0, 1, 2, 3, 4, 5, 6, 7, 8, 9, 10] rfl rfl (by decide) (by decide) rfl (fun _ => rfl) (fun _ => rfl) (ci := 3) rfl rfl rfl hl.1 rfl (Nat.le_of_ble_eq_true rfl) d_M_othersLose_86 ⟨Nat.zero_le _, Nat.zero_le _⟩ (fun u_86 H locs hw_86 hP hD hS => ?_)
      have hP : va_P D vwCl (wM cI cZ g u_86) H := hP
      have hD : va_D _ (wM cI cZ g u_86) := hD
      have hF := hF.trans (bnd_eq hw_86)
      have hs := Eq.mp (bnd_eq hw_86) hs.2
      exact W.vret hx hb hr (fun t ht hW => ⟨⟨u_86, rfl, hF.symm, by dsimp only; rw [ht]; exact hP⟩, hS.F ht⟩) hS.2.2 d_M_othersLose_89
  have cut_2 : ∀ (n : Nat) (v3 : Int32) (z : Ms) (H : Heap) (locs : List Loc) (ls : Array Slot), mu v3 g.2.1 < n → M_M_othersLose g x p0 p1 = L_M_othersLose_2 g p0 p1 n v3 z → S_M_othersLose_2 g p0 p1 n v3 z → va_P D vwCl (wM cI cZ g z) H → va_D (Aw (wM cI cZ g x)) (wM cI cZ g z) → va_S (Aw (wM cI cZ g x)) s.heap H locs → lv_has ls 5 [(0, .ref g.1.1), (1, .int p0), (2, .int p1), (3, .int v3)] → W p l e (headSpec w_M_othersLose rm_M_othersLose).room s m ([.ref g.1.1, .int p0, .int p1] : List Value).toArray below meth c H locs 0 0 (MQ below (va_Qv (fun (u : Ms) => u = M_M_othersLose g x p0 p1) (fun (u : Ms) (t : State) => va_P D vwCl (wM cI cZ g u) t.heap) (Aw (wM cI cZ g x))) ([.ref g.1.1, .int p0, .int p1] : List Value).toArray s 0 0 (Aw (wM cI cZ g x))) (F0 m 2 ls []) := by
    intro n
    induction n with
    | zero => intro v3 z H locs ls hm _ _ _ _ _ _; exact absurd hm (Nat.not_lt_zero _)
    | succ n ih =>
      intro v3 z H locs ls hm hF hs hP hD hS hl
      have hF := hF.trans (L_M_othersLose_2_eq g p0 p1 n v3 z)
      have hs := Eq.mp (S_M_othersLose_2_eq g p0 p1 n v3 z) hs
      refine lv_iload_n hx hb d_M_othersLose_2 rfl (lv_at hl 3 rfl) ?_
      refine lv_aload_n hx hb d_M_othersLose_3 rfl (lv_at hl 0 rfl) ?_
      refine va_get (D := D) (ci := 3) (v := .int g.2.1) (C := R_M) (T := T_M) (N := 20) hx hb htb i_M hown hK hP 0 rfl rfl 1 (by decide) (htb _ k_M_45) (fun _ h9 => h9) rfl d_M_othersLose_4 ?_
      refine lv_icmp_ge (tgt := 60) hx hb d_M_othersLose_7 (by decide) (fun c_7 => ?_) (fun c_7 => ?_)
      · have hF := hF.trans (if_pos c_7)
        have hs := hs.1 c_7
        refine lv_aload_n hx hb d_M_othersLose_60 rfl (lv_at hl 0 rfl) ?_
        refine va_get (D := D) (ci := 3) (v := .int g.2.2.1) (C := R_M) (T := T_M) (N := 20) hx hb htb i_M hown hK hP 0 rfl rfl 2 (by decide) (htb _ k_M_52) (fun _ h9 => h9) rfl d_M_othersLose_61 ?_
        refine lv_iconst (v := 2) hx hb d_M_othersLose_64 (by decide) ?_
        refine lv_icmp_ne (tgt := 77) hx hb d_M_othersLose_65 (by decide) (fun c_65 => ?_) (fun c_65 => ?_)
        · have hF := hF.trans (if_neg c_65)
          have hs := hs.2 c_65
          refine lv_iconst (v := -1) hx hb d_M_othersLose_77 (by decide) ?_
          refine lv_istore_n (lv' := [(3, .int (-1 : Int32)), (0, .ref g.1.1), (1, .int p0), (2, .int p1)]) hx hb d_M_othersLose_78 rfl hl (by decide) rfl (fun ls hl => ?_)
          have hl := lv_sub (l' := [(0, .ref g.1.1), (1, .int p0), (2, .int p1), (3, .int (-1 : Int32))]) hl [1, 2, 3, 0] rfl
          exact cut_79 (-1 : Int32) z _ _ _ hF hs hP hD hS hl
        · have hF := hF.trans (if_pos c_65)
          have hs := hs.1 c_65
          refine lv_aload_n hx hb d_M_othersLose_68 rfl (lv_at hl 0 rfl) ?_
          refine lv_iconst (v := 4) hx hb d_M_othersLose_69 (by decide) ?_
          refine lv_iload_n hx hb d_M_othersLose_70 rfl (lv_at hl 2 rfl) ?_
          refine cpi (As := [.int (4 : Int32), .int p1]) (rest := []) ⟨hx, hb, hml, hown, htb⟩ (c_M_at l D cI cZ g hg z (4 : Int32) p1 hs.1) (cwv (n := 2) htb cd_M_at k_M_98 in_M_at se_M_at ini_M hd_M_at ⟨Nat.le_of_ble_eq_true rfl, Nat.le_of_ble_eq_true rfl⟩) hK hP [0, 1, 2, 3, 4, 5, 6, 7, 8, 9, 10] rfl (ci := 3) rfl rfl rfl hl.1 rfl (Nat.le_of_ble_eq_true rfl) d_M_othersLose_71 ⟨Nat.zero_le _, Nat.zero_le _⟩ (fun r_71 hw_71 => ?_)
          have hF := hF.trans (bnd_eq hw_71)
          have hs := Eq.mp (bnd_eq hw_71) hs.2
          refine lv_goto (tgt := 78) hx hb d_M_othersLose_74 (by decide) ?_
          refine lv_istore_n (lv' := [(3, .int r_71), (0, .ref g.1.1), (1, .int p0), (2, .int p1)]) hx hb d_M_othersLose_78 rfl hl (by decide) rfl (fun ls hl => ?_)
          have hl := lv_sub (l' := [(0, .ref g.1.1), (1, .int p0), (2, .int p1), (3, .int r_71)]) hl [1, 2, 3, 0] rfl
          exact cut_79 r_71 z _ _ _ hF hs hP hD hS hl
      · have hF := hF.trans (if_neg c_7)
        have hs := hs.2 c_7
        refine lv_iload_n hx hb d_M_othersLose_10 rfl (lv_at hl 3 rfl) ?_
        refine lv_iload_n hx hb d_M_othersLose_11 rfl (lv_at hl 1 rfl) ?_
        refine lv_icmp_ne (tgt := 19) hx hb d_M_othersLose_12 (by decide) (fun c_12 => ?_) (fun c_12 => ?_)
        · have hF := hF.trans (if_neg c_12)
          have hs := hs.2 c_12
          refine lv_aload_n hx hb d_M_othersLose_19 rfl (lv_at hl 0 rfl) ?_
          refine lv_iload_n hx hb d_M_othersLose_20 rfl (lv_at hl 3 rfl) ?_
          refine lv_iload_n hx hb d_M_othersLose_21 rfl (lv_at hl 2 rfl) ?_
          refine cpi (As := [.int v3, .int p1]) (rest := []) ⟨hx, hb, hml, hown, htb⟩ (c_M_at l D cI cZ g hg z v3 p1 hs.1) (cwv (n := 2) htb cd_M_at k_M_98 in_M_at se_M_at ini_M hd_M_at ⟨Nat.le_of_ble_eq_true rfl, Nat.le_of_ble_eq_true rfl⟩) hK hP [0, 1, 2, 3, 4, 5, 6, 7, 8, 9, 10] rfl (ci := 3) rfl rfl rfl hl.1 rfl (Nat.le_of_ble_eq_true rfl) d_M_othersLose_22 ⟨Nat.zero_le _, Nat.zero_le _⟩ (fun r_22 hw_22 => ?_)
          have hF := hF.trans (bnd_eq hw_22)
          have hs := Eq.mp (bnd_eq hw_22) hs.2
          refine lv_istore (lv' := [(4, .int r_22), (0, .ref g.1.1), (1, .int p0), (2, .int p1), (3, .int v3)]) hx hb d_M_othersLose_25 hl (by decide) rfl (fun ls hl => ?_)
          refine lv_iload hx hb d_M_othersLose_27 (lv_at hl 0 rfl) ?_
          refine lv_if_lt (tgt := 54) hx hb d_M_othersLose_29 (by decide) (fun c_29 => ?_) (fun c_29 => ?_)
          · have hF := hF.trans (if_pos c_29)
            have hs := hs.1 c_29
            refine lv_iinc (v := (v3 + 1)) (lv' := [(3, .int (v3 + 1)), (4, .int r_22), (0, .ref g.1.1), (1, .int p0), (2, .int p1)]) hx hb d_M_othersLose_54 hl (k := 4) rfl rfl (by decide) rfl (fun ls hl => ?_)
            refine lv_goto (tgt := 2) hx hb d_M_othersLose_57 (by decide) ?_
            have hl := lv_sub (l' := [(0, .ref g.1.1), (1, .int p0), (2, .int p1), (3, .int (v3 + 1))]) hl [2, 3, 4, 0] rfl
            exact ih (v3 + 1) z _ _ _ (Nat.lt_of_lt_of_le hs.1 (Nat.le_of_lt_succ hm)) hF hs.2 hP hD hS hl
          · have hF := hF.trans (if_neg c_29)
            have hs := hs.2 c_29
            refine lv_aload_n hx hb d_M_othersLose_32 rfl (lv_at hl 1 rfl) ?_
            refine va_get (D := D) (ci := 3) (v := .ref g.1.2.2.2.2.2.2.2.2.2.2) (C := R_M) (T := T_M) (N := 20) hx hb htb i_M hown hK hP 0 rfl rfl 17 (by decide) (htb _ k_M_42) (fun _ h9 => h9) rfl d_M_othersLose_33 ?_
            refine lv_bipush (v := 7) hx hb d_M_othersLose_36 (by decide) ?_
            refine lv_iload_n hx hb d_M_othersLose_38 rfl (lv_at hl 4 rfl) ?_
            refine lv_imul hx hb d_M_othersLose_39 ?_
            refine lv_iconst (v := 5) hx hb d_M_othersLose_40 (by decide) ?_
            refine lv_iadd hx hb d_M_othersLose_41 ?_
            refine lv_dup2_11 hx hb d_M_othersLose_42 rfl rfl ?_
            refine va_iald hx hb hK hP 10 0 rfl rfl hs.1 d_M_othersLose_43 ?_
            have hs := hs.2
            refine lv_iconst (v := 1) hx hb d_M_othersLose_44 (by decide) ?_
            refine lv_iadd hx hb d_M_othersLose_45 ?_
            refine va_iast hx hb hK hP hD hS 10 0 rfl rfl hs.1 d_M_othersLose_46 (fun H locs hP hD hS => ?_)
            have hs := hs.2
            have hP : va_P D vwCl (wM cI cZ g (z.1, z.2.1, z.2.2.1, z.2.2.2.1, (upd z.2.2.2.2 (((7 : Int32) * v3) + (5 : Int32)).toNatClampNeg ((z.2.2.2.2 (((7 : Int32) * v3) + (5 : Int32)).toNatClampNeg) + (1 : Int32))))) H := hP
            have hD : va_D _ (wM cI cZ g (z.1, z.2.1, z.2.2.1, z.2.2.2.1, (upd z.2.2.2.2 (((7 : Int32) * v3) + (5 : Int32)).toNatClampNeg ((z.2.2.2.2 (((7 : Int32) * v3) + (5 : Int32)).toNatClampNeg) + (1 : Int32))))) := hD
            refine lv_aload_n hx hb d_M_othersLose_47 rfl (lv_at hl 1 rfl) ?_
            refine lv_iload_n hx hb d_M_othersLose_48 rfl (lv_at hl 4 rfl) ?_
            refine lv_iload hx hb d_M_othersLose_49 (lv_at hl 0 rfl) ?_
            refine cwv_ (As := [.int v3, .int r_22]) (rest := []) (wldC := fun u => (wM cI cZ g u)) ⟨hx, hb, hml, hown, htb⟩ (c_M_takeOut l D cI cZ g hg (z.1, z.2.1, z.2.2.1, z.2.2.2.1, (upd z.2.2.2.2 (((7 : Int32) * v3) + (5 : Int32)).toNatClampNeg ((z.2.2.2.2 (((7 : Int32) * v3) + (5 : Int32)).toNatClampNeg) + (1 : Int32)))) v3 r_22 hs.1) (cwv (n := 2) htb cd_M_takeOut k_M_82 in_M_takeOut se_M_takeOut ini_M hd_M_takeOut ⟨Nat.le_of_ble_eq_true rfl, Nat.le_of_ble_eq_true rfl⟩) hK hP hD hS [0, 1, 2, 3, 4, 5, 6, 7, 8, 9, 10] [] [0, 1, 2, 3, 4, 5, 6, 7, 8, 9, 10] rfl rfl (by decide) (by decide) rfl (fun _ => rfl) (fun _ => rfl) (ci := 3) rfl rfl rfl hl.1 rfl (Nat.le_of_ble_eq_true rfl) d_M_othersLose_51 ⟨Nat.zero_le _, Nat.zero_le _⟩ (fun u_51 H locs hw_51 hP hD hS => ?_)
            have hP : va_P D vwCl (wM cI cZ g u_51) H := hP
            have hD : va_D _ (wM cI cZ g u_51) := hD
            have hF := hF.trans (bnd_eq hw_51)
            have hs := Eq.mp (bnd_eq hw_51) hs.2
            refine lv_iinc (v := (v3 + 1)) (lv' := [(3, .int (v3 + 1)), (4, .int r_22), (0, .ref g.1.1), (1, .int p0), (2, .int p1)]) hx hb d_M_othersLose_54 hl (k := 4) rfl rfl (by decide) rfl (fun ls hl => ?_)
            refine lv_goto (tgt := 2) hx hb d_M_othersLose_57 (by decide) ?_
            have hl := lv_sub (l' := [(0, .ref g.1.1), (1, .int p0), (2, .int p1), (3, .int (v3 + 1))]) hl [2, 3, 4, 0] rfl
            exact ih (v3 + 1) u_51 _ _ _ (Nat.lt_of_lt_of_le hs.1 (Nat.le_of_lt_succ hm)) hF hs.2 hP hD hS hl
        · have hF := hF.trans (if_pos c_12)
          have hs := hs.1 c_12
          refine lv_iconst (v := -1) hx hb d_M_othersLose_15 (by decide) ?_
          refine lv_goto (tgt := 25) hx hb d_M_othersLose_16 (by decide) ?_
          refine lv_istore (lv' := [(4, .int (-1 : Int32)), (0, .ref g.1.1), (1, .int p0), (2, .int p1), (3, .int v3)]) hx hb d_M_othersLose_25 hl (by decide) rfl (fun ls hl => ?_)
          refine lv_iload hx hb d_M_othersLose_27 (lv_at hl 0 rfl) ?_
          refine lv_if_lt (tgt := 54) hx hb d_M_othersLose_29 (by decide) (fun c_29 => ?_) (fun c_29 => ?_)
          · have hF := hF.trans (if_pos c_29)
            have hs := hs.1 c_29
            refine lv_iinc (v := (v3 + 1)) (lv' := [(3, .int (v3 + 1)), (4, .int (-1 : Int32)), (0, .ref g.1.1), (1, .int p0), (2, .int p1)]) hx hb d_M_othersLose_54 hl (k := 4) rfl rfl (by decide) rfl (fun ls hl => ?_)
            refine lv_goto (tgt := 2) hx hb d_M_othersLose_57 (by decide) ?_
            have hl := lv_sub (l' := [(0, .ref g.1.1), (1, .int p0), (2, .int p1), (3, .int (v3 + 1))]) hl [2, 3, 4, 0] rfl
            exact ih (v3 + 1) z _ _ _ (Nat.lt_of_lt_of_le hs.1 (Nat.le_of_lt_succ hm)) hF hs.2 hP hD hS hl
          · have hF := hF.trans (if_neg c_29)
            have hs := hs.2 c_29
            refine lv_aload_n hx hb d_M_othersLose_32 rfl (lv_at hl 1 rfl) ?_
            refine va_get (D := D) (ci := 3) (v := .ref g.1.2.2.2.2.2.2.2.2.2.2) (C := R_M) (T := T_M) (N := 20) hx hb htb i_M hown hK hP 0 rfl rfl 17 (by decide) (htb _ k_M_42) (fun _ h9 => h9) rfl d_M_othersLose_33 ?_
            refine lv_bipush (v := 7) hx hb d_M_othersLose_36 (by decide) ?_
            refine lv_iload_n hx hb d_M_othersLose_38 rfl (lv_at hl 4 rfl) ?_
            refine lv_imul hx hb d_M_othersLose_39 ?_
            refine lv_iconst (v := 5) hx hb d_M_othersLose_40 (by decide) ?_
            refine lv_iadd hx hb d_M_othersLose_41 ?_
            refine lv_dup2_11 hx hb d_M_othersLose_42 rfl rfl ?_
            refine va_iald hx hb hK hP 10 0 rfl rfl hs.1 d_M_othersLose_43 ?_
            have hs := hs.2
            refine lv_iconst (v := 1) hx hb d_M_othersLose_44 (by decide) ?_
            refine lv_iadd hx hb d_M_othersLose_45 ?_
            refine va_iast hx hb hK hP hD hS 10 0 rfl rfl hs.1 d_M_othersLose_46 (fun H locs hP hD hS => ?_)
            have hs := hs.2
            have hP : va_P D vwCl (wM cI cZ g (z.1, z.2.1, z.2.2.1, z.2.2.2.1, (upd z.2.2.2.2 (((7 : Int32) * v3) + (5 : Int32)).toNatClampNeg ((z.2.2.2.2 (((7 : Int32) * v3) + (5 : Int32)).toNatClampNeg) + (1 : Int32))))) H := hP
            have hD : va_D _ (wM cI cZ g (z.1, z.2.1, z.2.2.1, z.2.2.2.1, (upd z.2.2.2.2 (((7 : Int32) * v3) + (5 : Int32)).toNatClampNeg ((z.2.2.2.2 (((7 : Int32) * v3) + (5 : Int32)).toNatClampNeg) + (1 : Int32))))) := hD
            refine lv_aload_n hx hb d_M_othersLose_47 rfl (lv_at hl 1 rfl) ?_
            refine lv_iload_n hx hb d_M_othersLose_48 rfl (lv_at hl 4 rfl) ?_
            refine lv_iload hx hb d_M_othersLose_49 (lv_at hl 0 rfl) ?_
            refine cwv_ (As := [.int v3, .int (-1 : Int32)]) (rest := []) (wldC := fun u => (wM cI cZ g u)) ⟨hx, hb, hml, hown, htb⟩ (c_M_takeOut l D cI cZ g hg (z.1, z.2.1, z.2.2.1, z.2.2.2.1, (upd z.2.2.2.2 (((7 : Int32) * v3) + (5 : Int32)).toNatClampNeg ((z.2.2.2.2 (((7 : Int32) * v3) + (5 : Int32)).toNatClampNeg) + (1 : Int32)))) v3 (-1 : Int32) hs.1) (cwv (n := 2) htb cd_M_takeOut k_M_82 in_M_takeOut se_M_takeOut ini_M hd_M_takeOut ⟨Nat.le_of_ble_eq_true rfl, Nat.le_of_ble_eq_true rfl⟩) hK hP hD hS [0, 1, 2, 3, 4, 5, 6, 7, 8, 9, 10] [] [0, 1, 2, 3, 4, 5, 6, 7, 8, 9, 10] rfl rfl (by decide) (by decide) rfl (fun _ => rfl) (fun _ => rfl) (ci := 3) rfl rfl rfl hl.1 rfl (Nat.le_of_ble_eq_true rfl) d_M_othersLose_51 ⟨Nat.zero_le _, Nat.zero_le _⟩ (fun u_51 H locs hw_51 hP hD hS => ?_)
            have hP : va_P D vwCl (wM cI cZ g u_51) H := hP
            have hD : va_D _ (wM cI cZ g u_51) := hD
            have hF := hF.trans (bnd_eq hw_51)
            have hs := Eq.mp (bnd_eq hw_51) hs.2
            refine lv_iinc (v := (v3 + 1)) (lv' := [(3, .int (v3 + 1)), (4, .int (-1 : Int32)), (0, .ref g.1.1), (1, .int p0), (2, .int p1)]) hx hb d_M_othersLose_54 hl (k := 4) rfl rfl (by decide) rfl (fun ls hl => ?_)
            refine lv_goto (tgt := 2) hx hb d_M_othersLose_57 (by decide) ?_
            have hl := lv_sub (l' := [(0, .ref g.1.1), (1, .int p0), (2, .int p1), (3, .int (v3 + 1))]) hl [2, 3, 4, 0] rfl
            exact ih (v3 + 1) u_51 _ _ _ (Nat.lt_of_lt_of_le hs.1 (Nat.le_of_lt_succ hm)) hF hs.2 hP hD hS hl
  have hl := lv_entry ([.ref g.1.1, .int p0, .int p1]) (n := 5) (Nat.le_of_ble_eq_true rfl)
  rw [lg_entry_eq]
  generalize (lg_sl ([.ref g.1.1, .int p0, .int p1]) ++ List.replicate (5 - (lg_sl ([.ref g.1.1, .int p0, .int p1])).length) Slot.unset).toArray = ls at hl ⊢
  have hl : lv_has ls 5 [(0, .ref g.1.1), (1, .int p0), (2, .int p1)] := hl
  have hF := M_M_othersLose_eq g x p0 p1
  have hs := Eq.mp (S_M_othersLose_eq g x p0 p1) hs
  refine lv_iconst (v := 0) hx hb d_M_othersLose_0 (by decide) ?_
  refine lv_istore_n (lv' := [(3, .int (0 : Int32)), (0, .ref g.1.1), (1, .int p0), (2, .int p1)]) hx hb d_M_othersLose_1 rfl hl (by decide) rfl (fun ls hl => ?_)
  have hl := lv_sub (l' := [(0, .ref g.1.1), (1, .int p0), (2, .int p1), (3, .int (0 : Int32))]) hl [1, 2, 3, 0] rfl
  exact cut_2 (mu (0 : Int32) g.2.1 + 1) (0 : Int32) x _ _ _ (Nat.lt_succ_self _) hF hs hP hD hS hl

def L_M_handOver_2 (g : GM) (p0 p1 : Int32) : Nat → Int32 → Ms → Ms
  | 0, _, z => z
  | n + 1, v3, z => (if g.2.1 ≤ v3 then z else (if v3 = p0 then (if (-1 : Int32) < 0 then L_M_handOver_2 g p0 p1 n (v3 + 1) z else (if (z.2.1.2.2.1 (-1 : Int32).toNatClampNeg) = 0 then L_M_handOver_2 g p0 p1 n (v3 + 1) z else (bnd (M_M_goDown g ((z.1.1, z.1.2.1, z.1.2.2.1, z.1.2.2.2.1, z.1.2.2.2.2.1, (z.1.2.2.2.2.2 + (1 : Int32))), (z.2.1.1, z.2.1.2.1, (upd z.2.1.2.2.1 (-1 : Int32).toNatClampNeg (vp_nar .boolean (0 : Int32))), z.2.1.2.2.2.1, z.2.1.2.2.2.2), z.2.2.1, z.2.2.2.1, z.2.2.2.2) p1 (z.2.1.2.2.2.1 (-1 : Int32).toNatClampNeg)) (fun u_69 => L_M_handOver_2 g p0 p1 n (v3 + 1) u_69)))) else (bnd (M_M_at g z v3 p1) (fun r_22 => (if r_22 < 0 then L_M_handOver_2 g p0 p1 n (v3 + 1) z else (if (z.2.1.2.2.1 r_22.toNatClampNeg) = 0 then L_M_handOver_2 g p0 p1 n (v3 + 1) z else (bnd (M_M_goDown g ((z.1.1, z.1.2.1, z.1.2.2.1, z.1.2.2.2.1, z.1.2.2.2.2.1, (z.1.2.2.2.2.2 + (1 : Int32))), (z.2.1.1, z.2.1.2.1, (upd z.2.1.2.2.1 r_22.toNatClampNeg (vp_nar .boolean (0 : Int32))), z.2.1.2.2.2.1, z.2.1.2.2.2.2), z.2.2.1, z.2.2.2.1, z.2.2.2.2) p1 (z.2.1.2.2.2.1 r_22.toNatClampNeg)) (fun u_69 => L_M_handOver_2 g p0 p1 n (v3 + 1) u_69))))))))
theorem L_M_handOver_2_eq (g : GM) (p0 p1 : Int32) (n : Nat) (v3 : Int32) (z : Ms) : L_M_handOver_2 g p0 p1 (n + 1) v3 z = (if g.2.1 ≤ v3 then z else (if v3 = p0 then (if (-1 : Int32) < 0 then L_M_handOver_2 g p0 p1 n (v3 + 1) z else (if (z.2.1.2.2.1 (-1 : Int32).toNatClampNeg) = 0 then L_M_handOver_2 g p0 p1 n (v3 + 1) z else (bnd (M_M_goDown g ((z.1.1, z.1.2.1, z.1.2.2.1, z.1.2.2.2.1, z.1.2.2.2.2.1, (z.1.2.2.2.2.2 + (1 : Int32))), (z.2.1.1, z.2.1.2.1, (upd z.2.1.2.2.1 (-1 : Int32).toNatClampNeg (vp_nar .boolean (0 : Int32))), z.2.1.2.2.2.1, z.2.1.2.2.2.2), z.2.2.1, z.2.2.2.1, z.2.2.2.2) p1 (z.2.1.2.2.2.1 (-1 : Int32).toNatClampNeg)) (fun u_69 => L_M_handOver_2 g p0 p1 n (v3 + 1) u_69)))) else (bnd (M_M_at g z v3 p1) (fun r_22 => (if r_22 < 0 then L_M_handOver_2 g p0 p1 n (v3 + 1) z else (if (z.2.1.2.2.1 r_22.toNatClampNeg) = 0 then L_M_handOver_2 g p0 p1 n (v3 + 1) z else (bnd (M_M_goDown g ((z.1.1, z.1.2.1, z.1.2.2.1, z.1.2.2.2.1, z.1.2.2.2.2.1, (z.1.2.2.2.2.2 + (1 : Int32))), (z.2.1.1, z.2.1.2.1, (upd z.2.1.2.2.1 r_22.toNatClampNeg (vp_nar .boolean (0 : Int32))), z.2.1.2.2.2.1, z.2.1.2.2.2.2), z.2.2.1, z.2.2.2.1, z.2.2.2.2) p1 (z.2.1.2.2.2.1 r_22.toNatClampNeg)) (fun u_69 => L_M_handOver_2 g p0 p1 n (v3 + 1) u_69)))))))) := by first | rfl | rw [L_M_handOver_2]
def S_M_handOver_2 (g : GM) (p0 p1 : Int32) : Nat → Int32 → Ms → Prop
  | 0, _, _ => True
  | n + 1, v3, z => ((g.2.1 ≤ v3 → True) ∧ (¬ g.2.1 ≤ v3 → ((v3 = p0 → (((-1 : Int32) < 0 → (mu (v3 + 1) g.2.1 < mu v3 g.2.1 ∧ S_M_handOver_2 g p0 p1 n (v3 + 1) z)) ∧ (¬ (-1 : Int32) < 0 → (vp_in (-1 : Int32) 320 ∧ (((z.2.1.2.2.1 (-1 : Int32).toNatClampNeg) = 0 → (mu (v3 + 1) g.2.1 < mu v3 g.2.1 ∧ S_M_handOver_2 g p0 p1 n (v3 + 1) z)) ∧ (¬ (z.2.1.2.2.1 (-1 : Int32).toNatClampNeg) = 0 → (vp_in (-1 : Int32) 320 ∧ (vp_in (-1 : Int32) 320 ∧ (S_M_goDown g ((z.1.1, z.1.2.1, z.1.2.2.1, z.1.2.2.2.1, z.1.2.2.2.2.1, (z.1.2.2.2.2.2 + (1 : Int32))), (z.2.1.1, z.2.1.2.1, (upd z.2.1.2.2.1 (-1 : Int32).toNatClampNeg (vp_nar .boolean (0 : Int32))), z.2.1.2.2.2.1, z.2.1.2.2.2.2), z.2.2.1, z.2.2.2.1, z.2.2.2.2) p1 (z.2.1.2.2.2.1 (-1 : Int32).toNatClampNeg) ∧ (bnd (M_M_goDown g ((z.1.1, z.1.2.1, z.1.2.2.1, z.1.2.2.2.1, z.1.2.2.2.2.1, (z.1.2.2.2.2.2 + (1 : Int32))), (z.2.1.1, z.2.1.2.1, (upd z.2.1.2.2.1 (-1 : Int32).toNatClampNeg (vp_nar .boolean (0 : Int32))), z.2.1.2.2.2.1, z.2.1.2.2.2.2), z.2.2.1, z.2.2.2.1, z.2.2.2.2) p1 (z.2.1.2.2.2.1 (-1 : Int32).toNatClampNeg)) (fun u_69 => (mu (v3 + 1) g.2.1 < mu v3 g.2.1 ∧ S_M_handOver_2 g p0 p1 n (v3 + 1) u_69)))))))))))) ∧ (¬ v3 = p0 → (S_M_at g z v3 p1 ∧ (bnd (M_M_at g z v3 p1) (fun r_22 => ((r_22 < 0 → (mu (v3 + 1) g.2.1 < mu v3 g.2.1 ∧ S_M_handOver_2 g p0 p1 n (v3 + 1) z)) ∧ (¬ r_22 < 0 → (vp_in r_22 320 ∧ (((z.2.1.2.2.1 r_22.toNatClampNeg) = 0 → (mu (v3 + 1) g.2.1 < mu v3 g.2.1 ∧ S_M_handOver_2 g p0 p1 n (v3 + 1) z)) ∧ (¬ (z.2.1.2.2.1 r_22.toNatClampNeg) = 0 → (vp_in r_22 320 ∧ (vp_in r_22 320 ∧ (S_M_goDown g ((z.1.1, z.1.2.1, z.1.2.2.1, z.1.2.2.2.1, z.1.2.2.2.2.1, (z.1.2.2.2.2.2 + (1 : Int32))), (z.2.1.1, z.2.1.2.1, (upd z.2.1.2.2.1 r_22.toNatClampNeg (vp_nar .boolean (0 : Int32))), z.2.1.2.2.2.1, z.2.1.2.2.2.2), z.2.2.1, z.2.2.2.1, z.2.2.2.2) p1 (z.2.1.2.2.2.1 r_22.toNatClampNeg) ∧ (bnd (M_M_goDown g ((z.1.1, z.1.2.1, z.1.2.2.1, z.1.2.2.2.1, z.1.2.2.2.2.1, (z.1.2.2.2.2.2 + (1 : Int32))), (z.2.1.1, z.2.1.2.1, (upd z.2.1.2.2.1 r_22.toNatClampNeg (vp_nar .boolean (0 : Int32))), z.2.1.2.2.2.1, z.2.1.2.2.2.2), z.2.2.1, z.2.2.2.1, z.2.2.2.2) p1 (z.2.1.2.2.2.1 r_22.toNatClampNeg)) (fun u_69 => (mu (v3 + 1) g.2.1 < mu v3 g.2.1 ∧ S_M_handOver_2 g p0 p1 n (v3 + 1) u_69))))))))))))))))))
theorem S_M_handOver_2_eq (g : GM) (p0 p1 : Int32) (n : Nat) (v3 : Int32) (z : Ms) : S_M_handOver_2 g p0 p1 (n + 1) v3 z = ((g.2.1 ≤ v3 → True) ∧ (¬ g.2.1 ≤ v3 → ((v3 = p0 → (((-1 : Int32) < 0 → (mu (v3 + 1) g.2.1 < mu v3 g.2.1 ∧ S_M_handOver_2 g p0 p1 n (v3 + 1) z)) ∧ (¬ (-1 : Int32) < 0 → (vp_in (-1 : Int32) 320 ∧ (((z.2.1.2.2.1 (-1 : Int32).toNatClampNeg) = 0 → (mu (v3 + 1) g.2.1 < mu v3 g.2.1 ∧ S_M_handOver_2 g p0 p1 n (v3 + 1) z)) ∧ (¬ (z.2.1.2.2.1 (-1 : Int32).toNatClampNeg) = 0 → (vp_in (-1 : Int32) 320 ∧ (vp_in (-1 : Int32) 320 ∧ (S_M_goDown g ((z.1.1, z.1.2.1, z.1.2.2.1, z.1.2.2.2.1, z.1.2.2.2.2.1, (z.1.2.2.2.2.2 + (1 : Int32))), (z.2.1.1, z.2.1.2.1, (upd z.2.1.2.2.1 (-1 : Int32).toNatClampNeg (vp_nar .boolean (0 : Int32))), z.2.1.2.2.2.1, z.2.1.2.2.2.2), z.2.2.1, z.2.2.2.1, z.2.2.2.2) p1 (z.2.1.2.2.2.1 (-1 : Int32).toNatClampNeg) ∧ (bnd (M_M_goDown g ((z.1.1, z.1.2.1, z.1.2.2.1, z.1.2.2.2.1, z.1.2.2.2.2.1, (z.1.2.2.2.2.2 + (1 : Int32))), (z.2.1.1, z.2.1.2.1, (upd z.2.1.2.2.1 (-1 : Int32).toNatClampNeg (vp_nar .boolean (0 : Int32))), z.2.1.2.2.2.1, z.2.1.2.2.2.2), z.2.2.1, z.2.2.2.1, z.2.2.2.2) p1 (z.2.1.2.2.2.1 (-1 : Int32).toNatClampNeg)) (fun u_69 => (mu (v3 + 1) g.2.1 < mu v3 g.2.1 ∧ S_M_handOver_2 g p0 p1 n (v3 + 1) u_69)))))))))))) ∧ (¬ v3 = p0 → (S_M_at g z v3 p1 ∧ (bnd (M_M_at g z v3 p1) (fun r_22 => ((r_22 < 0 → (mu (v3 + 1) g.2.1 < mu v3 g.2.1 ∧ S_M_handOver_2 g p0 p1 n (v3 + 1) z)) ∧ (¬ r_22 < 0 → (vp_in r_22 320 ∧ (((z.2.1.2.2.1 r_22.toNatClampNeg) = 0 → (mu (v3 + 1) g.2.1 < mu v3 g.2.1 ∧ S_M_handOver_2 g p0 p1 n (v3 + 1) z)) ∧ (¬ (z.2.1.2.2.1 r_22.toNatClampNeg) = 0 → (vp_in r_22 320 ∧ (vp_in r_22 320 ∧ (S_M_goDown g ((z.1.1, z.1.2.1, z.1.2.2.1, z.1.2.2.2.1, z.1.2.2.2.2.1, (z.1.2.2.2.2.2 + (1 : Int32))), (z.2.1.1, z.2.1.2.1, (upd z.2.1.2.2.1 r_22.toNatClampNeg (vp_nar .boolean (0 : Int32))), z.2.1.2.2.2.1, z.2.1.2.2.2.2), z.2.2.1, z.2.2.2.1, z.2.2.2.2) p1 (z.2.1.2.2.2.1 r_22.toNatClampNeg) ∧ (bnd (M_M_goDown g ((z.1.1, z.1.2.1, z.1.2.2.1, z.1.2.2.2.1, z.1.2.2.2.2.1, (z.1.2.2.2.2.2 + (1 : Int32))), (z.2.1.1, z.2.1.2.1, (upd z.2.1.2.2.1 r_22.toNatClampNeg (vp_nar .boolean (0 : Int32))), z.2.1.2.2.2.1, z.2.1.2.2.2.2), z.2.2.1, z.2.2.2.1, z.2.2.2.2) p1 (z.2.1.2.2.2.1 r_22.toNatClampNeg)) (fun u_69 => (mu (v3 + 1) g.2.1 < mu v3 g.2.1 ∧ S_M_handOver_2 g p0 p1 n (v3 + 1) u_69)))))))))))))))))) := by first | rfl | rw [S_M_handOver_2]
def M_M_handOver (g : GM) (x : Ms) (p0 p1 : Int32) : Ms := L_M_handOver_2 g p0 p1 (mu (0 : Int32) g.2.1 + 1) (0 : Int32) x
theorem M_M_handOver_eq (g : GM) (x : Ms) (p0 p1 : Int32) : M_M_handOver g x p0 p1 = L_M_handOver_2 g p0 p1 (mu (0 : Int32) g.2.1 + 1) (0 : Int32) x := rfl
def S_M_handOver (g : GM) (x : Ms) (p0 p1 : Int32) : Prop := S_M_handOver_2 g p0 p1 (mu (0 : Int32) g.2.1 + 1) (0 : Int32) x
theorem S_M_handOver_eq (g : GM) (x : Ms) (p0 p1 : Int32) : S_M_handOver g x p0 p1 = S_M_handOver_2 g p0 p1 (mu (0 : Int32) g.2.1 + 1) (0 : Int32) x := rfl
abbrev w_M_handOver : List Cond := .code y_M_handOver b_M_handOver 5 none :: tbW
abbrev rm_M_handOver : Room := { frames := 4, cells := 0, slots := 0, locals := 89 }
set_option maxHeartbeats 4000000 in
set_option maxRecDepth 100000 in
theorem c_M_handOver (l : Launch) (D : va_G) (cI cZ : ClassId) (g : GM) (hg : okM g) (x : Ms) (p0 p1 : Int32) (hs : S_M_handOver g x p0 p1) : Met l y_M_handOver w_M_handOver rm_M_handOver (PcW D vwCl (tyK cI cZ) [.ref g.1.1, .int p0, .int p1] (wM cI cZ g x)) (va_Qv (fun (u : Ms) => u = M_M_handOver g x p0 p1) (fun (u : Ms) (t : State) => va_P D vwCl (wM cI cZ g u) t.heap) (Aw (wM cI cZ g x))) 0 0 (Aw (wM cI cZ g x)) := by
  refine Met.ofW (cc := b_M_handOver) (maxL := 5) (ret := none) (by decide) rfl ?_
  intro p e s m args below meth c s₁ B hml hv
  obtain ⟨rfl, hP, hK, hD0⟩ := hv
  have hx := B.exec
  have hb := B.bytes
  have hr := B.returns
  have htb : ∀ w ∈ tbW, w.before _ s = true := fun w h => atoms_spec (ws := w_M_handOver) B.pre w (List.mem_cons_of_mem _ h)
  have hown : s.vm.findClass R_M = some m.cls := findClass_of_methodNamed B.named
  have hlocks := B.notSynchronized
  have hD : va_D (Aw (wM cI cZ g x)) (wM cI cZ g x) := ⟨hD0.1, fun k q hk => ⟨k, q.2, hk⟩⟩
  have hS : va_S (Aw (wM cI cZ g x)) s.heap s.heap [] := va_S.rf
  have cut_2 : ∀ (n : Nat) (v3 : Int32) (z : Ms) (H : Heap) (locs : List Loc) (ls : Array Slot), mu v3 g.2.1 < n → M_M_handOver g x p0 p1 = L_M_handOver_2 g p0 p1 n v3 z → S_M_handOver_2 g p0 p1 n v3 z → va_P D vwCl (wM cI cZ g z) H → va_D (Aw (wM cI cZ g x)) (wM cI cZ g z) → va_S (Aw (wM cI cZ g x)) s.heap H locs → lv_has ls 5 [(0, .ref g.1.1), (1, .int p0), (2, .int p1), (3, .int v3)] → W p l e (headSpec w_M_handOver rm_M_handOver).room s m ([.ref g.1.1, .int p0, .int p1] : List Value).toArray below meth c H locs 0 0 (MQ below (va_Qv (fun (u : Ms) => u = M_M_handOver g x p0 p1) (fun (u : Ms) (t : State) => va_P D vwCl (wM cI cZ g u) t.heap) (Aw (wM cI cZ g x))) ([.ref g.1.1, .int p0, .int p1] : List Value).toArray s 0 0 (Aw (wM cI cZ g x))) (F0 m 2 ls []) := by
    intro n
    induction n with
    | zero => intro v3 z H locs ls hm _ _ _ _ _ _; exact absurd hm (Nat.not_lt_zero _)
    | succ n ih =>
      intro v3 z H locs ls hm hF hs hP hD hS hl
      have hF := hF.trans (L_M_handOver_2_eq g p0 p1 n v3 z)
      have hs := Eq.mp (S_M_handOver_2_eq g p0 p1 n v3 z) hs
      refine lv_iload_n hx hb d_M_handOver_2 rfl (lv_at hl 3 rfl) ?_
      refine lv_aload_n hx hb d_M_handOver_3 rfl (lv_at hl 0 rfl) ?_
      refine va_get (D := D) (ci := 3) (v := .int g.2.1) (C := R_M) (T := T_M) (N := 20) hx hb htb i_M hown hK hP 0 rfl rfl 1 (by decide) (htb _ k_M_45) (fun _ h9 => h9) rfl d_M_handOver_4 ?_
      refine lv_icmp_ge (tgt := 78) hx hb d_M_handOver_7 (by decide) (fun c_7 => ?_) (fun c_7 => ?_)
      · have hF := hF.trans (if_pos c_7)
        have hs := hs.1 c_7
        exact W.vret hx hb hr (fun t ht hW => ⟨⟨z, rfl, hF.symm, by dsimp only; rw [ht]; exact hP⟩, hS.F ht⟩) hS.2.2 d_M_handOver_78
      · have hF := hF.trans (if_neg c_7)
        have hs := hs.2 c_7
        refine lv_iload_n hx hb d_M_handOver_10 rfl (lv_at hl 3 rfl) ?_
        refine lv_iload_n hx hb d_M_handOver_11 rfl (lv_at hl 1 rfl) ?_
        refine lv_icmp_ne (tgt := 19) hx hb d_M_handOver_12 (by decide) (fun c_12 => ?_) (fun c_12 => ?_)
        · have hF := hF.trans (if_neg c_12)
          have hs := hs.2 c_12
          refine lv_aload_n hx hb d_M_handOver_19 rfl (lv_at hl 0 rfl) ?_
          refine lv_iload_n hx hb d_M_handOver_20 rfl (lv_at hl 3 rfl) ?_
          refine lv_iload_n hx hb d_M_handOver_21 rfl (lv_at hl 2 rfl) ?_
          refine cpi (As := [.int v3, .int p1]) (rest := []) ⟨hx, hb, hml, hown, htb⟩ (c_M_at l D cI cZ g hg z v3 p1 hs.1) (cwv (n := 2) htb cd_M_at k_M_98 in_M_at se_M_at ini_M hd_M_at ⟨Nat.le_of_ble_eq_true rfl, Nat.le_of_ble_eq_true rfl⟩) hK hP [0, 1, 2, 3, 4, 5, 6, 7, 8, 9, 10] rfl (ci := 3) rfl rfl rfl hl.1 rfl (Nat.le_of_ble_eq_true rfl) d_M_handOver_22 ⟨Nat.zero_le _, Nat.zero_le _⟩ (fun r_22 hw_22 => ?_)
          have hF := hF.trans (bnd_eq hw_22)
          have hs := Eq.mp (bnd_eq hw_22) hs.2
          refine lv_istore (lv' := [(4, .int r_22), (0, .ref g.1.1), (1, .int p0), (2, .int p1), (3, .int v3)]) hx hb d_M_handOver_25 hl (by decide) rfl (fun ls hl => ?_)
          refine lv_iload hx hb d_M_handOver_27 (lv_at hl 0 rfl) ?_
          refine lv_if_lt (tgt := 72) hx hb d_M_handOver_29 (by decide) (fun c_29 => ?_) (fun c_29 => ?_)
          · have hF := hF.trans (if_pos c_29)
            have hs := hs.1 c_29
            refine lv_iinc (v := (v3 + 1)) (lv' := [(3, .int (v3 + 1)), (4, .int r_22), (0, .ref g.1.1), (1, .int p0), (2, .int p1)]) hx hb d_M_handOver_72 hl (k := 4) rfl rfl (by decide) rfl (fun ls hl => ?_)
            refine lv_goto (tgt := 2) hx hb d_M_handOver_75 (by decide) ?_
            have hl := lv_sub (l' := [(0, .ref g.1.1), (1, .int p0), (2, .int p1), (3, .int (v3 + 1))]) hl [2, 3, 4, 0] rfl
            exact ih (v3 + 1) z _ _ _ (Nat.lt_of_lt_of_le hs.1 (Nat.le_of_lt_succ hm)) hF hs.2 hP hD hS hl
          · have hF := hF.trans (if_neg c_29)
            have hs := hs.2 c_29
            refine lv_aload_n hx hb d_M_handOver_32 rfl (lv_at hl 1 rfl) ?_
            refine va_get (D := D) (ci := 3) (v := .ref g.1.2.2.2.1) (C := R_M) (T := T_M) (N := 20) hx hb htb i_M hown hK hP 0 rfl rfl 7 (by decide) (htb _ k_M_16) (fun _ h9 => h9) rfl d_M_handOver_33 ?_
            refine lv_iload hx hb d_M_handOver_36 (lv_at hl 0 rfl) ?_
            refine va_zald hx hb hK hP 3 1 rfl rfl hs.1 d_M_handOver_38 ?_
            have hs := hs.2
            refine lv_if_eq (tgt := 72) hx hb d_M_handOver_39 (by decide) (fun c_39 => ?_) (fun c_39 => ?_)
            · have hF := hF.trans (if_pos c_39)
              have hs := hs.1 c_39
              refine lv_iinc (v := (v3 + 1)) (lv' := [(3, .int (v3 + 1)), (4, .int r_22), (0, .ref g.1.1), (1, .int p0), (2, .int p1)]) hx hb d_M_handOver_72 hl (k := 4) rfl rfl (by decide) rfl (fun ls hl => ?_)
              refine lv_goto (tgt := 2) hx hb d_M_handOver_75 (by decide) ?_
              have hl := lv_sub (l' := [(0, .ref g.1.1), (1, .int p0), (2, .int p1), (3, .int (v3 + 1))]) hl [2, 3, 4, 0] rfl
              exact ih (v3 + 1) z _ _ _ (Nat.lt_of_lt_of_le hs.1 (Nat.le_of_lt_succ hm)) hF hs.2 hP hD hS hl
            · have hF := hF.trans (if_neg c_39)
              have hs := hs.2 c_39
              refine lv_aload_n hx hb d_M_handOver_42 rfl (lv_at hl 1 rfl) ?_
              refine va_get (D := D) (ci := 3) (v := .ref g.1.2.2.2.1) (C := R_M) (T := T_M) (N := 20) hx hb htb i_M hown hK hP 0 rfl rfl 7 (by decide) (htb _ k_M_16) (fun _ h9 => h9) rfl d_M_handOver_43 ?_
              refine lv_iload hx hb d_M_handOver_46 (lv_at hl 0 rfl) ?_
              refine lv_iconst (v := 0) hx hb d_M_handOver_48 (by decide) ?_
              refine va_zast hx hb hK hP hD hS 3 1 rfl rfl hs.1 d_M_handOver_49 (fun H locs hP hD hS => ?_)
              have hs := hs.2
              have hP : va_P D vwCl (wM cI cZ g (z.1, (z.2.1.1, z.2.1.2.1, (upd z.2.1.2.2.1 r_22.toNatClampNeg (vp_nar .boolean (0 : Int32))), z.2.1.2.2.2.1, z.2.1.2.2.2.2), z.2.2.1, z.2.2.2.1, z.2.2.2.2)) H := hP
              have hD : va_D _ (wM cI cZ g (z.1, (z.2.1.1, z.2.1.2.1, (upd z.2.1.2.2.1 r_22.toNatClampNeg (vp_nar .boolean (0 : Int32))), z.2.1.2.2.2.1, z.2.1.2.2.2.2), z.2.2.1, z.2.2.2.1, z.2.2.2.2)) := hD
              refine lv_aload_n hx hb d_M_handOver_50 rfl (lv_at hl 1 rfl) ?_
              refine lv_dup hx hb d_M_handOver_51 rfl ?_
              refine va_get (D := D) (ci := 3) (v := .int z.1.2.2.2.2.2) (C := R_M) (T := T_M) (N := 20) hx hb htb i_M hown hK hP 0 rfl rfl 19 (by decide) (htb _ k_M_130) (fun _ h9 => h9) rfl d_M_handOver_52 ?_
              refine lv_iconst (v := 1) hx hb d_M_handOver_55 (by decide) ?_
              refine lv_iadd hx hb d_M_handOver_56 ?_
              refine va_put (D := D) (ci := 3) (v := .int (z.1.2.2.2.2.2 + (1 : Int32))) (ty := .int) (C := R_M) (T := T_M) (N := 20) hx hb htb i_M ty_M tyo_M nm_M hown hK hP hD hS 0 rfl rfl 19 (by decide) (htb _ k_M_130) (fun _ h9 => h9) rfl (by decide +kernel) rfl rfl (Nat.le_of_ble_eq_true rfl) d_M_handOver_57 (fun H locs hP hD hS => ?_)
              have hP : va_P D vwCl (wM cI cZ g ((z.1.1, z.1.2.1, z.1.2.2.1, z.1.2.2.2.1, z.1.2.2.2.2.1, (z.1.2.2.2.2.2 + (1 : Int32))), (z.2.1.1, z.2.1.2.1, (upd z.2.1.2.2.1 r_22.toNatClampNeg (vp_nar .boolean (0 : Int32))), z.2.1.2.2.2.1, z.2.1.2.2.2.2), z.2.2.1, z.2.2.2.1, z.2.2.2.2)) H := hP
              have hD : va_D _ (wM cI cZ g ((z.1.1, z.1.2.1, z.1.2.2.1, z.1.2.2.2.1, z.1.2.2.2.2.1, (z.1.2.2.2.2.2 + (1 : Int32))), (z.2.1.1, z.2.1.2.1, (upd z.2.1.2.2.1 r_22.toNatClampNeg (vp_nar .boolean (0 : Int32))), z.2.1.2.2.2.1, z.2.1.2.2.2.2), z.2.2.1, z.2.2.2.1, z.2.2.2.2)) := hD
              refine lv_aload_n hx hb d_M_handOver_60 rfl (lv_at hl 1 rfl) ?_
              refine lv_iload_n hx hb d_M_handOver_61 rfl (lv_at hl 3 rfl) ?_
              refine lv_aload_n hx hb d_M_handOver_62 rfl (lv_at hl 1 rfl) ?_
              refine va_get (D := D) (ci := 3) (v := .ref g.1.2.2.2.2.1) (C := R_M) (T := T_M) (N := 20) hx hb htb i_M hown hK hP 0 rfl rfl 8 (by decide) (htb _ k_M_20) (fun _ h9 => h9) rfl d_M_handOver_63 ?_
              refine lv_iload hx hb d_M_handOver_66 (lv_at hl 0 rfl) ?_
              refine va_iald hx hb hK hP 4 0 rfl rfl hs.1 d_M_handOver_68 ?_
              have hs := hs.2
              refine cwv_ (As := [.int p1, .int (z.2.1.2.2.2.1 r_22.toNatClampNeg)]) (rest := []) (wldC := fun u => (wM cI cZ g u)) ⟨hx, hb, hml, hown, htb⟩ (c_M_goDown l D cI cZ g hg ((z.1.1, z.1.2.1, z.1.2.2.1, z.1.2.2.2.1, z.1.2.2.2.2.1, (z.1.2.2.2.2.2 + (1 : Int32))), (z.2.1.1, z.2.1.2.1, (upd z.2.1.2.2.1 r_22.toNatClampNeg (vp_nar .boolean (0 : Int32))), z.2.1.2.2.2.1, z.2.1.2.2.2.2), z.2.2.1, z.2.2.2.1, z.2.2.2.2) p1 (z.2.1.2.2.2.1 r_22.toNatClampNeg) hs.1) (cwv (n := 2) htb cd_M_goDown k_M_127 in_M_goDown se_M_goDown ini_M hd_M_goDown ⟨Nat.le_of_ble_eq_true rfl, Nat.le_of_ble_eq_true rfl⟩) hK hP hD hS [0, 1, 2, 3, 4, 5, 6, 7, 8, 9, 10] [] [0, 1, 2, 3, 4, 5, 6, 7, 8, 9, 10] rfl rfl (by decide) (by decide) rfl (fun _ => rfl) (fun _ => rfl) (ci := 3) rfl rfl rfl hl.1 rfl (Nat.le_of_ble_eq_true rfl) d_M_handOver_69 ⟨Nat.zero_le _, Nat.zero_le _⟩ (fun u_69 H locs hw_69 hP hD hS => ?_)
              have hP : va_P D vwCl (wM cI cZ g u_69) H := hP
              have hD : va_D _ (wM cI cZ g u_69) := hD
              have hF := hF.trans (bnd_eq hw_69)
              have hs := Eq.mp (bnd_eq hw_69) hs.2
              refine lv_iinc (v := (v3 + 1)) (lv' := [(3, .int (v3 + 1)), (4, .int r_22), (0, .ref g.1.1), (1, .int p0), (2, .int p1)]) hx hb d_M_handOver_72 hl (k := 4) rfl rfl (by decide) rfl (fun ls hl => ?_)
              refine lv_goto (tgt := 2) hx hb d_M_handOver_75 (by decide) ?_
              have hl := lv_sub (l' := [(0, .ref g.1.1), (1, .int p0), (2, .int p1), (3, .int (v3 + 1))]) hl [2, 3, 4, 0] rfl
              exact ih (v3 + 1) u_69 _ _ _ (Nat.lt_of_lt_of_le hs.1 (Nat.le_of_lt_succ hm)) hF hs.2 hP hD hS hl
        · have hF := hF.trans (if_pos c_12)
          have hs := hs.1 c_12
          refine lv_iconst (v := -1) hx hb d_M_handOver_15 (by decide) ?_
          refine lv_goto (tgt := 25) hx hb d_M_handOver_16 (by decide) ?_
          refine lv_istore (lv' := [(4, .int (-1 : Int32)), (0, .ref g.1.1), (1, .int p0), (2, .int p1), (3, .int v3)]) hx hb d_M_handOver_25 hl (by decide) rfl (fun ls hl => ?_)
          refine lv_iload hx hb d_M_handOver_27 (lv_at hl 0 rfl) ?_
          refine lv_if_lt (tgt := 72) hx hb d_M_handOver_29 (by decide) (fun c_29 => ?_) (fun c_29 => ?_)
          · have hF := hF.trans (if_pos c_29)
            have hs := hs.1 c_29
            refine lv_iinc (v := (v3 + 1)) (lv' := [(3, .int (v3 + 1)), (4, .int (-1 : Int32)), (0, .ref g.1.1), (1, .int p0), (2, .int p1)]) hx hb d_M_handOver_72 hl (k := 4) rfl rfl (by decide) rfl (fun ls hl => ?_)
            refine lv_goto (tgt := 2) hx hb d_M_handOver_75 (by decide) ?_
            have hl := lv_sub (l' := [(0, .ref g.1.1), (1, .int p0), (2, .int p1), (3, .int (v3 + 1))]) hl [2, 3, 4, 0] rfl
            exact ih (v3 + 1) z _ _ _ (Nat.lt_of_lt_of_le hs.1 (Nat.le_of_lt_succ hm)) hF hs.2 hP hD hS hl
          · have hF := hF.trans (if_neg c_29)
            have hs := hs.2 c_29
            refine lv_aload_n hx hb d_M_handOver_32 rfl (lv_at hl 1 rfl) ?_
            refine va_get (D := D) (ci := 3) (v := .ref g.1.2.2.2.1) (C := R_M) (T := T_M) (N := 20) hx hb htb i_M hown hK hP 0 rfl rfl 7 (by decide) (htb _ k_M_16) (fun _ h9 => h9) rfl d_M_handOver_33 ?_
            refine lv_iload hx hb d_M_handOver_36 (lv_at hl 0 rfl) ?_
            refine va_zald hx hb hK hP 3 1 rfl rfl hs.1 d_M_handOver_38 ?_
            have hs := hs.2
            refine lv_if_eq (tgt := 72) hx hb d_M_handOver_39 (by decide) (fun c_39 => ?_) (fun c_39 => ?_)
            · have hF := hF.trans (if_pos c_39)
              have hs := hs.1 c_39
              refine lv_iinc (v := (v3 + 1)) (lv' := [(3, .int (v3 + 1)), (4, .int (-1 : Int32)), (0, .ref g.1.1), (1, .int p0), (2, .int p1)]) hx hb d_M_handOver_72 hl (k := 4) rfl rfl (by decide) rfl (fun ls hl => ?_)
              refine lv_goto (tgt := 2) hx hb d_M_handOver_75 (by decide) ?_
              have hl := lv_sub (l' := [(0, .ref g.1.1), (1, .int p0), (2, .int p1), (3, .int (v3 + 1))]) hl [2, 3, 4, 0] rfl
              exact ih (v3 + 1) z _ _ _ (Nat.lt_of_lt_of_le hs.1 (Nat.le_of_lt_succ hm)) hF hs.2 hP hD hS hl
            · have hF := hF.trans (if_neg c_39)
              have hs := hs.2 c_39
              refine lv_aload_n hx hb d_M_handOver_42 rfl (lv_at hl 1 rfl) ?_
              refine va_get (D := D) (ci := 3) (v := .ref g.1.2.2.2.1) (C := R_M) (T := T_M) (N := 20) hx hb htb i_M hown hK hP 0 rfl rfl 7 (by decide) (htb _ k_M_16) (fun _ h9 => h9) rfl d_M_handOver_43 ?_
              refine lv_iload hx hb d_M_handOver_46 (lv_at hl 0 rfl) ?_
              refine lv_iconst (v := 0) hx hb d_M_handOver_48 (by decide) ?_
              refine va_zast hx hb hK hP hD hS 3 1 rfl rfl hs.1 d_M_handOver_49 (fun H locs hP hD hS => ?_)
              have hs := hs.2
              have hP : va_P D vwCl (wM cI cZ g (z.1, (z.2.1.1, z.2.1.2.1, (upd z.2.1.2.2.1 (-1 : Int32).toNatClampNeg (vp_nar .boolean (0 : Int32))), z.2.1.2.2.2.1, z.2.1.2.2.2.2), z.2.2.1, z.2.2.2.1, z.2.2.2.2)) H := hP
              have hD : va_D _ (wM cI cZ g (z.1, (z.2.1.1, z.2.1.2.1, (upd z.2.1.2.2.1 (-1 : Int32).toNatClampNeg (vp_nar .boolean (0 : Int32))), z.2.1.2.2.2.1, z.2.1.2.2.2.2), z.2.2.1, z.2.2.2.1, z.2.2.2.2)) := hD
              refine lv_aload_n hx hb d_M_handOver_50 rfl (lv_at hl 1 rfl) ?_
              refine lv_dup hx hb d_M_handOver_51 rfl ?_
              refine va_get (D := D) (ci := 3) (v := .int z.1.2.2.2.2.2) (C := R_M) (T := T_M) (N := 20) hx hb htb i_M hown hK hP 0 rfl rfl 19 (by decide) (htb _ k_M_130) (fun _ h9 => h9) rfl d_M_handOver_52 ?_
              refine lv_iconst (v := 1) hx hb d_M_handOver_55 (by decide) ?_
              refine lv_iadd hx hb d_M_handOver_56 ?_
              refine va_put (D := D) (ci := 3) (v := .int (z.1.2.2.2.2.2 + (1 : Int32))) (ty := .int) (C := R_M) (T := T_M) (N := 20) hx hb htb i_M ty_M tyo_M nm_M hown hK hP hD hS 0 rfl rfl 19 (by decide) (htb _ k_M_130) (fun _ h9 => h9) rfl (by decide +kernel) rfl rfl (Nat.le_of_ble_eq_true rfl) d_M_handOver_57 (fun H locs hP hD hS => ?_)
              have hP : va_P D vwCl (wM cI cZ g ((z.1.1, z.1.2.1, z.1.2.2.1, z.1.2.2.2.1, z.1.2.2.2.2.1, (z.1.2.2.2.2.2 + (1 : Int32))), (z.2.1.1, z.2.1.2.1, (upd z.2.1.2.2.1 (-1 : Int32).toNatClampNeg (vp_nar .boolean (0 : Int32))), z.2.1.2.2.2.1, z.2.1.2.2.2.2), z.2.2.1, z.2.2.2.1, z.2.2.2.2)) H := hP
              have hD : va_D _ (wM cI cZ g ((z.1.1, z.1.2.1, z.1.2.2.1, z.1.2.2.2.1, z.1.2.2.2.2.1, (z.1.2.2.2.2.2 + (1 : Int32))), (z.2.1.1, z.2.1.2.1, (upd z.2.1.2.2.1 (-1 : Int32).toNatClampNeg (vp_nar .boolean (0 : Int32))), z.2.1.2.2.2.1, z.2.1.2.2.2.2), z.2.2.1, z.2.2.2.1, z.2.2.2.2)) := hD
              refine lv_aload_n hx hb d_M_handOver_60 rfl (lv_at hl 1 rfl) ?_
              refine lv_iload_n hx hb d_M_handOver_61 rfl (lv_at hl 3 rfl) ?_
              refine lv_aload_n hx hb d_M_handOver_62 rfl (lv_at hl 1 rfl) ?_
              refine va_get (D := D) (ci := 3) (v := .ref g.1.2.2.2.2.1) (C := R_M) (T := T_M) (N := 20) hx hb htb i_M hown hK hP 0 rfl rfl 8 (by decide) (htb _ k_M_20) (fun _ h9 => h9) rfl d_M_handOver_63 ?_
              refine lv_iload hx hb d_M_handOver_66 (lv_at hl 0 rfl) ?_
              refine va_iald hx hb hK hP 4 0 rfl rfl hs.1 d_M_handOver_68 ?_
              have hs := hs.2
              refine cwv_ (As := [.int p1, .int (z.2.1.2.2.2.1 (-1 : Int32).toNatClampNeg)]) (rest := []) (wldC := fun u => (wM cI cZ g u)) ⟨hx, hb, hml, hown, htb⟩ (c_M_goDown l D cI cZ g hg ((z.1.1, z.1.2.1, z.1.2.2.1, z.1.2.2.2.1, z.1.2.2.2.2.1, (z.1.2.2.2.2.2 + (1 : Int32))), (z.2.1.1, z.2.1.2.1, (upd z.2.1.2.2.1 (-1 : Int32).toNatClampNeg (vp_nar .boolean (0 : Int32))), z.2.1.2.2.2.1, z.2.1.2.2.2.2), z.2.2.1, z.2.2.2.1, z.2.2.2.2) p1 (z.2.1.2.2.2.1 (-1 : Int32).toNatClampNeg) hs.1) (cwv (n := 2) htb cd_M_goDown k_M_127 in_M_goDown se_M_goDown ini_M hd_M_goDown ⟨Nat.le_of_ble_eq_true rfl, Nat.le_of_ble_eq_true rfl⟩) hK hP hD hS [0, 1, 2, 3, 4, 5, 6, 7, 8, 9, 10] [] [0, 1, 2, 3, 4, 5, 6, 7, 8, 9, 10] rfl rfl (by decide) (by decide) rfl (fun _ => rfl) (fun _ => rfl) (ci := 3) rfl rfl rfl hl.1 rfl (Nat.le_of_ble_eq_true rfl) d_M_handOver_69 ⟨Nat.zero_le _, Nat.zero_le _⟩ (fun u_69 H locs hw_69 hP hD hS => ?_)
              have hP : va_P D vwCl (wM cI cZ g u_69) H := hP
              have hD : va_D _ (wM cI cZ g u_69) := hD
              have hF := hF.trans (bnd_eq hw_69)
              have hs := Eq.mp (bnd_eq hw_69) hs.2
              refine lv_iinc (v := (v3 + 1)) (lv' := [(3, .int (v3 + 1)), (4, .int (-1 : Int32)), (0, .ref g.1.1), (1, .int p0), (2, .int p1)]) hx hb d_M_handOver_72 hl (k := 4) rfl rfl (by decide) rfl (fun ls hl => ?_)
              refine lv_goto (tgt := 2) hx hb d_M_handOver_75 (by decide) ?_
              have hl := lv_sub (l' := [(0, .ref g.1.1), (1, .int p0), (2, .int p1), (3, .int (v3 + 1))]) hl [2, 3, 4, 0] rfl
              exact ih (v3 + 1) u_69 _ _ _ (Nat.lt_of_lt_of_le hs.1 (Nat.le_of_lt_succ hm)) hF hs.2 hP hD hS hl
  have hl := lv_entry ([.ref g.1.1, .int p0, .int p1]) (n := 5) (Nat.le_of_ble_eq_true rfl)
  rw [lg_entry_eq]
  generalize (lg_sl ([.ref g.1.1, .int p0, .int p1]) ++ List.replicate (5 - (lg_sl ([.ref g.1.1, .int p0, .int p1])).length) Slot.unset).toArray = ls at hl ⊢
  have hl : lv_has ls 5 [(0, .ref g.1.1), (1, .int p0), (2, .int p1)] := hl
  have hF := M_M_handOver_eq g x p0 p1
  have hs := Eq.mp (S_M_handOver_eq g x p0 p1) hs
  refine lv_iconst (v := 0) hx hb d_M_handOver_0 (by decide) ?_
  refine lv_istore_n (lv' := [(3, .int (0 : Int32)), (0, .ref g.1.1), (1, .int p0), (2, .int p1)]) hx hb d_M_handOver_1 rfl hl (by decide) rfl (fun ls hl => ?_)
  have hl := lv_sub (l' := [(0, .ref g.1.1), (1, .int p0), (2, .int p1), (3, .int (0 : Int32))]) hl [1, 2, 3, 0] rfl
  exact cut_2 (mu (0 : Int32) g.2.1 + 1) (0 : Int32) x _ _ _ (Nat.lt_succ_self _) hF hs hP hD hS hl

def M_M_memoryOf (g : GM) (x : Ms) (p0 : Int32) : Int32 := (bnd (M_M_find g x p0) (fun r_2 => (if 0 ≤ r_2 then (x.2.2.2.1.2.2 r_2.toNatClampNeg) else (0 : Int32))))
theorem M_M_memoryOf_eq (g : GM) (x : Ms) (p0 : Int32) : M_M_memoryOf g x p0 = (bnd (M_M_find g x p0) (fun r_2 => (if 0 ≤ r_2 then (x.2.2.2.1.2.2 r_2.toNatClampNeg) else (0 : Int32)))) := rfl
def S_M_memoryOf (g : GM) (x : Ms) (p0 : Int32) : Prop := (S_M_find g x p0 ∧ (bnd (M_M_find g x p0) (fun r_2 => ((0 ≤ r_2 → (vp_in r_2 600 ∧ True)) ∧ (¬ 0 ≤ r_2 → True)))))
theorem S_M_memoryOf_eq (g : GM) (x : Ms) (p0 : Int32) : S_M_memoryOf g x p0 = (S_M_find g x p0 ∧ (bnd (M_M_find g x p0) (fun r_2 => ((0 ≤ r_2 → (vp_in r_2 600 ∧ True)) ∧ (¬ 0 ≤ r_2 → True))))) := rfl
abbrev w_M_memoryOf : List Cond := .code y_M_memoryOf b_M_memoryOf 3 (some .int) :: tbW
abbrev rm_M_memoryOf : Room := { frames := 1, cells := 0, slots := 0, locals := 22 }
set_option maxHeartbeats 4000000 in
set_option maxRecDepth 100000 in
theorem c_M_memoryOf (l : Launch) (D : va_G) (cI cZ : ClassId) (g : GM) (hg : okM g) (x : Ms) (p0 : Int32) (hs : S_M_memoryOf g x p0) : Met l y_M_memoryOf w_M_memoryOf rm_M_memoryOf (PcR D vwCl (tyK cI cZ) [.ref g.1.1, .int p0] (wM cI cZ g x)) (vp_Si (fun r => r = M_M_memoryOf g x p0)) 0 0 (fun _ => False) := by
  refine Met.ofW (cc := b_M_memoryOf) (maxL := 3) (ret := (some .int)) (by decide) rfl ?_
  intro p e s m args below meth c s₁ B hml hv
  obtain ⟨rfl, hP, hK⟩ := hv
  have hx := B.exec
  have hb := B.bytes
  have hr := B.returns
  have htb : ∀ w ∈ tbW, w.before _ s = true := fun w h => atoms_spec (ws := w_M_memoryOf) B.pre w (List.mem_cons_of_mem _ h)
  have hown : s.vm.findClass R_M = some m.cls := findClass_of_methodNamed B.named
  have hlocks := B.notSynchronized
  have hl := lv_entry ([.ref g.1.1, .int p0]) (n := 3) (Nat.le_of_ble_eq_true rfl)
  rw [lg_entry_eq]
  generalize (lg_sl ([.ref g.1.1, .int p0]) ++ List.replicate (3 - (lg_sl ([.ref g.1.1, .int p0])).length) Slot.unset).toArray = ls at hl ⊢
  have hl : lv_has ls 3 [(0, .ref g.1.1), (1, .int p0)] := hl
  have hF := M_M_memoryOf_eq g x p0
  have hs := Eq.mp (S_M_memoryOf_eq g x p0) hs
  refine lv_aload_n hx hb d_M_memoryOf_0 rfl (lv_at hl 0 rfl) ?_
  refine lv_iload_n hx hb d_M_memoryOf_1 rfl (lv_at hl 1 rfl) ?_
  refine cpi (As := [.int p0]) (rest := []) ⟨hx, hb, hml, hown, htb⟩ (c_M_find l D cI cZ g hg x p0 hs.1) (cwv (n := 1) htb cd_M_find k_M_71 in_M_find se_M_find ini_M hd_M_find ⟨Nat.le_of_ble_eq_true rfl, Nat.le_of_ble_eq_true rfl⟩) hK hP [0, 1, 2, 3, 4, 5, 6, 7, 8, 9, 10] rfl (ci := 3) rfl rfl rfl hl.1 rfl (Nat.le_of_ble_eq_true rfl) d_M_memoryOf_2 ⟨Nat.zero_le _, Nat.zero_le _⟩ (fun r_2 hw_2 => ?_)
  have hF := hF.trans (bnd_eq hw_2)
  have hs := Eq.mp (bnd_eq hw_2) hs.2
  refine lv_istore_n (lv' := [(2, .int r_2), (0, .ref g.1.1), (1, .int p0)]) hx hb d_M_memoryOf_5 rfl hl (by decide) rfl (fun ls hl => ?_)
  refine lv_iload_n hx hb d_M_memoryOf_6 rfl (lv_at hl 0 rfl) ?_
  refine lv_if_ge (tgt := 14) hx hb d_M_memoryOf_7 (by decide) (fun c_7 => ?_) (fun c_7 => ?_)
  · have hF := hF.trans (if_pos c_7)
    have hs := hs.1 c_7
    refine lv_aload_n hx hb d_M_memoryOf_14 rfl (lv_at hl 1 rfl) ?_
    refine va_get (D := D) (ci := 3) (v := .ref g.1.2.2.2.2.2.2.2.2.2.1) (C := R_M) (T := T_M) (N := 20) hx hb htb i_M hown hK hP 0 rfl rfl 16 (by decide) (htb _ k_M_39) (fun _ h9 => h9) rfl d_M_memoryOf_15 ?_
    refine lv_iload_n hx hb d_M_memoryOf_18 rfl (lv_at hl 0 rfl) ?_
    refine va_iald hx hb hK hP 9 0 rfl rfl hs.1 d_M_memoryOf_19 ?_
    have hs := hs.2
    exact W.iret (v := (x.2.2.2.1.2.2 r_2.toNatClampNeg)) hx hb hr (fun t ht hW => ⟨_, rfl, hF.symm, ht⟩) (fun q h => by cases h) d_M_memoryOf_20
  · have hF := hF.trans (if_neg c_7)
    have hs := hs.2 c_7
    refine lv_iconst (v := 0) hx hb d_M_memoryOf_10 (by decide) ?_
    refine lv_goto (tgt := 20) hx hb d_M_memoryOf_11 (by decide) ?_
    exact W.iret (v := (0 : Int32)) hx hb hr (fun t ht hW => ⟨_, rfl, hF.symm, ht⟩) (fun q h => by cases h) d_M_memoryOf_20
