def L_V_indexOf_2 (g : GV) (x : Vs) (p0 : Int32) : Nat → Int32 → Int32
  | 0, _ => 0
  | n + 1, v2 => (if (nI x.2.1.val) ≤ v2 then (-1 : Int32) else (if (nI g.2.1) ≤ v2 then (-1 : Int32) else (if (x.2.2.1 v2.toNatClampNeg) = p0 then v2 else L_V_indexOf_2 g x p0 n (v2 + 1))))
theorem L_V_indexOf_2_eq (g : GV) (x : Vs) (p0 : Int32) (n : Nat) (v2 : Int32) : L_V_indexOf_2 g x p0 (n + 1) v2 = (if (nI x.2.1.val) ≤ v2 then (-1 : Int32) else (if (nI g.2.1) ≤ v2 then (-1 : Int32) else (if (x.2.2.1 v2.toNatClampNeg) = p0 then v2 else L_V_indexOf_2 g x p0 n (v2 + 1)))) := by first | rfl | rw [L_V_indexOf_2]
def M_V_indexOf (g : GV) (x : Vs) (p0 : Int32) : Int32 := L_V_indexOf_2 g x p0 (mu (0 : Int32) (nI x.2.1.val) + 1) (0 : Int32)
theorem M_V_indexOf_eq (g : GV) (x : Vs) (p0 : Int32) : M_V_indexOf g x p0 = L_V_indexOf_2 g x p0 (mu (0 : Int32) (nI x.2.1.val) + 1) (0 : Int32) := rfl
abbrev w_V_indexOf : List Cond := .code y_V_indexOf b_V_indexOf 3 (some .int) :: tbW
abbrev rm_V_indexOf : Room := { frames := 0, cells := 0, slots := 0, locals := 0 }
set_option maxHeartbeats 4000000 in
set_option maxRecDepth 100000 in
theorem c_V_indexOf (l : Launch) (D : va_G) (cI cZ : ClassId) (g : GV) (hg : okV g) (x : Vs) (p0 : Int32) : Met l y_V_indexOf w_V_indexOf rm_V_indexOf (PcR D vwCl (tyK cI cZ) [.ref g.1.1, .int p0] (wV cI cZ g x)) (vp_Si (fun r => r = M_V_indexOf g x p0)) 0 0 (fun _ => False) := by
  refine Met.ofW (cc := b_V_indexOf) (maxL := 3) (ret := (some .int)) (by decide) rfl ?_
  intro p e s m args below meth c s₁ B hml hv
  obtain ⟨rfl, hP, hK⟩ := hv
  have hx := B.exec
  have hb := B.bytes
  have hr := B.returns
  have htb : ∀ w ∈ tbW, w.before _ s = true := fun w h => atoms_spec (ws := w_V_indexOf) B.pre w (List.mem_cons_of_mem _ h)
  have hown : s.vm.findClass R_V = some m.cls := findClass_of_methodNamed B.named
  have hlocks := B.notSynchronized
  have cut_2 : ∀ (n : Nat) (v2 : Int32) (ls : Array Slot), mu v2 (nI x.2.1.val) < n → ¬ v2 < 0 → M_V_indexOf g x p0 = L_V_indexOf_2 g x p0 n v2 → lv_has ls 3 [(0, .ref g.1.1), (1, .int p0), (2, .int v2)] → W p l e (headSpec w_V_indexOf rm_V_indexOf).room s m ([.ref g.1.1, .int p0] : List Value).toArray below meth c s.heap [] 0 0 (MQ below (vp_Si (fun r => r = M_V_indexOf g x p0)) ([.ref g.1.1, .int p0] : List Value).toArray s 0 0 (fun _ => False)) (F0 m 2 ls []) := by
    intro n
    induction n with
    | zero => intro v2 ls hm _ _ _; exact absurd hm (Nat.not_lt_zero _)
    | succ n ih =>
      intro v2 ls hm h0 hF hl
      have hF := hF.trans (L_V_indexOf_2_eq g x p0 n v2)
      refine lv_iload_n hx hb d_V_indexOf_2 rfl (lv_at hl 2 rfl) ?_
      refine lv_aload_n hx hb d_V_indexOf_3 rfl (lv_at hl 0 rfl) ?_
      refine va_get (D := D) (ci := 1) (v := .int (nI x.2.1.val)) (C := R_V) (T := T_V) (N := 5) hx hb htb i_V hown hK hP 0 rfl rfl 1 (by decide) (htb _ k_V_29) (fun _ h9 => h9) rfl d_V_indexOf_4 ?_
      refine lv_icmp_ge (tgt := 37) hx hb d_V_indexOf_7 (by decide) (fun c_7 => ?_) (fun c_7 => ?_)
      · have hF := hF.trans (if_pos c_7)
        refine lv_iconst (v := -1) hx hb d_V_indexOf_37 (by decide) ?_
        exact W.iret (v := (-1 : Int32)) hx hb hr (fun t ht hW => ⟨_, rfl, hF.symm, ht⟩) (fun q h => by cases h) d_V_indexOf_38
      · have hF := hF.trans (if_neg c_7)
        refine lv_iload_n hx hb d_V_indexOf_10 rfl (lv_at hl 2 rfl) ?_
        refine lv_aload_n hx hb d_V_indexOf_11 rfl (lv_at hl 0 rfl) ?_
        refine va_get (D := D) (ci := 1) (v := .ref g.1.2.1) (C := R_V) (T := T_V) (N := 5) hx hb htb i_V hown hK hP 0 rfl rfl 2 (by decide) (htb _ k_V_11) (fun _ h9 => h9) rfl d_V_indexOf_12 ?_
        refine va_alen hx hb hK hP 1 0 rfl rfl (v := nI g.2.1) rfl d_V_indexOf_15 ?_
        refine lv_icmp_ge (tgt := 37) hx hb d_V_indexOf_16 (by decide) (fun c_16 => ?_) (fun c_16 => ?_)
        · have hF := hF.trans (if_pos c_16)
          refine lv_iconst (v := -1) hx hb d_V_indexOf_37 (by decide) ?_
          exact W.iret (v := (-1 : Int32)) hx hb hr (fun t ht hW => ⟨_, rfl, hF.symm, ht⟩) (fun q h => by cases h) d_V_indexOf_38
        · have hF := hF.trans (if_neg c_16)
          refine lv_aload_n hx hb d_V_indexOf_19 rfl (lv_at hl 0 rfl) ?_
          refine va_get (D := D) (ci := 1) (v := .ref g.1.2.1) (C := R_V) (T := T_V) (N := 5) hx hb htb i_V hown hK hP 0 rfl rfl 2 (by decide) (htb _ k_V_11) (fun _ h9 => h9) rfl d_V_indexOf_20 ?_
          refine lv_iload_n hx hb d_V_indexOf_23 rfl (lv_at hl 2 rfl) ?_
          refine va_iald hx hb hK hP 1 0 rfl rfl (in_ok hg.1 h0 c_16) d_V_indexOf_24 ?_
          refine lv_iload_n hx hb d_V_indexOf_25 rfl (lv_at hl 1 rfl) ?_
          refine lv_icmp_ne (tgt := 31) hx hb d_V_indexOf_26 (by decide) (fun c_26 => ?_) (fun c_26 => ?_)
          · have hF := hF.trans (if_neg c_26)
            refine lv_iinc (v := (v2 + 1)) (lv' := [(2, .int (v2 + 1)), (0, .ref g.1.1), (1, .int p0)]) hx hb d_V_indexOf_31 hl (k := 2) rfl rfl (by decide) rfl (fun ls hl => ?_)
            refine lv_goto (tgt := 2) hx hb d_V_indexOf_34 (by decide) ?_
            have hl := lv_sub (l' := [(0, .ref g.1.1), (1, .int p0), (2, .int (v2 + 1))]) hl [1, 2, 0] rfl
            exact ih (v2 + 1) _ (Nat.lt_of_lt_of_le (mu_dec c_7) (Nat.le_of_lt_succ hm)) (up_nn h0 c_16) hF hl
          · have hF := hF.trans (if_pos c_26)
            refine lv_iload_n hx hb d_V_indexOf_29 rfl (lv_at hl 2 rfl) ?_
            exact W.iret (v := v2) hx hb hr (fun t ht hW => ⟨_, rfl, hF.symm, ht⟩) (fun q h => by cases h) d_V_indexOf_30
  have hl := lv_entry ([.ref g.1.1, .int p0]) (n := 3) (Nat.le_of_ble_eq_true rfl)
  rw [lg_entry_eq]
  generalize (lg_sl ([.ref g.1.1, .int p0]) ++ List.replicate (3 - (lg_sl ([.ref g.1.1, .int p0])).length) Slot.unset).toArray = ls at hl ⊢
  have hl : lv_has ls 3 [(0, .ref g.1.1), (1, .int p0)] := hl
  have hF := M_V_indexOf_eq g x p0
  refine lv_iconst (v := 0) hx hb d_V_indexOf_0 (by decide) ?_
  refine lv_istore_n (lv' := [(2, .int (0 : Int32)), (0, .ref g.1.1), (1, .int p0)]) hx hb d_V_indexOf_1 rfl hl (by decide) rfl (fun ls hl => ?_)
  have hl := lv_sub (l' := [(0, .ref g.1.1), (1, .int p0), (2, .int (0 : Int32))]) hl [1, 2, 0] rfl
  exact cut_2 (mu (0 : Int32) (nI x.2.1.val) + 1) (0 : Int32) _ (Nat.lt_succ_self _) (by decide) hF hl

def M_V_inMemory (g : GV) (x : Vs) (p0 : Int32) : Int32 := (bnd (M_V_indexOf g x p0) (fun r_2 => (if r_2 < 0 then (0 : Int32) else (if (nI g.2.2.2) ≤ r_2 then (0 : Int32) else (x.2.2.2.2 r_2.toNatClampNeg)))))
theorem M_V_inMemory_eq (g : GV) (x : Vs) (p0 : Int32) : M_V_inMemory g x p0 = (bnd (M_V_indexOf g x p0) (fun r_2 => (if r_2 < 0 then (0 : Int32) else (if (nI g.2.2.2) ≤ r_2 then (0 : Int32) else (x.2.2.2.2 r_2.toNatClampNeg))))) := rfl
abbrev w_V_inMemory : List Cond := .code y_V_inMemory b_V_inMemory 3 (some .int) :: tbW
abbrev rm_V_inMemory : Room := { frames := 1, cells := 0, slots := 0, locals := 22 }
set_option maxHeartbeats 4000000 in
set_option maxRecDepth 100000 in
theorem c_V_inMemory (l : Launch) (D : va_G) (cI cZ : ClassId) (g : GV) (hg : okV g) (x : Vs) (p0 : Int32) : Met l y_V_inMemory w_V_inMemory rm_V_inMemory (PcR D vwCl (tyK cI cZ) [.ref g.1.1, .int p0] (wV cI cZ g x)) (vp_Si (fun r => r = M_V_inMemory g x p0)) 0 0 (fun _ => False) := by
  refine Met.ofW (cc := b_V_inMemory) (maxL := 3) (ret := (some .int)) (by decide) rfl ?_
  intro p e s m args below meth c s₁ B hml hv
  obtain ⟨rfl, hP, hK⟩ := hv
  have hx := B.exec
  have hb := B.bytes
  have hr := B.returns
  have htb : ∀ w ∈ tbW, w.before _ s = true := fun w h => atoms_spec (ws := w_V_inMemory) B.pre w (List.mem_cons_of_mem _ h)
  have hown : s.vm.findClass R_V = some m.cls := findClass_of_methodNamed B.named
  have hlocks := B.notSynchronized
  have hl := lv_entry ([.ref g.1.1, .int p0]) (n := 3) (Nat.le_of_ble_eq_true rfl)
  rw [lg_entry_eq]
  generalize (lg_sl ([.ref g.1.1, .int p0]) ++ List.replicate (3 - (lg_sl ([.ref g.1.1, .int p0])).length) Slot.unset).toArray = ls at hl ⊢
  have hl : lv_has ls 3 [(0, .ref g.1.1), (1, .int p0)] := hl
  have hF := M_V_inMemory_eq g x p0
  refine lv_aload_n hx hb d_V_inMemory_0 rfl (lv_at hl 0 rfl) ?_
  refine lv_iload_n hx hb d_V_inMemory_1 rfl (lv_at hl 1 rfl) ?_
  refine cpi (As := [.int p0]) (rest := []) ⟨hx, hb, hml, hown, htb⟩ (c_V_indexOf l D cI cZ g hg x p0) (cwv (n := 1) htb cd_V_indexOf k_V_21 in_V_indexOf se_V_indexOf ini_V hd_V_indexOf ⟨Nat.le_of_ble_eq_true rfl, Nat.le_of_ble_eq_true rfl⟩) hK hP [0, 1, 2, 3] rfl (ci := 1) rfl rfl rfl hl.1 rfl (Nat.le_of_ble_eq_true rfl) d_V_inMemory_2 ⟨Nat.zero_le _, Nat.zero_le _⟩ (fun r_2 hw_2 => ?_)
  have hF := hF.trans (bnd_eq hw_2)
  refine lv_istore_n (lv' := [(2, .int r_2), (0, .ref g.1.1), (1, .int p0)]) hx hb d_V_inMemory_5 rfl hl (by decide) rfl (fun ls hl => ?_)
  refine lv_iload_n hx hb d_V_inMemory_6 rfl (lv_at hl 0 rfl) ?_
  refine lv_if_lt (tgt := 28) hx hb d_V_inMemory_7 (by decide) (fun c_7 => ?_) (fun c_7 => ?_)
  · have hF := hF.trans (if_pos c_7)
    refine lv_iconst (v := 0) hx hb d_V_inMemory_28 (by decide) ?_
    exact W.iret (v := (0 : Int32)) hx hb hr (fun t ht hW => ⟨_, rfl, hF.symm, ht⟩) (fun q h => by cases h) d_V_inMemory_29
  · have hF := hF.trans (if_neg c_7)
    refine lv_iload_n hx hb d_V_inMemory_10 rfl (lv_at hl 0 rfl) ?_
    refine lv_aload_n hx hb d_V_inMemory_11 rfl (lv_at hl 1 rfl) ?_
    refine va_get (D := D) (ci := 1) (v := .ref g.1.2.2.2) (C := R_V) (T := T_V) (N := 5) hx hb htb i_V hown hK hP 0 rfl rfl 4 (by decide) (htb _ k_V_18) (fun _ h9 => h9) rfl d_V_inMemory_12 ?_
    refine va_alen hx hb hK hP 3 0 rfl rfl (v := nI g.2.2.2) rfl d_V_inMemory_15 ?_
    refine lv_icmp_ge (tgt := 28) hx hb d_V_inMemory_16 (by decide) (fun c_16 => ?_) (fun c_16 => ?_)
    · have hF := hF.trans (if_pos c_16)
      refine lv_iconst (v := 0) hx hb d_V_inMemory_28 (by decide) ?_
      exact W.iret (v := (0 : Int32)) hx hb hr (fun t ht hW => ⟨_, rfl, hF.symm, ht⟩) (fun q h => by cases h) d_V_inMemory_29
    · have hF := hF.trans (if_neg c_16)
      refine lv_aload_n hx hb d_V_inMemory_19 rfl (lv_at hl 1 rfl) ?_
      refine va_get (D := D) (ci := 1) (v := .ref g.1.2.2.2) (C := R_V) (T := T_V) (N := 5) hx hb htb i_V hown hK hP 0 rfl rfl 4 (by decide) (htb _ k_V_18) (fun _ h9 => h9) rfl d_V_inMemory_20 ?_
      refine lv_iload_n hx hb d_V_inMemory_23 rfl (lv_at hl 0 rfl) ?_
      refine va_iald hx hb hK hP 3 0 rfl rfl (in_ok hg.2.2.1 c_7 c_16) d_V_inMemory_24 ?_
      refine lv_goto (tgt := 29) hx hb d_V_inMemory_25 (by decide) ?_
      exact W.iret (v := (x.2.2.2.2 r_2.toNatClampNeg)) hx hb hr (fun t ht hW => ⟨_, rfl, hF.symm, ht⟩) (fun q h => by cases h) d_V_inMemory_29

def M_V_writeBack (g : GV) (x : Vs) (p0 p1 : Int32) : Vs := (bnd (M_V_indexOf g ((x.1 + (1 : Int32)), x.2.1, x.2.2.1, x.2.2.2.1, x.2.2.2.2) p0) (fun r_12 => (if r_12 < 0 then ((x.1 + (1 : Int32)), x.2.1, x.2.2.1, x.2.2.2.1, x.2.2.2.2) else (if (nI g.2.2.2) ≤ r_12 then ((x.1 + (1 : Int32)), x.2.1, x.2.2.1, x.2.2.2.1, x.2.2.2.2) else ((x.1 + (1 : Int32)), x.2.1, x.2.2.1, x.2.2.2.1, (upd x.2.2.2.2 r_12.toNatClampNeg p1))))))
theorem M_V_writeBack_eq (g : GV) (x : Vs) (p0 p1 : Int32) : M_V_writeBack g x p0 p1 = (bnd (M_V_indexOf g ((x.1 + (1 : Int32)), x.2.1, x.2.2.1, x.2.2.2.1, x.2.2.2.2) p0) (fun r_12 => (if r_12 < 0 then ((x.1 + (1 : Int32)), x.2.1, x.2.2.1, x.2.2.2.1, x.2.2.2.2) else (if (nI g.2.2.2) ≤ r_12 then ((x.1 + (1 : Int32)), x.2.1, x.2.2.1, x.2.2.2.1, x.2.2.2.2) else ((x.1 + (1 : Int32)), x.2.1, x.2.2.1, x.2.2.2.1, (upd x.2.2.2.2 r_12.toNatClampNeg p1)))))) := rfl
abbrev w_V_writeBack : List Cond := .code y_V_writeBack b_V_writeBack 4 none :: tbW
abbrev rm_V_writeBack : Room := { frames := 1, cells := 0, slots := 0, locals := 22 }
set_option maxHeartbeats 4000000 in
set_option maxRecDepth 100000 in
theorem c_V_writeBack (l : Launch) (D : va_G) (cI cZ : ClassId) (g : GV) (hg : okV g) (x : Vs) (p0 p1 : Int32) : Met l y_V_writeBack w_V_writeBack rm_V_writeBack (PcW D vwCl (tyK cI cZ) [.ref g.1.1, .int p0, .int p1] (wV cI cZ g x)) (va_Qv (fun (u : Vs) => u = M_V_writeBack g x p0 p1) (fun (u : Vs) (t : State) => va_P D vwCl (wV cI cZ g u) t.heap) (Aw (wV cI cZ g x))) 0 0 (Aw (wV cI cZ g x)) := by
  refine Met.ofW (cc := b_V_writeBack) (maxL := 4) (ret := none) (by decide) rfl ?_
  intro p e s m args below meth c s₁ B hml hv
  obtain ⟨rfl, hP, hK, hD0⟩ := hv
  have hx := B.exec
  have hb := B.bytes
  have hr := B.returns
  have htb : ∀ w ∈ tbW, w.before _ s = true := fun w h => atoms_spec (ws := w_V_writeBack) B.pre w (List.mem_cons_of_mem _ h)
  have hown : s.vm.findClass R_V = some m.cls := findClass_of_methodNamed B.named
  have hlocks := B.notSynchronized
  have hD : va_D (Aw (wV cI cZ g x)) (wV cI cZ g x) := ⟨hD0.1, fun k q hk => ⟨k, q.2, hk⟩⟩
  have hS : va_S (Aw (wV cI cZ g x)) s.heap s.heap [] := va_S.rf
  have hl := lv_entry ([.ref g.1.1, .int p0, .int p1]) (n := 4) (Nat.le_of_ble_eq_true rfl)
  rw [lg_entry_eq]
  generalize (lg_sl ([.ref g.1.1, .int p0, .int p1]) ++ List.replicate (4 - (lg_sl ([.ref g.1.1, .int p0, .int p1])).length) Slot.unset).toArray = ls at hl ⊢
  have hl : lv_has ls 4 [(0, .ref g.1.1), (1, .int p0), (2, .int p1)] := hl
  have hF := M_V_writeBack_eq g x p0 p1
  refine lv_aload_n hx hb d_V_writeBack_0 rfl (lv_at hl 0 rfl) ?_
  refine lv_dup hx hb d_V_writeBack_1 rfl ?_
  refine va_get (D := D) (ci := 1) (v := .int x.1) (C := R_V) (T := T_V) (N := 5) hx hb htb i_V hown hK hP 0 rfl rfl 0 (by decide) (htb _ k_V_25) (fun _ h9 => h9) rfl d_V_writeBack_2 ?_
  refine lv_iconst (v := 1) hx hb d_V_writeBack_5 (by decide) ?_
  refine lv_iadd hx hb d_V_writeBack_6 ?_
  refine va_put (D := D) (ci := 1) (v := .int (x.1 + (1 : Int32))) (ty := .int) (C := R_V) (T := T_V) (N := 5) hx hb htb i_V ty_V tyo_V nm_V hown hK hP hD hS 0 rfl rfl 0 (by decide) (htb _ k_V_25) (fun _ h9 => h9) rfl (by decide +kernel) rfl rfl (Nat.le_of_ble_eq_true rfl) d_V_writeBack_7 (fun H locs hP hD hS => ?_)
  have hP : va_P D vwCl (wV cI cZ g ((x.1 + (1 : Int32)), x.2.1, x.2.2.1, x.2.2.2.1, x.2.2.2.2)) H := hP
  have hD : va_D _ (wV cI cZ g ((x.1 + (1 : Int32)), x.2.1, x.2.2.1, x.2.2.2.1, x.2.2.2.2)) := hD
  refine lv_aload_n hx hb d_V_writeBack_10 rfl (lv_at hl 0 rfl) ?_
  refine lv_iload_n hx hb d_V_writeBack_11 rfl (lv_at hl 1 rfl) ?_
  refine cpi (As := [.int p0]) (rest := []) ⟨hx, hb, hml, hown, htb⟩ (c_V_indexOf l D cI cZ g hg ((x.1 + (1 : Int32)), x.2.1, x.2.2.1, x.2.2.2.1, x.2.2.2.2) p0) (cwv (n := 1) htb cd_V_indexOf k_V_21 in_V_indexOf se_V_indexOf ini_V hd_V_indexOf ⟨Nat.le_of_ble_eq_true rfl, Nat.le_of_ble_eq_true rfl⟩) hK hP [0, 1, 2, 3] rfl (ci := 1) rfl rfl rfl hl.1 rfl (Nat.le_of_ble_eq_true rfl) d_V_writeBack_12 ⟨Nat.zero_le _, Nat.zero_le _⟩ (fun r_12 hw_12 => ?_)
  have hF := hF.trans (bnd_eq hw_12)
  refine lv_istore_n (lv' := [(3, .int r_12), (0, .ref g.1.1), (1, .int p0), (2, .int p1)]) hx hb d_V_writeBack_15 rfl hl (by decide) rfl (fun ls hl => ?_)
  refine lv_iload_n hx hb d_V_writeBack_16 rfl (lv_at hl 0 rfl) ?_
  refine lv_if_lt (tgt := 36) hx hb d_V_writeBack_17 (by decide) (fun c_17 => ?_) (fun c_17 => ?_)
  · have hF := hF.trans (if_pos c_17)
    exact W.vret hx hb hr (fun t ht hW => ⟨⟨((x.1 + (1 : Int32)), x.2.1, x.2.2.1, x.2.2.2.1, x.2.2.2.2), rfl, hF.symm, by dsimp only; rw [ht]; exact hP⟩, hS.F ht⟩) hS.2.2 d_V_writeBack_36
  · have hF := hF.trans (if_neg c_17)
    refine lv_iload_n hx hb d_V_writeBack_20 rfl (lv_at hl 0 rfl) ?_
    refine lv_aload_n hx hb d_V_writeBack_21 rfl (lv_at hl 1 rfl) ?_
    refine va_get (D := D) (ci := 1) (v := .ref g.1.2.2.2) (C := R_V) (T := T_V) (N := 5) hx hb htb i_V hown hK hP 0 rfl rfl 4 (by decide) (htb _ k_V_18) (fun _ h9 => h9) rfl d_V_writeBack_22 ?_
    refine va_alen hx hb hK hP 3 0 rfl rfl (v := nI g.2.2.2) rfl d_V_writeBack_25 ?_
    refine lv_icmp_ge (tgt := 36) hx hb d_V_writeBack_26 (by decide) (fun c_26 => ?_) (fun c_26 => ?_)
    · have hF := hF.trans (if_pos c_26)
      exact W.vret hx hb hr (fun t ht hW => ⟨⟨((x.1 + (1 : Int32)), x.2.1, x.2.2.1, x.2.2.2.1, x.2.2.2.2), rfl, hF.symm, by dsimp only; rw [ht]; exact hP⟩, hS.F ht⟩) hS.2.2 d_V_writeBack_36
    · have hF := hF.trans (if_neg c_26)
      refine lv_aload_n hx hb d_V_writeBack_29 rfl (lv_at hl 1 rfl) ?_
      refine va_get (D := D) (ci := 1) (v := .ref g.1.2.2.2) (C := R_V) (T := T_V) (N := 5) hx hb htb i_V hown hK hP 0 rfl rfl 4 (by decide) (htb _ k_V_18) (fun _ h9 => h9) rfl d_V_writeBack_30 ?_
      refine lv_iload_n hx hb d_V_writeBack_33 rfl (lv_at hl 0 rfl) ?_
      refine lv_iload_n hx hb d_V_writeBack_34 rfl (lv_at hl 3 rfl) ?_
      refine va_iast hx hb hK hP hD hS 3 0 rfl rfl (in_ok hg.2.2.1 c_17 c_26) d_V_writeBack_35 (fun H locs hP hD hS => ?_)
      have hP : va_P D vwCl (wV cI cZ g ((x.1 + (1 : Int32)), x.2.1, x.2.2.1, x.2.2.2.1, (upd x.2.2.2.2 r_12.toNatClampNeg p1))) H := hP
      have hD : va_D _ (wV cI cZ g ((x.1 + (1 : Int32)), x.2.1, x.2.2.1, x.2.2.2.1, (upd x.2.2.2.2 r_12.toNatClampNeg p1))) := hD
      exact W.vret hx hb hr (fun t ht hW => ⟨⟨((x.1 + (1 : Int32)), x.2.1, x.2.2.1, x.2.2.2.1, (upd x.2.2.2.2 r_12.toNatClampNeg p1)), rfl, hF.symm, by dsimp only; rw [ht]; exact hP⟩, hS.F ht⟩) hS.2.2 d_V_writeBack_36

def L_V_makeNext_45 (g : GV) (p0 : Int32) (v2 : Int32) (z : Vs) : Int32 × Vs := (if v2 < 0 then ((0 : Int32), z) else (if v2 < (nI g.2.2.1) then (((upd z.2.2.2.1 v2.toNatClampNeg ((z.2.2.2.1 v2.toNatClampNeg) + (1 : Int32))) v2.toNatClampNeg), (z.1, z.2.1, z.2.2.1, (upd z.2.2.2.1 v2.toNatClampNeg ((z.2.2.2.1 v2.toNatClampNeg) + (1 : Int32))), z.2.2.2.2)) else ((0 : Int32), z)))
theorem L_V_makeNext_45_eq (g : GV) (p0 : Int32) (v2 : Int32) (z : Vs) : L_V_makeNext_45 g p0 v2 z = (if v2 < 0 then ((0 : Int32), z) else (if v2 < (nI g.2.2.1) then (((upd z.2.2.2.1 v2.toNatClampNeg ((z.2.2.2.1 v2.toNatClampNeg) + (1 : Int32))) v2.toNatClampNeg), (z.1, z.2.1, z.2.2.1, (upd z.2.2.2.1 v2.toNatClampNeg ((z.2.2.2.1 v2.toNatClampNeg) + (1 : Int32))), z.2.2.2.2)) else ((0 : Int32), z))) := rfl
def M_V_makeNext (g : GV) (x : Vs) (p0 : Int32) : Int32 × Vs := (bnd (M_V_indexOf g x p0) (fun r_2 => (if r_2 = (-1 : Int32) then (if (nI g.2.1) ≤ (nI x.2.1.val) then L_V_makeNext_45 g p0 r_2 x else L_V_makeNext_45 g p0 (nI x.2.1.val) (x.1, (fsucc x.2.1), (upd x.2.2.1 (nI x.2.1.val).toNatClampNeg p0), x.2.2.2.1, x.2.2.2.2)) else L_V_makeNext_45 g p0 r_2 x)))
theorem M_V_makeNext_eq (g : GV) (x : Vs) (p0 : Int32) : M_V_makeNext g x p0 = (bnd (M_V_indexOf g x p0) (fun r_2 => (if r_2 = (-1 : Int32) then (if (nI g.2.1) ≤ (nI x.2.1.val) then L_V_makeNext_45 g p0 r_2 x else L_V_makeNext_45 g p0 (nI x.2.1.val) (x.1, (fsucc x.2.1), (upd x.2.2.1 (nI x.2.1.val).toNatClampNeg p0), x.2.2.2.1, x.2.2.2.2)) else L_V_makeNext_45 g p0 r_2 x))) := rfl
abbrev w_V_makeNext : List Cond := .code y_V_makeNext b_V_makeNext 3 (some .int) :: tbW
abbrev rm_V_makeNext : Room := { frames := 1, cells := 0, slots := 0, locals := 22 }
set_option maxHeartbeats 4000000 in
set_option maxRecDepth 100000 in
theorem c_V_makeNext (l : Launch) (D : va_G) (cI cZ : ClassId) (g : GV) (hg : okV g) (x : Vs) (p0 : Int32) : Met l y_V_makeNext w_V_makeNext rm_V_makeNext (PcW D vwCl (tyK cI cZ) [.ref g.1.1, .int p0] (wV cI cZ g x)) (va_Qi (fun (r : Int32) (u : Vs) => (r, u) = M_V_makeNext g x p0) (fun (u : Vs) (t : State) => va_P D vwCl (wV cI cZ g u) t.heap) (Aw (wV cI cZ g x))) 0 0 (Aw (wV cI cZ g x)) := by
  refine Met.ofW (cc := b_V_makeNext) (maxL := 3) (ret := (some .int)) (by decide) rfl ?_
  intro p e s m args below meth c s₁ B hml hv
  obtain ⟨rfl, hP, hK, hD0⟩ := hv
  have hx := B.exec
  have hb := B.bytes
  have hr := B.returns
  have htb : ∀ w ∈ tbW, w.before _ s = true := fun w h => atoms_spec (ws := w_V_makeNext) B.pre w (List.mem_cons_of_mem _ h)
  have hown : s.vm.findClass R_V = some m.cls := findClass_of_methodNamed B.named
  have hlocks := B.notSynchronized
  have hD : va_D (Aw (wV cI cZ g x)) (wV cI cZ g x) := ⟨hD0.1, fun k q hk => ⟨k, q.2, hk⟩⟩
  have hS : va_S (Aw (wV cI cZ g x)) s.heap s.heap [] := va_S.rf
  have cut_45 : ∀ (v2 : Int32) (z : Vs) (H : Heap) (locs : List Loc) (ls : Array Slot), M_V_makeNext g x p0 = L_V_makeNext_45 g p0 v2 z → va_P D vwCl (wV cI cZ g z) H → va_D (Aw (wV cI cZ g x)) (wV cI cZ g z) → va_S (Aw (wV cI cZ g x)) s.heap H locs → lv_has ls 3 [(0, .ref g.1.1), (1, .int p0), (2, .int v2)] → W p l e (headSpec w_V_makeNext rm_V_makeNext).room s m ([.ref g.1.1, .int p0] : List Value).toArray below meth c H locs 0 0 (MQ below (va_Qi (fun (r : Int32) (u : Vs) => (r, u) = M_V_makeNext g x p0) (fun (u : Vs) (t : State) => va_P D vwCl (wV cI cZ g u) t.heap) (Aw (wV cI cZ g x))) ([.ref g.1.1, .int p0] : List Value).toArray s 0 0 (Aw (wV cI cZ g x))) (F0 m 45 ls []) := by
    intro v2 z H locs ls hF hP hD hS hl
    have hF := hF.trans (L_V_makeNext_45_eq g p0 v2 z)
    refine lv_iload_n hx hb d_V_makeNext_45 rfl (lv_at hl 2 rfl) ?_
    refine lv_if_lt (tgt := 58) hx hb d_V_makeNext_46 (by decide) (fun c_46 => ?_) (fun c_46 => ?_)
    · have hF := hF.trans (if_pos c_46)
      refine lv_iconst (v := 0) hx hb d_V_makeNext_58 (by decide) ?_
      exact W.iret (v := (0 : Int32)) hx hb hr (fun t ht hW => ⟨⟨(0 : Int32), z, rfl, hF.symm, by dsimp only; rw [ht]; exact hP⟩, hS.F ht⟩) hS.2.2 d_V_makeNext_59
    · have hF := hF.trans (if_neg c_46)
      refine lv_iload_n hx hb d_V_makeNext_49 rfl (lv_at hl 2 rfl) ?_
      refine lv_aload_n hx hb d_V_makeNext_50 rfl (lv_at hl 0 rfl) ?_
      refine va_get (D := D) (ci := 1) (v := .ref g.1.2.2.1) (C := R_V) (T := T_V) (N := 5) hx hb htb i_V hown hK hP 0 rfl rfl 3 (by decide) (htb _ k_V_15) (fun _ h9 => h9) rfl d_V_makeNext_51 ?_
      refine va_alen hx hb hK hP 2 0 rfl rfl (v := nI g.2.2.1) rfl d_V_makeNext_54 ?_
      refine lv_icmp_lt (tgt := 60) hx hb d_V_makeNext_55 (by decide) (fun c_55 => ?_) (fun c_55 => ?_)
      · have hF := hF.trans (if_pos c_55)
        refine lv_aload_n hx hb d_V_makeNext_60 rfl (lv_at hl 0 rfl) ?_
        refine va_get (D := D) (ci := 1) (v := .ref g.1.2.2.1) (C := R_V) (T := T_V) (N := 5) hx hb htb i_V hown hK hP 0 rfl rfl 3 (by decide) (htb _ k_V_15) (fun _ h9 => h9) rfl d_V_makeNext_61 ?_
        refine lv_iload_n hx hb d_V_makeNext_64 rfl (lv_at hl 2 rfl) ?_
        refine lv_dup2_11 hx hb d_V_makeNext_65 rfl rfl ?_
        refine va_iald hx hb hK hP 2 0 rfl rfl (in_ok hg.2.1 c_46 (nle_lt c_55)) d_V_makeNext_66 ?_
        refine lv_iconst (v := 1) hx hb d_V_makeNext_67 (by decide) ?_
        refine lv_iadd hx hb d_V_makeNext_68 ?_
        refine va_iast hx hb hK hP hD hS 2 0 rfl rfl (in_ok hg.2.1 c_46 (nle_lt c_55)) d_V_makeNext_69 (fun H locs hP hD hS => ?_)
        have hP : va_P D vwCl (wV cI cZ g (z.1, z.2.1, z.2.2.1, (upd z.2.2.2.1 v2.toNatClampNeg ((z.2.2.2.1 v2.toNatClampNeg) + (1 : Int32))), z.2.2.2.2)) H := hP
        have hD : va_D _ (wV cI cZ g (z.1, z.2.1, z.2.2.1, (upd z.2.2.2.1 v2.toNatClampNeg ((z.2.2.2.1 v2.toNatClampNeg) + (1 : Int32))), z.2.2.2.2)) := hD
        refine lv_aload_n hx hb d_V_makeNext_70 rfl (lv_at hl 0 rfl) ?_
        refine va_get (D := D) (ci := 1) (v := .ref g.1.2.2.1) (C := R_V) (T := T_V) (N := 5) hx hb htb i_V hown hK hP 0 rfl rfl 3 (by decide) (htb _ k_V_15) (fun _ h9 => h9) rfl d_V_makeNext_71 ?_
        refine lv_iload_n hx hb d_V_makeNext_74 rfl (lv_at hl 2 rfl) ?_
        refine va_iald hx hb hK hP 2 0 rfl rfl (in_ok hg.2.1 c_46 (nle_lt c_55)) d_V_makeNext_75 ?_
        exact W.iret (v := ((upd z.2.2.2.1 v2.toNatClampNeg ((z.2.2.2.1 v2.toNatClampNeg) + (1 : Int32))) v2.toNatClampNeg)) hx hb hr (fun t ht hW => ⟨⟨((upd z.2.2.2.1 v2.toNatClampNeg ((z.2.2.2.1 v2.toNatClampNeg) + (1 : Int32))) v2.toNatClampNeg), (z.1, z.2.1, z.2.2.1, (upd z.2.2.2.1 v2.toNatClampNeg ((z.2.2.2.1 v2.toNatClampNeg) + (1 : Int32))), z.2.2.2.2), rfl, hF.symm, by dsimp only; rw [ht]; exact hP⟩, hS.F ht⟩) hS.2.2 d_V_makeNext_76
      · have hF := hF.trans (if_neg c_55)
        refine lv_iconst (v := 0) hx hb d_V_makeNext_58 (by decide) ?_
        exact W.iret (v := (0 : Int32)) hx hb hr (fun t ht hW => ⟨⟨(0 : Int32), z, rfl, hF.symm, by dsimp only; rw [ht]; exact hP⟩, hS.F ht⟩) hS.2.2 d_V_makeNext_59
  have hl := lv_entry ([.ref g.1.1, .int p0]) (n := 3) (Nat.le_of_ble_eq_true rfl)
  rw [lg_entry_eq]
  generalize (lg_sl ([.ref g.1.1, .int p0]) ++ List.replicate (3 - (lg_sl ([.ref g.1.1, .int p0])).length) Slot.unset).toArray = ls at hl ⊢
  have hl : lv_has ls 3 [(0, .ref g.1.1), (1, .int p0)] := hl
  have hF := M_V_makeNext_eq g x p0
  refine lv_aload_n hx hb d_V_makeNext_0 rfl (lv_at hl 0 rfl) ?_
  refine lv_iload_n hx hb d_V_makeNext_1 rfl (lv_at hl 1 rfl) ?_
  refine cpi (As := [.int p0]) (rest := []) ⟨hx, hb, hml, hown, htb⟩ (c_V_indexOf l D cI cZ g hg x p0) (cwv (n := 1) htb cd_V_indexOf k_V_21 in_V_indexOf se_V_indexOf ini_V hd_V_indexOf ⟨Nat.le_of_ble_eq_true rfl, Nat.le_of_ble_eq_true rfl⟩) hK hP [0, 1, 2, 3] rfl (ci := 1) rfl rfl rfl hl.1 rfl (Nat.le_of_ble_eq_true rfl) d_V_makeNext_2 ⟨Nat.zero_le _, Nat.zero_le _⟩ (fun r_2 hw_2 => ?_)
  have hF := hF.trans (bnd_eq hw_2)
  refine lv_istore_n (lv' := [(2, .int r_2), (0, .ref g.1.1), (1, .int p0)]) hx hb d_V_makeNext_5 rfl hl (by decide) rfl (fun ls hl => ?_)
  refine lv_iload_n hx hb d_V_makeNext_6 rfl (lv_at hl 0 rfl) ?_
  refine lv_iconst (v := -1) hx hb d_V_makeNext_7 (by decide) ?_
  refine lv_icmp_ne (tgt := 45) hx hb d_V_makeNext_8 (by decide) (fun c_8 => ?_) (fun c_8 => ?_)
  · have hF := hF.trans (if_neg c_8)
    have hl := lv_sub (l' := [(0, .ref g.1.1), (1, .int p0), (2, .int r_2)]) hl [1, 2, 0] rfl
    exact cut_45 r_2 x _ _ _ hF hP hD hS hl
  · have hF := hF.trans (if_pos c_8)
    refine lv_aload_n hx hb d_V_makeNext_11 rfl (lv_at hl 1 rfl) ?_
    refine va_get (D := D) (ci := 1) (v := .int (nI x.2.1.val)) (C := R_V) (T := T_V) (N := 5) hx hb htb i_V hown hK hP 0 rfl rfl 1 (by decide) (htb _ k_V_29) (fun _ h9 => h9) rfl d_V_makeNext_12 ?_
    refine lv_aload_n hx hb d_V_makeNext_15 rfl (lv_at hl 1 rfl) ?_
    refine va_get (D := D) (ci := 1) (v := .ref g.1.2.1) (C := R_V) (T := T_V) (N := 5) hx hb htb i_V hown hK hP 0 rfl rfl 2 (by decide) (htb _ k_V_11) (fun _ h9 => h9) rfl d_V_makeNext_16 ?_
    refine va_alen hx hb hK hP 1 0 rfl rfl (v := nI g.2.1) rfl d_V_makeNext_19 ?_
    refine lv_icmp_ge (tgt := 45) hx hb d_V_makeNext_20 (by decide) (fun c_20 => ?_) (fun c_20 => ?_)
    · have hF := hF.trans (if_pos c_20)
      have hl := lv_sub (l' := [(0, .ref g.1.1), (1, .int p0), (2, .int r_2)]) hl [1, 2, 0] rfl
      exact cut_45 r_2 x _ _ _ hF hP hD hS hl
    · have hF := hF.trans (if_neg c_20)
      refine lv_aload_n hx hb d_V_makeNext_23 rfl (lv_at hl 1 rfl) ?_
      refine va_get (D := D) (ci := 1) (v := .int (nI x.2.1.val)) (C := R_V) (T := T_V) (N := 5) hx hb htb i_V hown hK hP 0 rfl rfl 1 (by decide) (htb _ k_V_29) (fun _ h9 => h9) rfl d_V_makeNext_24 ?_
      refine lv_istore_n (lv' := [(2, .int (nI x.2.1.val)), (0, .ref g.1.1), (1, .int p0)]) hx hb d_V_makeNext_27 rfl hl (by decide) rfl (fun ls hl => ?_)
      refine lv_aload_n hx hb d_V_makeNext_28 rfl (lv_at hl 1 rfl) ?_
      refine va_get (D := D) (ci := 1) (v := .ref g.1.2.1) (C := R_V) (T := T_V) (N := 5) hx hb htb i_V hown hK hP 0 rfl rfl 2 (by decide) (htb _ k_V_11) (fun _ h9 => h9) rfl d_V_makeNext_29 ?_
      refine lv_iload_n hx hb d_V_makeNext_32 rfl (lv_at hl 0 rfl) ?_
      refine lv_iload_n hx hb d_V_makeNext_33 rfl (lv_at hl 2 rfl) ?_
      refine va_iast hx hb hK hP hD hS 1 0 rfl rfl (in_ok hg.1 (fin_nn _) c_20) d_V_makeNext_34 (fun H locs hP hD hS => ?_)
      have hP : va_P D vwCl (wV cI cZ g (x.1, x.2.1, (upd x.2.2.1 (nI x.2.1.val).toNatClampNeg p0), x.2.2.2.1, x.2.2.2.2)) H := hP
      have hD : va_D _ (wV cI cZ g (x.1, x.2.1, (upd x.2.2.1 (nI x.2.1.val).toNatClampNeg p0), x.2.2.2.1, x.2.2.2.2)) := hD
      refine lv_aload_n hx hb d_V_makeNext_35 rfl (lv_at hl 1 rfl) ?_
      refine lv_dup hx hb d_V_makeNext_36 rfl ?_
      refine va_get (D := D) (ci := 1) (v := .int (nI x.2.1.val)) (C := R_V) (T := T_V) (N := 5) hx hb htb i_V hown hK hP 0 rfl rfl 1 (by decide) (htb _ k_V_29) (fun _ h9 => h9) rfl d_V_makeNext_37 ?_
      refine lv_iconst (v := 1) hx hb d_V_makeNext_40 (by decide) ?_
      refine lv_iadd hx hb d_V_makeNext_41 ?_
      refine W.eq (g2 := F0 m 42 ls [.int (nI (fsucc x.2.1).val), .ref g.1.1]) (by rw [fsucc_nI (fin_lt hg.2.2.2 c_20)]) ?_
      refine va_put (D := D) (ci := 1) (v := .int (nI (fsucc x.2.1).val)) (ty := .int) (C := R_V) (T := T_V) (N := 5) hx hb htb i_V ty_V tyo_V nm_V hown hK hP hD hS 0 rfl rfl 1 (by decide) (htb _ k_V_29) (fun _ h9 => h9) rfl (by decide +kernel) rfl rfl (Nat.le_of_ble_eq_true rfl) d_V_makeNext_42 (fun H locs hP hD hS => ?_)
      have hP : va_P D vwCl (wV cI cZ g (x.1, (fsucc x.2.1), (upd x.2.2.1 (nI x.2.1.val).toNatClampNeg p0), x.2.2.2.1, x.2.2.2.2)) H := hP
      have hD : va_D _ (wV cI cZ g (x.1, (fsucc x.2.1), (upd x.2.2.1 (nI x.2.1.val).toNatClampNeg p0), x.2.2.2.1, x.2.2.2.2)) := hD
      have hl := lv_sub (l' := [(0, .ref g.1.1), (1, .int p0), (2, .int (nI x.2.1.val))]) hl [1, 2, 0] rfl
      exact cut_45 (nI x.2.1.val) (x.1, (fsucc x.2.1), (upd x.2.2.1 (nI x.2.1.val).toNatClampNeg p0), x.2.2.2.1, x.2.2.2.2) _ _ _ hF hP hD hS hl
