set_option maxHeartbeats 8000000 in
set_option maxRecDepth 100000 in
theorem op_count {p : Program} {l : Launch} {e : Env} {s : State} {m : MethodId} {below : List Frame} {meth : Method} {c : Code} {b L : Nat} {xs : Nat → Int32} {D : va_G} {cI cZ cL : ClassId} {g : GC} {gm : GM} {ao n q cells slots : Nat} {Q : State → Prop} (C : LwC p l s m c b L xs D cI cZ cL g) (hq : q + 4 ≤ L) (hn : n < 512) {x : Cs} {y : Ms} {f : Fl} {H : Heap} {locs : List Loc} {ls : Array Slot} (hI : INV n g gm x y) (hs : LwS D cI cZ cL g gm ao s b q x y f H locs ls) (hf : cells + 1 ≤ room_1.cells ∧ slots + 6 ≤ room_1.slots)
    (kk : ∀ (x : Cs) (y : Ms) (f : Fl) (H : Heap) (locs : List Loc) (ls : Array Slot), INV (n + 1) g gm x y → LwS D cI cZ cL g gm ao s b q x y f H locs ls → W p l e room_1 s m #[Value.ref b] below meth c H locs (cells + 1) (slots + 6) Q (F0 m 722 ls [])) : W p l e room_1 s m #[Value.ref b] below meth c H locs cells slots Q (F0 m 697 ls []) := by
  obtain ⟨hx, hb, hml, hown, htb, hX, hbl, hK, hT, hNc, hlt, hL, hg⟩ := C
  obtain ⟨hP, hD, hS, hl⟩ := hs
  have hbA : ¬ LA s b := Nat.not_le.mpr hbl
  have hK2 := hK.sub [0, 1] (tys' := tyK cI cZ) rfl
  have hf0 : cells ≤ room_1.cells ∧ slots ≤ room_1.slots := ⟨Nat.le_trans (Nat.le_succ _) hf.1, Nat.le_trans (Nat.le_add_right _ 6) hf.2⟩
  have i1 : vp_in (nI q + 1) L := idx_in (k := 1) (by decide) (by omega) hL
  obtain ⟨a1, e1⟩ : ∃ a, xs (nI q + 1).toNatClampNeg = a := ⟨_, rfl⟩
  obtain ⟨sM, zv, zI⟩ := I_count hI a1
  refine lv_aload_n hx hb d_L_law_697 rfl (lv_at hl 3 rfl) ?_
  refine lv_aload_n hx hb d_L_law_698 rfl (lv_at hl 4 rfl) ?_
  refine lv_iload hx hb d_L_law_699 (lv_at hl 0 rfl) ?_
  refine lv_iconst (v := 1) hx hb d_L_law_701 (by decide) ?_
  refine lv_iadd hx hb d_L_law_702 ?_
  refine va_sld hx hb hX hbl hbA hS i1 d_L_law_703 ?_
  refine lv_ren e1 ?_
  refine cpi (As := [.int a1]) (rest := []) ⟨hx, hb, hml, hown, htb⟩ (c_C_count l D cI cZ g hg x a1) (cwv (n := 1) htb cd_C_count k_L_91 in_C_count se_C_count ini_C hd_C_count ⟨Nat.le_of_ble_eq_true rfl, Nat.le_of_ble_eq_true rfl⟩) hK2 hP jC jC_C (ci := 2) rfl rfl rfl hl.1 rfl (Nat.le_of_ble_eq_true rfl) d_L_law_704 hf0 (fun v hv1 => ?_)
  refine lv_aload_n hx hb d_L_law_707 rfl (lv_at hl 2 rfl) ?_
  refine lv_aload_n hx hb d_L_law_708 rfl (lv_at hl 4 rfl) ?_
  refine lv_iload hx hb d_L_law_709 (lv_at hl 0 rfl) ?_
  refine lv_iconst (v := 1) hx hb d_L_law_711 (by decide) ?_
  refine lv_iadd hx hb d_L_law_712 ?_
  refine va_sld hx hb hX hbl hbA hS i1 d_L_law_713 ?_
  refine lv_ren e1 ?_
  refine cwi (As := [.int a1]) (rest := [.int v]) (wldC := fun u => (wL cI cZ cL g gm x u ao f)) ⟨hx, hb, hml, hown, htb⟩ (c_M_count l D cI cZ gm trivial y a1 sM) (cwv (n := 1) htb cd_M_count k_L_94 in_M_count se_M_count ini_M hd_M_count ⟨Nat.le_of_ble_eq_true rfl, Nat.le_of_ble_eq_true rfl⟩) hK2 hP hD hS jM jMr jMp jM_C jM_C2 jM_nd jM_dis jM_R jM_P jM_A (ci := 3) rfl rfl rfl hl.1 rfl (Nat.le_of_ble_eq_true rfl) d_L_law_714 hf0 (fun r u H locs hw hP hD hS => ?_)
  have hr1 : r = (M_M_count gm y a1).1 := congrArg Prod.fst hw
  have hu1 : u = (M_M_count gm y a1).2 := congrArg Prod.snd hw
  refine lv_icmp_eq (tgt := 722) hx hb d_L_law_717 (by decide) (fun _ => ?_) (fun c9 => absurd (by rw [hv1, hr1]; exact zv) c9)
  refine W.widen (k := cells + 1) (n := slots + 6) (Nat.le_succ _) (Nat.le_add_right _ 6) ?_
  exact kk x u f H locs ls (by rw [hu1]; exact INV_le (by omega) zI) ⟨hP, hD, hS, lv_sub hl [0, 1, 2, 3, 4] rfl⟩
