set_option maxHeartbeats 8000000 in
set_option maxRecDepth 100000 in
theorem op_flush {p : Program} {l : Launch} {e : Env} {s : State} {m : MethodId} {below : List Frame} {meth : Method} {c : Code} {b L : Nat} {xs : Nat → Int32} {D : va_G} {cI cZ cL : ClassId} {g : GC} {gm : GM} {ao n q cells slots : Nat} {Q : State → Prop} (C : LwC p l s m c b L xs D cI cZ cL g) (hq : q + 4 ≤ L) (hn : n < 512) {x : Cs} {y : Ms} {f : Fl} {H : Heap} {locs : List Loc} {ls : Array Slot} (hI : INV n g gm x y) (hs : LwS D cI cZ cL g gm ao s b q x y f H locs ls) (hf : cells + 1 ≤ room_1.cells ∧ slots + 6 ≤ room_1.slots)
    (kk : ∀ (x : Cs) (y : Ms) (f : Fl) (H : Heap) (locs : List Loc) (ls : Array Slot), INV (n + 1) g gm x y → LwS D cI cZ cL g gm ao s b q x y f H locs ls → W p l e room_1 s m #[Value.ref b] below meth c H locs (cells + 1) (slots + 6) Q (F0 m 722 ls [])) : W p l e room_1 s m #[Value.ref b] below meth c H locs cells slots Q (F0 m 325 ls []) := by
  obtain ⟨hx, hb, hml, hown, htb, hX, hbl, hK, hT, hNc, hlt, hL, hg⟩ := C
  obtain ⟨hP, hD, hS, hl⟩ := hs
  have hbA : ¬ LA s b := Nat.not_le.mpr hbl
  have hK2 := hK.sub [0, 1] (tys' := tyK cI cZ) rfl
  have hf0 : cells ≤ room_1.cells ∧ slots ≤ room_1.slots := ⟨Nat.le_trans (Nat.le_succ _) hf.1, Nat.le_trans (Nat.le_add_right _ 6) hf.2⟩
  obtain ⟨sM, zv, zI⟩ := I_flush hI
  refine lv_aload_n hx hb d_L_law_325 rfl (lv_at hl 3 rfl) ?_
  refine cwi (As := []) (rest := []) (wldC := fun u => (wL cI cZ cL g gm u y ao f)) ⟨hx, hb, hml, hown, htb⟩ (c_C_flush l D cI cZ g hg x) (cwv (n := 0) htb cd_C_flush k_L_62 in_C_flush se_C_flush ini_C hd_C_flush ⟨Nat.le_of_ble_eq_true rfl, Nat.le_of_ble_eq_true rfl⟩) hK2 hP hD hS jC jCr jCp jC_C jC_C2 jC_nd jC_dis jC_R jC_P jC_A (ci := 2) rfl rfl rfl hl.1 rfl (Nat.le_of_ble_eq_true rfl) d_L_law_326 hf0 (fun v x2 H locs hv hP hD hS => ?_)
  have hv1 : v = (M_C_flush g x).1 := congrArg Prod.fst hv
  have hx1 : x2 = (M_C_flush g x).2 := congrArg Prod.snd hv
  refine lv_aload_n hx hb d_L_law_329 rfl (lv_at hl 2 rfl) ?_
  refine cwi (As := []) (rest := [.int v]) (wldC := fun u => (wL cI cZ cL g gm x2 u ao f)) ⟨hx, hb, hml, hown, htb⟩ (c_M_flush l D cI cZ gm trivial y sM) (cwv (n := 0) htb cd_M_flush k_L_65 in_M_flush se_M_flush ini_M hd_M_flush ⟨Nat.le_of_ble_eq_true rfl, Nat.le_of_ble_eq_true rfl⟩) hK2 hP hD hS jM jMr jMp jM_C jM_C2 jM_nd jM_dis jM_R jM_P jM_A (ci := 3) rfl rfl rfl hl.1 rfl (Nat.le_of_ble_eq_true rfl) d_L_law_330 hf0 (fun r u H locs hw hP hD hS => ?_)
  have hr1 : r = (M_M_flush gm y).1 := congrArg Prod.fst hw
  have hu1 : u = (M_M_flush gm y).2 := congrArg Prod.snd hw
  refine lv_icmp_eq (tgt := 722) hx hb d_L_law_333 (by decide) (fun _ => ?_) (fun c9 => absurd (by rw [hv1, hr1]; exact zv) c9)
  refine W.widen (k := cells + 1) (n := slots + 6) (Nat.le_succ _) (Nat.le_add_right _ 6) ?_
  exact kk x2 u f H locs ls (by rw [hu1, hx1]; exact INV_le (by omega) zI) ⟨hP, hD, hS, lv_sub hl [0, 1, 2, 3, 4] rfl⟩
