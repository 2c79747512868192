set_option maxHeartbeats 8000000 in
set_option maxRecDepth 100000 in
theorem op_version {p : Program} {l : Launch} {e : Env} {s : State} {m : MethodId} {below : List Frame} {meth : Method} {c : Code} {b L : Nat} {xs : Nat → Int32} {D : va_G} {cI cZ cL : ClassId} {g : GC} {gm : GM} {ao n q cells slots : Nat} {Q : State → Prop} (C : LwC p l s m c b L xs D cI cZ cL g) (hq : q + 4 ≤ L) (hn : n < 512) {x : Cs} {y : Ms} {f : Fl} {H : Heap} {locs : List Loc} {ls : Array Slot} (hI : INV n g gm x y) (hs : LwS D cI cZ cL g gm ao s b q x y f H locs ls) (hf : cells + 1 ≤ room_1.cells ∧ slots + 6 ≤ room_1.slots)
    (kk : ∀ (x : Cs) (y : Ms) (f : Fl) (H : Heap) (locs : List Loc) (ls : Array Slot), INV (n + 1) g gm x y → LwS D cI cZ cL g gm ao s b q x y f H locs ls → W p l e room_1 s m #[Value.ref b] below meth c H locs (cells + 1) (slots + 6) Q (F0 m 722 ls [])) : W p l e room_1 s m #[Value.ref b] below meth c H locs cells slots Q (F0 m 406 ls []) := by
  obtain ⟨hx, hb, hml, hown, htb, hX, hbl, hK, hT, hNc, hlt, hL, hg⟩ := C
  obtain ⟨hP, hD, hS, hl⟩ := hs
  have hbA : ¬ LA s b := Nat.not_le.mpr hbl
  have hK2 := hK.sub [0, 1] (tys' := tyK cI cZ) rfl
  have hf0 : cells ≤ room_1.cells ∧ slots ≤ room_1.slots := ⟨Nat.le_trans (Nat.le_succ _) hf.1, Nat.le_trans (Nat.le_add_right _ 6) hf.2⟩
  have i1 : vp_in (nI q + 1) L := idx_in (k := 1) (by decide) (by omega) hL
  obtain ⟨a1, e1⟩ : ∃ a, xs (nI q + 1).toNatClampNeg = a := ⟨_, rfl⟩
  have i2 : vp_in (nI q + 2) L := idx_in (k := 2) (by decide) (by omega) hL
  obtain ⟨a2, e2⟩ : ∃ a, xs (nI q + 2).toNatClampNeg = a := ⟨_, rfl⟩
  obtain ⟨sM, cs⟩ := I_version hI a1 a2
  have rest : ∀ (k : Int32) (x2 : Cs) (f2 : Fl) (H : Heap) (locs : List Loc), va_P D vwCl (wL cI cZ cL g gm x2 y ao f2) H → va_D (LA s) (wL cI cZ cL g gm x2 y ao f2) → va_S (LA s) s.heap H locs → (M_M_version gm y a1 a2).2.1.1 = k → (k = 0 → f2 0 = (M_M_version gm y a1 a2).1.toInt64) → INV (n + 1) g gm x2 (M_M_version gm y a1 a2).2 → W p l e room_1 s m #[Value.ref b] below meth c H locs (cells + 1) (slots + 6) Q (F0 m 423 ls [.int k]) := by
    intro k x2 f2 H locs hP hD hS hk hv hI2
    refine lv_istore (lv' := [(5, .int k), (4, .int (nI q)), (3, .ref ao), (2, .ref gm.1.1), (1, .ref g.1.1), (0, .ref b)]) hx hb d_L_law_423 hl (by decide) rfl (fun ls hl => ?_)
    refine lv_aload_n hx hb d_L_law_425 rfl (lv_at hl 3 rfl) ?_
    refine lv_aload_n hx hb d_L_law_426 rfl (lv_at hl 5 rfl) ?_
    refine lv_iload hx hb d_L_law_427 (lv_at hl 1 rfl) ?_
    refine lv_iconst (v := 1) hx hb d_L_law_429 (by decide) ?_
    refine lv_iadd hx hb d_L_law_430 ?_
    refine va_sld hx hb hX hbl hbA hS i1 d_L_law_431 ?_
    refine lv_ren e1 ?_
    refine lv_aload_n hx hb d_L_law_432 rfl (lv_at hl 5 rfl) ?_
    refine lv_iload hx hb d_L_law_433 (lv_at hl 1 rfl) ?_
    refine lv_iconst (v := 2) hx hb d_L_law_435 (by decide) ?_
    refine lv_iadd hx hb d_L_law_436 ?_
    refine va_sld hx hb hX hbl hbA hS i2 d_L_law_437 ?_
    refine lv_ren e2 ?_
    refine cwi (As := [.int a1, .int a2]) (rest := []) (wldC := fun u => (wL cI cZ cL g gm x2 u ao f2)) ⟨hx, hb, hml, hown, htb⟩ (c_M_version l D cI cZ gm trivial y a1 a2 sM) (cwv (n := 2) htb cd_M_version k_L_71 in_M_version se_M_version ini_M hd_M_version ⟨Nat.le_of_ble_eq_true rfl, Nat.le_of_ble_eq_true rfl⟩) hK2 hP hD hS jM jMr jMp jM_C jM_C2 jM_nd jM_dis jM_R jM_P jM_A (ci := 3) rfl rfl rfl hl.1 rfl (Nat.le_of_ble_eq_true rfl) d_L_law_438 hf (fun r u H locs hw hP hD hS => ?_)
    have hr1 : r = (M_M_version gm y a1 a2).1 := congrArg Prod.fst hw
    have hu1 : u = (M_M_version gm y a1 a2).2 := congrArg Prod.snd hw
    refine lv_istore (lv' := [(6, .int r), (5, .int k), (4, .int (nI q)), (3, .ref ao), (2, .ref gm.1.1), (1, .ref g.1.1), (0, .ref b)]) hx hb d_L_law_441 hl (by decide) rfl (fun ls hl => ?_)
    refine lv_aload_n hx hb d_L_law_443 rfl (lv_at hl 4 rfl) ?_
    refine cpi (As := []) (rest := []) ⟨hx, hb, hml, hown, htb⟩ (c_M_thrown l D cI cZ gm trivial u) (cwv (n := 0) htb cd_M_thrown k_L_49 in_M_thrown se_M_thrown ini_M hd_M_thrown ⟨Nat.le_of_ble_eq_true rfl, Nat.le_of_ble_eq_true rfl⟩) hK2 hP jM jM_C (ci := 3) rfl rfl rfl hl.1 rfl (Nat.le_of_ble_eq_true rfl) d_L_law_444 hf (fun t ht => ?_)
    have ht2 : t = k := by rw [ht, ← hk, ← hu1]; rfl
    refine lv_iload hx hb d_L_law_447 (lv_at hl 1 rfl) ?_
    refine lv_icmp_eq (tgt := 454) hx hb d_L_law_449 (by decide) (fun _ => ?_) (fun c9 => absurd ht2 c9)
    have last : W p l e room_1 s m #[Value.ref b] below meth c H locs (cells + 1) (slots + 6) Q (F0 m 471 ls []) := by
      refine lv_goto (tgt := 722) hx hb d_L_law_471 (by decide) ?_
      exact kk x2 u f2 H locs ls (by rw [hu1]; exact hI2) ⟨hP, hD, hS, lv_sub hl [2, 3, 4, 5, 6] rfl⟩
    refine lv_iload hx hb d_L_law_454 (lv_at hl 1 rfl) ?_
    refine lv_if_ne (tgt := 471) hx hb d_L_law_456 (by decide) (fun _ => last) (fun k0 => ?_)
    refine lv_aload_n hx hb d_L_law_459 rfl (lv_at hl 3 rfl) ?_
    refine lv_iconst (v := 0) hx hb d_L_law_460 (by decide) ?_
    refine va_lald hx hb hK hP 30 2 jL_o rfl one_in0 d_L_law_461 ?_
    refine lv_iload hx hb d_L_law_462 (lv_at hl 0 rfl) ?_
    refine lv_i2l (v := r.toInt64) hx hb d_L_law_464 rfl ?_
    refine W.lcmp hx hb d_L_law_465 ?_
    have hc0 : lg_cmp (f2 (0 : Int32).toNatClampNeg) r.toInt64 = 0 := (lg_cmp_eq _ _).mpr (by rw [hr1]; exact hv k0)
    exact lv_if_eq (tgt := 471) hx hb d_L_law_466 (by decide) (fun _ => last) (fun c9 => absurd hc0 c9)
  refine lv_aload_n hx hb d_L_law_406 rfl (lv_at hl 3 rfl) ?_
  refine lv_aload_n hx hb d_L_law_407 rfl (lv_at hl 4 rfl) ?_
  refine lv_iload hx hb d_L_law_408 (lv_at hl 0 rfl) ?_
  refine lv_iconst (v := 1) hx hb d_L_law_410 (by decide) ?_
  refine lv_iadd hx hb d_L_law_411 ?_
  refine va_sld hx hb hX hbl hbA hS i1 d_L_law_412 ?_
  refine lv_ren e1 ?_
  refine lv_aload_n hx hb d_L_law_413 rfl (lv_at hl 4 rfl) ?_
  refine lv_iload hx hb d_L_law_414 (lv_at hl 0 rfl) ?_
  refine lv_iconst (v := 2) hx hb d_L_law_416 (by decide) ?_
  refine lv_iadd hx hb d_L_law_417 ?_
  refine va_sld hx hb hX hbl hbA hS i2 d_L_law_418 ?_
  refine lv_ren e2 ?_
  refine lv_aload_n hx hb d_L_law_419 rfl (lv_at hl 1 rfl) ?_
  rcases cs with ⟨y1, z1, z2⟩ | ⟨⟨y1, y2⟩, z1, z0, z2⟩
  · refine csi (As := [.ref g.1.1, .int a1, .int a2, .ref ao]) (rest := []) (wldC := fun (u : Cs × Fl) => (wL cI cZ cL g gm u.1 y ao u.2)) ⟨hx, hb, hml, hown, htb⟩ (c_L_version_t l hlt D cI cZ cL g hg x ao f a1 a2 y1) (cwsw htb cd_L_version k_L_69 st_L_version ini_L hd_L_version ⟨Nat.le_of_ble_eq_true rfl, Nat.le_of_ble_eq_true rfl⟩) hK hP hD hS hT hNc jH jHr jHp jH_C jH_C2 jH_nd jH_dis jH_R jH_P jH_A rfl hl.1 rfl (Nat.le_of_ble_eq_true rfl) d_L_law_420 hf (fun r u H locs hw hP hD hS => ?_)
    have hxu := hw.2
    have hr0 := hw.1
    rw [hr0]
    exact rest _ u.1 u.2 H locs hP hD hS z1 (fun h => absurd h (by decide)) (by rw [hxu]; exact INV_le (by omega) z2)
  · refine csi (As := [.ref g.1.1, .int a1, .int a2, .ref ao]) (rest := []) (wldC := fun (u : Cs × Fl) => (wL cI cZ cL g gm u.1 y ao u.2)) ⟨hx, hb, hml, hown, htb⟩ (c_L_version_o l D cI cZ cL g hg x ao f a1 a2 y1 y2) (cwsw htb cd_L_version k_L_69 st_L_version ini_L hd_L_version ⟨Nat.le_of_ble_eq_true rfl, Nat.le_of_ble_eq_true rfl⟩) hK hP hD hS hT hNc jH jHr jHp jH_C jH_C2 jH_nd jH_dis jH_R jH_P jH_A rfl hl.1 rfl (Nat.le_of_ble_eq_true rfl) d_L_law_420 hf (fun r u H locs hw hP hD hS => ?_)
    have hr0 := hw.1
    have hv0_ := hw.2.1
    have hxu := hw.2.2
    rw [hr0]
    exact rest _ u.1 u.2 H locs hP hD hS z1 (fun _ => by rw [hv0_, z0]) (by rw [hxu]; exact INV_le (by omega) z2)
