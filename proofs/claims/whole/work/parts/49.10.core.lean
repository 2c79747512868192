set_option maxHeartbeats 8000000 in
set_option maxRecDepth 100000 in
theorem op_core {p : Program} {l : Launch} {e : Env} {s : State} {m : MethodId} {below : List Frame} {meth : Method} {c : Code} {b L : Nat} {xs : Nat → Int32} {D : va_G} {cI cZ cL : ClassId} {g : GC} {gm : GM} {ao n q cells slots : Nat} {Q : State → Prop} (C : LwC p l s m c b L xs D cI cZ cL g) (hq : q + 4 ≤ L) (hn : n < 512) {x : Cs} {y : Ms} {f : Fl} {H : Heap} {locs : List Loc} {ls : Array Slot} (hI : INV n g gm x y) (hs : LwS D cI cZ cL g gm ao s b q x y f H locs ls) (hf : cells + 1 ≤ room_1.cells ∧ slots + 6 ≤ room_1.slots)
    (kk : ∀ (x : Cs) (y : Ms) (f : Fl) (H : Heap) (locs : List Loc) (ls : Array Slot), INV (n + 1) g gm x y → LwS D cI cZ cL g gm ao s b q x y f H locs ls → W p l e room_1 s m #[Value.ref b] below meth c H locs (cells + 1) (slots + 6) Q (F0 m 722 ls [])) : W p l e room_1 s m #[Value.ref b] below meth c H locs cells slots Q (F0 m 629 ls []) := by
  obtain ⟨hx, hb, hml, hown, htb, hX, hbl, hK, hT, hNc, hlt, hL, hg⟩ := C
  obtain ⟨hP, hD, hS, hl⟩ := hs
  have hbA : ¬ LA s b := Nat.not_le.mpr hbl
  have hK2 := hK.sub [0, 1] (tys' := tyK cI cZ) rfl
  have hf0 : cells ≤ room_1.cells ∧ slots ≤ room_1.slots := ⟨Nat.le_trans (Nat.le_succ _) hf.1, Nat.le_trans (Nat.le_add_right _ 6) hf.2⟩
  have i1 : vp_in (nI q + 1) L := idx_in (k := 1) (by decide) (by omega) hL
  obtain ⟨a1, e1⟩ : ∃ a, xs (nI q + 1).toNatClampNeg = a := ⟨_, rfl⟩
  have i2 : vp_in (nI q + 2) L := idx_in (k := 2) (by decide) (by omega) hL
  obtain ⟨a2, e2⟩ : ∃ a, xs (nI q + 2).toNatClampNeg = a := ⟨_, rfl⟩
  obtain ⟨sM, cs⟩ := I_core hI a1 a2
  have rest : ∀ (k : Int32) (x2 : Cs) (f2 : Fl) (H : Heap) (locs : List Loc), va_P D vwCl (wL cI cZ cL g gm x2 y ao f2) H → va_D (LA s) (wL cI cZ cL g gm x2 y ao f2) → va_S (LA s) s.heap H locs → (M_M_core gm y a1 a2).2.1.1 = k → (k = 0 → f2 0 = (M_M_core gm y a1 a2).1.toInt64) → INV (n + 1) g gm x2 (M_M_core gm y a1 a2).2 → W p l e room_1 s m #[Value.ref b] below meth c H locs (cells + 1) (slots + 6) Q (F0 m 646 ls [.int k]) := by
    intro k x2 f2 H locs hP hD hS hk hv hI2
    refine lv_istore (lv' := [(5, .int k), (4, .int (nI q)), (3, .ref ao), (2, .ref gm.1.1), (1, .ref g.1.1), (0, .ref b)]) hx hb d_L_law_646 hl (by decide) rfl (fun ls hl => ?_)
    refine lv_aload_n hx hb d_L_law_648 rfl (lv_at hl 3 rfl) ?_
    refine lv_aload_n hx hb d_L_law_649 rfl (lv_at hl 5 rfl) ?_
    refine lv_iload hx hb d_L_law_650 (lv_at hl 1 rfl) ?_
    refine lv_iconst (v := 1) hx hb d_L_law_652 (by decide) ?_
    refine lv_iadd hx hb d_L_law_653 ?_
    refine va_sld hx hb hX hbl hbA hS i1 d_L_law_654 ?_
    refine lv_ren e1 ?_
    refine lv_aload_n hx hb d_L_law_655 rfl (lv_at hl 5 rfl) ?_
    refine lv_iload hx hb d_L_law_656 (lv_at hl 1 rfl) ?_
    refine lv_iconst (v := 2) hx hb d_L_law_658 (by decide) ?_
    refine lv_iadd hx hb d_L_law_659 ?_
    refine va_sld hx hb hX hbl hbA hS i2 d_L_law_660 ?_
    refine lv_ren e2 ?_
    refine cwi (As := [.int a1, .int a2]) (rest := []) (wldC := fun u => (wL cI cZ cL g gm x2 u ao f2)) ⟨hx, hb, hml, hown, htb⟩ (c_M_core l D cI cZ gm trivial y a1 a2 sM) (cwv (n := 2) htb cd_M_core k_L_90 in_M_core se_M_core ini_M hd_M_core ⟨Nat.le_of_ble_eq_true rfl, Nat.le_of_ble_eq_true rfl⟩) hK2 hP hD hS jM jMr jMp jM_C jM_C2 jM_nd jM_dis jM_R jM_P jM_A (ci := 3) rfl rfl rfl hl.1 rfl (Nat.le_of_ble_eq_true rfl) d_L_law_661 hf (fun r u H locs hw hP hD hS => ?_)
    have hr1 : r = (M_M_core gm y a1 a2).1 := congrArg Prod.fst hw
    have hu1 : u = (M_M_core gm y a1 a2).2 := congrArg Prod.snd hw
    refine lv_istore (lv' := [(6, .int r), (5, .int k), (4, .int (nI q)), (3, .ref ao), (2, .ref gm.1.1), (1, .ref g.1.1), (0, .ref b)]) hx hb d_L_law_664 hl (by decide) rfl (fun ls hl => ?_)
    refine lv_aload_n hx hb d_L_law_666 rfl (lv_at hl 4 rfl) ?_
    refine cpi (As := []) (rest := []) ⟨hx, hb, hml, hown, htb⟩ (c_M_thrown l D cI cZ gm trivial u) (cwv (n := 0) htb cd_M_thrown k_L_49 in_M_thrown se_M_thrown ini_M hd_M_thrown ⟨Nat.le_of_ble_eq_true rfl, Nat.le_of_ble_eq_true rfl⟩) hK2 hP jM jM_C (ci := 3) rfl rfl rfl hl.1 rfl (Nat.le_of_ble_eq_true rfl) d_L_law_667 hf (fun t ht => ?_)
    have ht2 : t = k := by rw [ht, ← hk, ← hu1]; rfl
    refine lv_iload hx hb d_L_law_670 (lv_at hl 1 rfl) ?_
    refine lv_icmp_eq (tgt := 677) hx hb d_L_law_672 (by decide) (fun _ => ?_) (fun c9 => absurd ht2 c9)
    have last : W p l e room_1 s m #[Value.ref b] below meth c H locs (cells + 1) (slots + 6) Q (F0 m 694 ls []) := by
      refine lv_goto (tgt := 722) hx hb d_L_law_694 (by decide) ?_
      exact kk x2 u f2 H locs ls (by rw [hu1]; exact hI2) ⟨hP, hD, hS, lv_sub hl [2, 3, 4, 5, 6] rfl⟩
    refine lv_iload hx hb d_L_law_677 (lv_at hl 1 rfl) ?_
    refine lv_if_ne (tgt := 694) hx hb d_L_law_679 (by decide) (fun _ => last) (fun k0 => ?_)
    refine lv_aload_n hx hb d_L_law_682 rfl (lv_at hl 3 rfl) ?_
    refine lv_iconst (v := 0) hx hb d_L_law_683 (by decide) ?_
    refine va_lald hx hb hK hP 30 2 jL_o rfl one_in0 d_L_law_684 ?_
    refine lv_iload hx hb d_L_law_685 (lv_at hl 0 rfl) ?_
    refine lv_i2l (v := r.toInt64) hx hb d_L_law_687 rfl ?_
    refine W.lcmp hx hb d_L_law_688 ?_
    have hc0 : lg_cmp (f2 (0 : Int32).toNatClampNeg) r.toInt64 = 0 := (lg_cmp_eq _ _).mpr (by rw [hr1]; exact hv k0)
    exact lv_if_eq (tgt := 694) hx hb d_L_law_689 (by decide) (fun _ => last) (fun c9 => absurd hc0 c9)
  refine lv_aload_n hx hb d_L_law_629 rfl (lv_at hl 3 rfl) ?_
  refine lv_aload_n hx hb d_L_law_630 rfl (lv_at hl 4 rfl) ?_
  refine lv_iload hx hb d_L_law_631 (lv_at hl 0 rfl) ?_
  refine lv_iconst (v := 1) hx hb d_L_law_633 (by decide) ?_
  refine lv_iadd hx hb d_L_law_634 ?_
  refine va_sld hx hb hX hbl hbA hS i1 d_L_law_635 ?_
  refine lv_ren e1 ?_
  refine lv_aload_n hx hb d_L_law_636 rfl (lv_at hl 4 rfl) ?_
  refine lv_iload hx hb d_L_law_637 (lv_at hl 0 rfl) ?_
  refine lv_iconst (v := 2) hx hb d_L_law_639 (by decide) ?_
  refine lv_iadd hx hb d_L_law_640 ?_
  refine va_sld hx hb hX hbl hbA hS i2 d_L_law_641 ?_
  refine lv_ren e2 ?_
  refine lv_aload_n hx hb d_L_law_642 rfl (lv_at hl 1 rfl) ?_
  rcases cs with ⟨y1, z1, z2⟩ | ⟨⟨y1, y2, y3⟩, z1, z2⟩ | ⟨⟨y1, y2, y3, y4⟩, z1, z0, z2⟩
  · refine csi (As := [.ref g.1.1, .int a1, .int a2, .ref ao]) (rest := []) (wldC := fun (u : Cs × Fl) => (wL cI cZ cL g gm u.1 y ao u.2)) ⟨hx, hb, hml, hown, htb⟩ (c_L_core_t l hlt D cI cZ cL g hg x ao f a1 a2 y1) (cwsw htb cd_L_core k_L_88 st_L_core ini_L hd_L_core ⟨Nat.le_of_ble_eq_true rfl, Nat.le_of_ble_eq_true rfl⟩) hK hP hD hS hT hNc jH jHr jHp jH_C jH_C2 jH_nd jH_dis jH_R jH_P jH_A rfl hl.1 rfl (Nat.le_of_ble_eq_true rfl) d_L_law_643 hf (fun r u H locs hw hP hD hS => ?_)
    have hxu := hw.2
    have hr0 := hw.1
    rw [hr0]
    exact rest _ u.1 u.2 H locs hP hD hS z1 (fun h => absurd h (by decide)) (by rw [hxu]; exact INV_le (by omega) z2)
  · refine csi (As := [.ref g.1.1, .int a1, .int a2, .ref ao]) (rest := []) (wldC := fun (u : Cs × Fl) => (wL cI cZ cL g gm u.1 y ao u.2)) ⟨hx, hb, hml, hown, htb⟩ (c_L_core_k l hlt D cI cZ cL g hg x ao f a1 a2 y1 y2 y3) (cwsw htb cd_L_core k_L_88 st_L_core ini_L hd_L_core ⟨Nat.le_of_ble_eq_true rfl, Nat.le_of_ble_eq_true rfl⟩) hK hP hD hS hT hNc jH jHr jHp jH_C jH_C2 jH_nd jH_dis jH_R jH_P jH_A rfl hl.1 rfl (Nat.le_of_ble_eq_true rfl) d_L_law_643 hf (fun r u H locs hw hP hD hS => ?_)
    have hxu := hw.2
    have hr0 := hw.1
    rw [hr0]
    exact rest _ u.1 u.2 H locs hP hD hS z1 (fun h => absurd h (by decide)) (by rw [hxu]; exact INV_le (by omega) z2)
  · refine csi (As := [.ref g.1.1, .int a1, .int a2, .ref ao]) (rest := []) (wldC := fun (u : Cs × Fl) => (wL cI cZ cL g gm u.1 y ao u.2)) ⟨hx, hb, hml, hown, htb⟩ (c_L_core_o l D cI cZ cL g hg x ao f a1 a2 y1 y2 y3 y4) (cwsw htb cd_L_core k_L_88 st_L_core ini_L hd_L_core ⟨Nat.le_of_ble_eq_true rfl, Nat.le_of_ble_eq_true rfl⟩) hK hP hD hS hT hNc jH jHr jHp jH_C jH_C2 jH_nd jH_dis jH_R jH_P jH_A rfl hl.1 rfl (Nat.le_of_ble_eq_true rfl) d_L_law_643 hf (fun r u H locs hw hP hD hS => ?_)
    have hr0 := hw.1
    have hv0_ := hw.2.1
    have hxu := hw.2.2
    rw [hr0]
    exact rest _ u.1 u.2 H locs hP hD hS z1 (fun _ => by rw [hv0_, z0]) (by rw [hxu]; exact INV_le (by omega) z2)
