-- the start: what the tables and the statement's own words give
theorem st_bad : ∀ w ∈ badE EI ++ badE EA, w ∈ lw_tbl := by decide +kernel
theorem st_strT : ∀ k ∈ strs, Cond.stringRef "CacheLevels" k.1 k.2 ∈ lw_tbl := by decide +kernel
theorem st_strG : ∀ k ∈ strs, Cond.exactly (Term.string "CacheLevels" k.1) "java/lang/String" ∈ flatC (Jvm.Cond.and given_1 narrow_1) := by decide +kernel
theorem st_l1 : Cond.laysStatic Bundle.tN "UNASSIGNED_STACK" Bundle.steD ∈ lw_tbl := by decide +kernel
theorem st_l2 : Cond.laysStatic Bundle.tN "SUPPRESSED_SENTINEL" Bundle.listD ∈ lw_tbl := by decide +kernel
theorem st_l3 : Cond.initialized Bundle.tN ∈ lw_tbl := by decide +kernel
theorem st_g1 : Cond.isRef (.static Bundle.tN "UNASSIGNED_STACK" Bundle.steD) ∈ flatC (Jvm.Cond.and given_1 narrow_1) := by decide +kernel
theorem st_g2 : Cond.isRef (.static Bundle.tN "SUPPRESSED_SENTINEL" Bundle.listD) ∈ flatC (Jvm.Cond.and given_1 narrow_1) := by decide +kernel
theorem st_nc : Cond.not (.castable EA EI) ∈ flatC (Jvm.Cond.and given_1 narrow_1) := by decide +kernel
theorem thr_start {s : State} {args : Array Value} (hts : ∀ w ∈ lw_tbl, w.before args s = true) (hgv : (Jvm.Cond.and given_1 narrow_1).before args s = true) : ThrA (LA s) s s.heap ∧ va_Nc EA EI s := by
  have hg := flat_of_before _ hgv
  have hA : ∀ a : Nat, a < s.heap.size → ¬ LA s a := fun a h => Nat.not_le.mpr h
  refine ⟨⟨?_, vx_Zqof (hts _ st_l1) (hts _ st_l3) (hg _ st_g1) hA, vx_Zqof (hts _ st_l2) (hts _ st_l3) (hg _ st_g2) hA, ?_⟩, va_Nc.of (hg _ st_nc)⟩
  · intro w hw
    have h9 := hts w (st_bad w hw)
    simp only [badE, List.cons_append, List.nil_append, List.mem_cons, List.not_mem_nil, or_false] at hw
    rcases hw with rfl | rfl | rfl | rfl | rfl | rfl | rfl | rfl <;> exact va_Nw.of rfl h9
  · intro k hk
    obtain ⟨a, _, _, _, h1, _⟩ := Cond.exactly_spec (hg _ (st_strG k hk))
    exact ⟨a, vk_R.of (hts _ (st_strT k hk)) h1⟩
theorem arr_i {s : State} {args : Array Value} (h : (Cond.arrayClass .int).before args s = true) : ∃ cA, ArrOfT s cA .int ∧ va_RA s cA .int := by
  obtain ⟨cA, kA, comp, h1, h2, h3⟩ := Cond.arrayClass_spec h
  exact ⟨cA, fun n z => ⟨fun k h => (by cases h), kA, h2, comp, h3⟩, h1⟩
theorem arr_z {s : State} {args : Array Value} (h : (Cond.arrayClass .boolean).before args s = true) : ∃ cA, ArrOfT s cA .boolean ∧ va_RA s cA .boolean := by
  obtain ⟨cA, kA, comp, h1, h2, h3⟩ := Cond.arrayClass_spec h
  exact ⟨cA, fun n z => ⟨fun k h => (by cases h), kA, h2, comp, h3⟩, h1⟩
theorem arr_l {s : State} {args : Array Value} (h : (Cond.arrayClass .long).before args s = true) : ∃ cA, ArrOfT s cA .long ∧ va_RA s cA .long := by
  obtain ⟨cA, kA, comp, h1, h2, h3⟩ := Cond.arrayClass_spec h
  exact ⟨cA, fun n z => ⟨fun k h => (by cases h), kA, h2, comp, h3⟩, h1⟩
theorem k_start {s : State} {args : Array Value} (htb : ∀ w ∈ tbW, w.before args s = true) : ∃ (D : va_G) (cI cZ cL : ClassId), va_K D vwCl (tyL cI cZ cL) s := by
  obtain ⟨cB, iB, hB⟩ := u_known htb i_B (htb _ it_B)
  obtain ⟨cV, iV, hV⟩ := u_known htb i_V (htb _ it_V)
  obtain ⟨cC, iC, hC⟩ := u_known htb i_C (htb _ it_C)
  obtain ⟨cM, iM, hM⟩ := u_known htb i_M (htb _ it_M)
  obtain ⟨cI, hI⟩ := arr_i (htb _ ac_int)
  obtain ⟨cZ, hZ⟩ := arr_z (htb _ ac_boolean)
  obtain ⟨cL, hL⟩ := arr_l (htb _ ac_long)
  refine ⟨(fun k => match k with | 0 => cB | 1 => cV | 2 => cC | _ => cM, fun k => match k with | 0 => iB | 1 => iV | 2 => iC | _ => iM), cI, cZ, cL, ?_, ?_⟩
  · intro k q hq
    match k, hq with
    | 0, hq =>
      cases (show some (R_B, T_B, 7) = some q from hq)
      exact hB
    | 1, hq =>
      cases (show some (R_V, T_V, 5) = some q from hq)
      exact hV
    | 2, hq =>
      cases (show some (R_C, T_C, 10) = some q from hq)
      exact hC
    | 3, hq =>
      cases (show some (R_M, T_M, 20) = some q from hq)
      exact hM
    | k + 4, hq => cases (show (none : Option vw_C) = some q from hq)
  · intro k q hq
    match k, hq with
    | 0, hq =>
      cases (show some (cI, FieldType.int) = some q from hq)
      exact hI
    | 1, hq =>
      cases (show some (cZ, FieldType.boolean) = some q from hq)
      exact hZ
    | 2, hq =>
      cases (show some (cL, FieldType.long) = some q from hq)
      exact hL
    | k + 3, hq => cases (show (none : Option (ClassId × FieldType)) = some q from hq)
theorem fm_4 (p0 : Int32) : (1 : Int32) + (M_Math_floorMod (p0 - (1 : Int32)) (4 : Int32)) = nI (1 + q_st 4 (p0 - 1)) := by
  have e : (4 : Int32) = nI 4 := by decide
  rw [e, q_fm (by omega) (by omega), ← nI_add]
  rfl
theorem fm_8 (p0 : Int32) : (1 : Int32) + (M_Math_floorMod (p0 - (1 : Int32)) (8 : Int32)) = nI (1 + q_st 8 (p0 - 1)) := by
  have e : (8 : Int32) = nI 8 := by decide
  rw [e, q_fm (by omega) (by omega), ← nI_add]
  rfl
theorem fm_16 (p0 : Int32) : (1 : Int32) + (M_Math_floorMod (p0 - (1 : Int32)) (16 : Int32)) = nI (1 + q_st 16 (p0 - 1)) := by
  have e : (16 : Int32) = nI 16 := by decide
  rw [e, q_fm (by omega) (by omega), ← nI_add]
  rfl
theorem nI_nez {a : Nat} (h : 1 ≤ a) (hb : a < 2 ^ 31) : ¬ nI a = 0 := fun q => by
  have h1 := congrArg Int32.toInt q
  rw [nI_toInt hb] at h1
  have e0 : (0 : Int32).toInt = 0 := by decide
  omega
theorem ok_start {g : GC} {p0 p1 p2 p3 : Int32} (u0 : g.2.1 = (((1 : Int32) + (M_Math_floorMod (p0 - (1 : Int32)) (4 : Int32))), (M_Math_floorMod p1 (3 : Int32)))) (u1 : g.2.2.1 = (1 + q_st 4 (p0 - 1), (1 + q_st 4 (p0 - 1)) * 7)) (u2 : g.2.2.2.1.2 = (((if (1 : Int32) < ((1 : Int32) + (M_Math_floorMod (p2 - (1 : Int32)) (8 : Int32))) then ((1 : Int32) + (M_Math_floorMod (p2 - (1 : Int32)) (8 : Int32))) else (1 : Int32)), (if (1 : Int32) < (2 : Int32) then (2 : Int32) else (1 : Int32))), ((1 + q_st 4 (p0 - 1)) * (1 + q_st 8 (p2 - 1)), (1 + q_st 4 (p0 - 1)) * (1 + q_st 8 (p2 - 1)) * 2))) (u3 : g.2.2.2.2.1.2 = (((if (1 : Int32) < ((1 : Int32) + (M_Math_floorMod (p3 - (1 : Int32)) (16 : Int32))) then ((1 : Int32) + (M_Math_floorMod (p3 - (1 : Int32)) (16 : Int32))) else (1 : Int32)), (if (1 : Int32) < (4 : Int32) then (4 : Int32) else (1 : Int32))), (1 + q_st 16 (p3 - 1), (1 + q_st 16 (p3 - 1)) * 4))) (u4 : g.2.2.2.2.2.2 = (512, 512, 512)) : okC g := by
  have b4 := q_st_lt (S := 4) (by omega) (p0 - 1)
  have b8 := q_st_lt (S := 8) (by omega) (p2 - 1)
  have b16 := q_st_lt (S := 16) (by omega) (p3 - 1)
  rw [fm_4] at u0
  rw [fm_8, max1 (by omega) (by omega)] at u2
  rw [fm_16, max1 (by omega) (by omega)] at u3
  have hmul : (1 + q_st 4 (p0 - 1)) * (1 + q_st 8 (p2 - 1)) ≤ 4 * 8 := Nat.mul_le_mul (by omega) (by omega)
  have h1 : g.2.2.1.1 = 1 + q_st 4 (p0 - 1) := congrArg Prod.fst u1
  have h2 : g.2.2.1.2 = (1 + q_st 4 (p0 - 1)) * 7 := congrArg Prod.snd u1
  have h3 : g.2.1.1 = nI (1 + q_st 4 (p0 - 1)) := congrArg Prod.fst u0
  have a1 := congrArg (fun q : (Int32 × Int32) × (Nat × Nat) => q.1.1) u2
  have a2 := congrArg (fun q : (Int32 × Int32) × (Nat × Nat) => q.1.2) u2
  have a3 := congrArg (fun q : (Int32 × Int32) × (Nat × Nat) => q.2.1) u2
  have a4 := congrArg (fun q : (Int32 × Int32) × (Nat × Nat) => q.2.2) u2
  have d1 := congrArg (fun q : (Int32 × Int32) × (Nat × Nat) => q.1.1) u3
  have d2 := congrArg (fun q : (Int32 × Int32) × (Nat × Nat) => q.1.2) u3
  have d3 := congrArg (fun q : (Int32 × Int32) × (Nat × Nat) => q.2.1) u3
  have d4 := congrArg (fun q : (Int32 × Int32) × (Nat × Nat) => q.2.2) u3
  dsimp only at a1 a2 a3 a4 d1 d2 d3 d4
  refine ⟨⟨by rw [h1]; omega, by rw [h2]; omega, by rw [h1, h3], by rw [h1]; omega, by rw [h1, h2]⟩, ⟨by rw [a3]; omega, by rw [a4]; omega, by rw [a1]; exact nI_nez (by omega) (by omega), by rw [a2]; decide⟩, ⟨by rw [d3]; omega, by rw [d4]; omega, by rw [d1]; exact nI_nez (by omega) (by omega), by rw [d2]; decide⟩, ?_⟩
  unfold okV
  rw [u4]
  exact ⟨by decide, by decide, by decide, Nat.le_refl _⟩
section StartPlaces
variable {cI cZ : ClassId} {g : GC} {x : Cs} {q : Nat × va_E}
theorem jS_R : jC.map (fun i => (wC cI cZ g x ++ [q])[i]?) = (wC cI cZ g x).map some := rfl
theorem jS_C : [19].map (fun i => (wC cI cZ g x ++ [q])[i]?) = [q].map some := rfl
theorem jS_F : [19].filterMap (fun i => (wC cI cZ g x ++ [q])[i]?) = [q] := rfl
theorem jS_d : ∀ i ∈ jC, i ∉ [19] := by decide
end StartPlaces
set_option maxHeartbeats 8000000 in
set_option maxRecDepth 100000 in
theorem whole_start {p : Program} {e : Env} {s : State} {m : MethodId} {below : List Frame} {meth : Method} {c : Code} (l : Launch) (hlt : l.stackTraces = false) {b L : Nat} {xs : Nat → Int32} (hL : L ≤ 2052) (C0 : lw_At p s m meth c b L xs) : W p l e room_1 s m #[Value.ref b] below meth c s.heap [] 0 0 (lw_Z below #[Value.ref b] s) (entryFrame m ([Value.ref b] : List Value).toArray 7) := by
  obtain ⟨hx, hb, hr, hml, hown, hts, hX, hbl, hlocks, hgv⟩ := C0
  have hown : s.vm.findClass "CacheLevelsLaw" = some m.cls := hown
  have htb : ∀ w ∈ tbW, w.before #[Value.ref b] s = true := fun w h => hts w (tbW_tbl w h)
  obtain ⟨D, cI, cZ, cL, hK⟩ := k_start htb
  obtain ⟨hT, hNc⟩ := thr_start hts hgv
  have hK2 := hK.sub [0, 1] (tys' := tyK cI cZ) rfl
  have hbA : ¬ LA s b := Nat.not_le.mpr hbl
  have hA : ∀ q : Nat, s.heap.size ≤ q → LA s q := fun _ h => h
  have hS : va_S (LA s) s.heap s.heap [] := va_S.rf
  have hP : va_P D vwCl [] s.heap := fun k q hq => by simp at hq
  have hD : va_D (LA s) ([] : va_W) := ⟨fun i j p q hp => by simp at hp, fun k q hq => by simp at hq⟩
  have hl := lv_entry ([.ref b]) (n := 7) (Nat.le_of_ble_eq_true rfl)
  rw [lg_entry_eq]
  generalize (lg_sl ([.ref b]) ++ List.replicate (7 - (lg_sl ([.ref b])).length) Slot.unset).toArray = ls at hl ⊢
  have hl : lv_has ls 7 [(0, .ref b)] := hl
  obtain ⟨p0, e0⟩ : ∃ a : Int32, (if 0 < L then xs 0 else 0) = a := ⟨_, rfl⟩
  obtain ⟨p1, e1⟩ : ∃ a : Int32, (if 1 < L then xs 1 else 0) = a := ⟨_, rfl⟩
  obtain ⟨p2, e2⟩ : ∃ a : Int32, (if 2 < L then xs 2 else 0) = a := ⟨_, rfl⟩
  obtain ⟨p3, e3⟩ : ∃ a : Int32, (if 3 < L then xs 3 else 0) = a := ⟨_, rfl⟩
  have b4 := q_st_lt (S := 4) (by omega) (p0 - 1)
  have b8 := q_st_lt (S := 8) (by omega) (p2 - 1)
  have b16 := q_st_lt (S := 16) (by omega) (p3 - 1)
  have h_c : (0 + 1) ≤ 601024 := by omega
  have h_s : (0 + 10) ≤ 7293000 := by omega
  refine va_new (ci := 2) (fs := [.int 0, .int 0, .null, .null, .null, .null, .null, .int 0, .int 0, .int 0]) (C := R_C) (T := T_C) (N := 10) hx hb htb i_C ty_C tyo_C hown (htb _ k_L_8) (htb _ it_C) (htb _ ini_C) hK hP hD hS hA rfl (fun j hj => by rcases (show j = 0 ∨ j = 1 ∨ j = 2 ∨ j = 3 ∨ j = 4 ∨ j = 5 ∨ j = 6 ∨ j = 7 ∨ j = 8 ∨ j = 9 by omega) with rfl | rfl | rfl | rfl | rfl | rfl | rfl | rfl | rfl | rfl <;> rfl) h_c h_s d_L_law_0 (fun q0 H hP hD hS => ?_)
  have hP : va_P D vwCl [(q0, .inr (2, [.int 0, .int 0, .null, .null, .null, .null, .null, .int 0, .int 0, .int 0]))] H := hP
  have hD : va_D (LA s) [(q0, .inr (2, [.int 0, .int 0, .null, .null, .null, .null, .null, .int 0, .int 0, .int 0]))] := hD
  refine lv_dup hx hb d_L_law_3 rfl ?_
  refine lv_aload_n hx hb d_L_law_4 rfl (lv_at hl 0 rfl) ?_
  refine lv_iconst (v := nI 0) hx hb d_L_law_5 (by decide) ?_
  refine cpx (As := [.ref b, .int (nI 0)]) (rest := [.ref q0, .ref q0]) ⟨hx, hb, hml, hown, htb⟩ (c_L_cell l b L xs 0 hL (by decide)) (cws (n := 2) htb cd_L_cell k_L_33 st_L_cell ini_L hd_L_cell ⟨Nat.le_of_ble_eq_true rfl, Nat.le_of_ble_eq_true rfl⟩) hX hbl hbA hS rfl hl.1 rfl (Nat.le_of_ble_eq_true rfl) d_L_law_6 ⟨h_c, h_s⟩ (fun r0 h0 => lv_ren (h0.trans e0) ?_)
  refine lv_aload_n hx hb d_L_law_9 rfl (lv_at hl 0 rfl) ?_
  refine lv_iconst (v := nI 1) hx hb d_L_law_10 (by decide) ?_
  refine cpx (As := [.ref b, .int (nI 1)]) (rest := [.int p0, .ref q0, .ref q0]) ⟨hx, hb, hml, hown, htb⟩ (c_L_cell l b L xs 1 hL (by decide)) (cws (n := 2) htb cd_L_cell k_L_33 st_L_cell ini_L hd_L_cell ⟨Nat.le_of_ble_eq_true rfl, Nat.le_of_ble_eq_true rfl⟩) hX hbl hbA hS rfl hl.1 rfl (Nat.le_of_ble_eq_true rfl) d_L_law_11 ⟨h_c, h_s⟩ (fun r1 h1 => lv_ren (h1.trans e1) ?_)
  refine lv_aload_n hx hb d_L_law_14 rfl (lv_at hl 0 rfl) ?_
  refine lv_iconst (v := nI 2) hx hb d_L_law_15 (by decide) ?_
  refine cpx (As := [.ref b, .int (nI 2)]) (rest := [.int p1, .int p0, .ref q0, .ref q0]) ⟨hx, hb, hml, hown, htb⟩ (c_L_cell l b L xs 2 hL (by decide)) (cws (n := 2) htb cd_L_cell k_L_33 st_L_cell ini_L hd_L_cell ⟨Nat.le_of_ble_eq_true rfl, Nat.le_of_ble_eq_true rfl⟩) hX hbl hbA hS rfl hl.1 rfl (Nat.le_of_ble_eq_true rfl) d_L_law_16 ⟨h_c, h_s⟩ (fun r2 h2 => lv_ren (h2.trans e2) ?_)
  refine lv_aload_n hx hb d_L_law_19 rfl (lv_at hl 0 rfl) ?_
  refine lv_iconst (v := nI 3) hx hb d_L_law_20 (by decide) ?_
  refine cpx (As := [.ref b, .int (nI 3)]) (rest := [.int p2, .int p1, .int p0, .ref q0, .ref q0]) ⟨hx, hb, hml, hown, htb⟩ (c_L_cell l b L xs 3 hL (by decide)) (cws (n := 2) htb cd_L_cell k_L_33 st_L_cell ini_L hd_L_cell ⟨Nat.le_of_ble_eq_true rfl, Nat.le_of_ble_eq_true rfl⟩) hX hbl hbA hS rfl hl.1 rfl (Nat.le_of_ble_eq_true rfl) d_L_law_21 ⟨h_c, h_s⟩ (fun r3 h3 => lv_ren (h3.trans e3) ?_)
  have h_c : ((0 + 1) + 18) ≤ 601024 := by omega
  have h_s : ((0 + 10) + 2227) ≤ 7293000 := by omega
  have hPc := hP.sub (ws' := [(q0, .inr (2, [.int 0, .int 0, .null, .null, .null, .null, .null, .int 0, .int 0, .int 0]))]) [0] rfl
  have hDc := hD.sub (ws' := [(q0, .inr (2, [.int 0, .int 0, .null, .null, .null, .null, .null, .int 0, .int 0, .int 0]))]) [0] (by decide) rfl
  have hFc := va_free (wc := [(q0, .inr (2, [.int 0, .int 0, .null, .null, .null, .null, .null, .int 0, .int 0, .int 0]))]) hD hS hA [0] rfl
  refine va_callv (va_runI (As := [.int p0, .int p1, .int p2, .int p3]) (rest := [.ref q0]) ⟨hx, hb, hml, hown, htb⟩ (c_C_init l D cI cZ q0 H.size p0 p1 p2 p3 (1 + q_st 4 (p0 - 1)) (1 + q_st 8 (p2 - 1)) (1 + q_st 16 (p3 - 1)) (fm_4 p0) (fm_8 p2) (fm_16 p3) (by omega) (by omega) (by omega) (by omega) (by omega) (by omega)) (cwi0 (n := 4) htb cd_C_init k_L_39 in_C_init ini_C rfl hd_C_init ⟨Nat.le_of_ble_eq_true rfl, Nat.le_of_ble_eq_true rfl⟩) ⟨blindN, fun U hU hW => ⟨rfl, by rw [hU], by rw [hU]; exact hPc, va_K.moved hW.alike hK2, hDc.weaken (fun _ _ _ _ => trivial)⟩⟩ rfl rfl hl.1 rfl (lv_room (Nat.le_of_ble_eq_true rfl)) d_L_law_24 ⟨h_c, h_s⟩) hS (fun q _ h => hFc q h) hFc (fun u t H1 locs ht hvm hw hB hz1 hk1 hS => ?_)
  obtain ⟨hP1, hD1⟩ := hB
  rw [ht] at hP1
  obtain ⟨hP, hD⟩ := va_join (wr := []) (w1 := wC cI cZ u.1 ((0, -1, 0), zB, zB, zV, u.2, zF)) hP hD [0] [] rfl rfl (by decide) (by decide) hk1 hFc hP1 hD1
  generalize H1 = H at hP hS ⊢
  have hP : va_P D vwCl (wC cI cZ u.1 ((0, -1, 0), zB, zB, zV, u.2, zF)) H := hP
  have hD : va_D (LA s) (wC cI cZ u.1 ((0, -1, 0), zB, zB, zV, u.2, zF)) := hD
  obtain ⟨eA, u0, u1, u2, u3, u4, u5⟩ := hw
  rw [← eA]
  clear hPc hDc hFc hP1 hD1 hk1
  refine lv_astore_n (lv' := [(1, .ref u.1.1.1), (0, .ref b)]) hx hb d_L_law_27 rfl hl (by decide) rfl (fun ls hl => ?_)
  have h_c : (((0 + 1) + 18) + 1) ≤ 601024 := by omega
  have h_s : (((0 + 10) + 2227) + 20) ≤ 7293000 := by omega
  refine va_new (ci := 3) (fs := [.int 0, .int 0, .int 0, .int 0, .int 0, .null, .null, .null, .null, .null, .null, .int 0, .int 0, .int 0, .null, .null, .null, .null, .int 0, .int 0]) (C := R_M) (T := T_M) (N := 20) hx hb htb i_M ty_M tyo_M hown (htb _ k_L_42) (htb _ it_M) (htb _ ini_M) hK hP hD hS hA rfl (fun j hj => by rcases (show j = 0 ∨ j = 1 ∨ j = 2 ∨ j = 3 ∨ j = 4 ∨ j = 5 ∨ j = 6 ∨ j = 7 ∨ j = 8 ∨ j = 9 ∨ j = 10 ∨ j = 11 ∨ j = 12 ∨ j = 13 ∨ j = 14 ∨ j = 15 ∨ j = 16 ∨ j = 17 ∨ j = 18 ∨ j = 19 by omega) with rfl | rfl | rfl | rfl | rfl | rfl | rfl | rfl | rfl | rfl | rfl | rfl | rfl | rfl | rfl | rfl | rfl | rfl | rfl | rfl <;> rfl) h_c h_s d_L_law_28 (fun q1 H hP hD hS => ?_)
  refine lv_dup hx hb d_L_law_31 rfl ?_
  refine lv_aload_n hx hb d_L_law_32 rfl (lv_at hl 1 rfl) ?_
  refine lv_iconst (v := nI 0) hx hb d_L_law_33 (by decide) ?_
  refine cpx (As := [.ref b, .int (nI 0)]) (rest := [.ref q1, .ref q1]) ⟨hx, hb, hml, hown, htb⟩ (c_L_cell l b L xs 0 hL (by decide)) (cws (n := 2) htb cd_L_cell k_L_33 st_L_cell ini_L hd_L_cell ⟨Nat.le_of_ble_eq_true rfl, Nat.le_of_ble_eq_true rfl⟩) hX hbl hbA hS rfl hl.1 rfl (Nat.le_of_ble_eq_true rfl) d_L_law_34 ⟨h_c, h_s⟩ (fun r0 h0 => lv_ren (h0.trans e0) ?_)
  refine lv_aload_n hx hb d_L_law_37 rfl (lv_at hl 1 rfl) ?_
  refine lv_iconst (v := nI 1) hx hb d_L_law_38 (by decide) ?_
  refine cpx (As := [.ref b, .int (nI 1)]) (rest := [.int p0, .ref q1, .ref q1]) ⟨hx, hb, hml, hown, htb⟩ (c_L_cell l b L xs 1 hL (by decide)) (cws (n := 2) htb cd_L_cell k_L_33 st_L_cell ini_L hd_L_cell ⟨Nat.le_of_ble_eq_true rfl, Nat.le_of_ble_eq_true rfl⟩) hX hbl hbA hS rfl hl.1 rfl (Nat.le_of_ble_eq_true rfl) d_L_law_39 ⟨h_c, h_s⟩ (fun r1 h1 => lv_ren (h1.trans e1) ?_)
  refine lv_aload_n hx hb d_L_law_42 rfl (lv_at hl 1 rfl) ?_
  refine lv_iconst (v := nI 2) hx hb d_L_law_43 (by decide) ?_
  refine cpx (As := [.ref b, .int (nI 2)]) (rest := [.int p1, .int p0, .ref q1, .ref q1]) ⟨hx, hb, hml, hown, htb⟩ (c_L_cell l b L xs 2 hL (by decide)) (cws (n := 2) htb cd_L_cell k_L_33 st_L_cell ini_L hd_L_cell ⟨Nat.le_of_ble_eq_true rfl, Nat.le_of_ble_eq_true rfl⟩) hX hbl hbA hS rfl hl.1 rfl (Nat.le_of_ble_eq_true rfl) d_L_law_44 ⟨h_c, h_s⟩ (fun r2 h2 => lv_ren (h2.trans e2) ?_)
  refine lv_aload_n hx hb d_L_law_47 rfl (lv_at hl 1 rfl) ?_
  refine lv_iconst (v := nI 3) hx hb d_L_law_48 (by decide) ?_
  refine cpx (As := [.ref b, .int (nI 3)]) (rest := [.int p2, .int p1, .int p0, .ref q1, .ref q1]) ⟨hx, hb, hml, hown, htb⟩ (c_L_cell l b L xs 3 hL (by decide)) (cws (n := 2) htb cd_L_cell k_L_33 st_L_cell ini_L hd_L_cell ⟨Nat.le_of_ble_eq_true rfl, Nat.le_of_ble_eq_true rfl⟩) hX hbl hbA hS rfl hl.1 rfl (Nat.le_of_ble_eq_true rfl) d_L_law_49 ⟨h_c, h_s⟩ (fun r3 h3 => lv_ren (h3.trans e3) ?_)
  have h_c : ((((0 + 1) + 18) + 1) + 10) ≤ 601024 := by omega
  have h_s : ((((0 + 10) + 2227) + 20) + 3117) ≤ 7293000 := by omega
  have hPc := hP.sub (ws' := [(q1, .inr (3, [.int 0, .int 0, .int 0, .int 0, .int 0, .null, .null, .null, .null, .null, .null, .int 0, .int 0, .int 0, .null, .null, .null, .null, .int 0, .int 0]))]) [19] jS_F
  have hDc := hD.sub (ws' := [(q1, .inr (3, [.int 0, .int 0, .int 0, .int 0, .int 0, .null, .null, .null, .null, .null, .null, .int 0, .int 0, .int 0, .null, .null, .null, .null, .int 0, .int 0]))]) [19] (by decide) jS_C
  have hFc := va_free (wc := [(q1, .inr (3, [.int 0, .int 0, .int 0, .int 0, .int 0, .null, .null, .null, .null, .null, .null, .int 0, .int 0, .int 0, .null, .null, .null, .null, .int 0, .int 0]))]) hD hS hA [19] jS_C
  refine va_callv (va_runI (As := [.int p0, .int p1, .int p2, .int p3]) (rest := [.ref q1]) ⟨hx, hb, hml, hown, htb⟩ (c_M_init l D cI cZ q1 H.size p0 p1 p2 p3) (cwi0 (n := 4) htb cd_M_init k_L_44 in_M_init ini_M rfl hd_M_init ⟨Nat.le_of_ble_eq_true rfl, Nat.le_of_ble_eq_true rfl⟩) ⟨blindN, fun U hU hW => ⟨rfl, by rw [hU], by rw [hU]; exact hPc, va_K.moved hW.alike hK2, hDc.weaken (fun _ _ _ _ => trivial)⟩⟩ rfl rfl hl.1 rfl (lv_room (Nat.le_of_ble_eq_true rfl)) d_L_law_52 ⟨h_c, h_s⟩) hS (fun q _ h => hFc q h) hFc (fun v t H1 locs ht hvm hw hB hz1 hk1 hS => ?_)
  obtain ⟨hP1, hD1⟩ := hB
  rw [ht] at hP1
  obtain ⟨hP, hD⟩ := va_join (wr := wC cI cZ u.1 ((0, -1, 0), zB, zB, zV, u.2, zF)) (w1 := wM cI cZ v ((0, 1, 0, 0, 0, 0), (zF, zF, zF, zF, zF), (upd (upd (upd (upd zF 0 4) 1 4) 2 4) 3 4), (zF, zF, zF), zF)) hP hD [19] jC jS_C jS_R jC_nd jS_d hk1 hFc hP1 hD1
  generalize H1 = H at hP hS ⊢
  obtain ⟨eB, v0⟩ := hw
  rw [← eB]
  clear hPc hDc hFc hP1 hD1 hk1
  refine lv_astore_n (lv' := [(2, .ref v.1.1), (1, .ref u.1.1.1), (0, .ref b)]) hx hb d_L_law_55 rfl hl (by decide) rfl (fun ls hl => ?_)
  refine lv_iconst (v := 1) hx hb d_L_law_56 (by decide) ?_
  have h_c : (((((0 + 1) + 18) + 1) + 10) + 1) ≤ 601024 := by omega
  have h_s : (((((0 + 10) + 2227) + 20) + 3117) + 1) ≤ 7293000 := by omega
  refine newa_k (ty := .long) (a0 := (1, .inr (.inl (fun _ => 0)))) hx hb (htb _ ac_long) rfl hK hP hD hS hA 2 rfl ra_long (fun _ => rfl) (by decide) (by decide) (by show 1 * 8 ≤ 536870912; omega) h_c h_s d_L_law_57 (fun ao H hP hD hS => ?_)
  have hP : va_P D vwCl (wL cI cZ cL u.1 v ((0, -1, 0), zB, zB, zV, u.2, zF) ((0, 1, 0, 0, 0, 0), (zF, zF, zF, zF, zF), (upd (upd (upd (upd zF 0 4) 1 4) 2 4) 3 4), (zF, zF, zF), zF) ao (fun _ => 0)) H := by
    unfold wL
    rw [← List.append_assoc]
    exact hP
  have hD : va_D (LA s) (wL cI cZ cL u.1 v ((0, -1, 0), zB, zB, zV, u.2, zF) ((0, 1, 0, 0, 0, 0), (zF, zF, zF, zF, zF), (upd (upd (upd (upd zF 0 4) 1 4) 2 4) 3 4), (zF, zF, zF), zF) ao (fun _ => 0)) := by
    unfold wL
    rw [← List.append_assoc]
    exact hD
  refine lv_astore_n (lv' := [(3, .ref ao), (2, .ref v.1.1), (1, .ref u.1.1.1), (0, .ref b)]) hx hb d_L_law_59 rfl hl (by decide) rfl (fun ls hl => ?_)
  refine lv_iconst (v := nI 4) hx hb d_L_law_60 (by decide) ?_
  refine lv_istore (lv' := [(4, .int (nI 4)), (3, .ref ao), (2, .ref v.1.1), (1, .ref u.1.1.1), (0, .ref b)]) hx hb d_L_law_61 hl (by decide) rfl (fun ls hl => ?_)
  refine W.widen (k := 40 + 0) (n := 6000 + 6 * 0) (by omega) (by omega) ?_
  exact law_loop ⟨hx, hb, hml, hown, htb, hX, hbl, hK, hT, hNc, hlt, hL, ok_start u0 u1 u2 u3 u4⟩ hr hlocks 513 0 _ _ _ H _ ls (by omega) (by omega) (start_INV u0 u1 u2 u3 u4 u5 v0) ⟨hP, hD, hS, hl⟩
