def FF (g : GM) (P : Pm) (v1 thr : Int32) (W : Int32 × Fn) (V : Vs) (r : Int32 × Ms) : Prop := r.1 = V.1 - v1 ∧ RM g r.2 P ((fun _ => []), V, W) thr
section FlushM
variable {g : GM} {y : Ms} {P : Pm} {A : Ab} {c : Nat} {l v1 thr : Int32}
theorem M_isw (hP : okP P) (hI : AI P A) (hR : RM g y P A thr) (l : Int32) : ∀ (n c fuel : Nat) (b : Int32), c + n = P.1.1 → n < fuel → (b = 0 ∨ b = 1) →
    S_M_isWrittenInFirst_4 g y l fuel b (nI c) ∧ (L_M_isWrittenInFirst_4 g y l fuel b (nI c) = 0 ↔ b = 0 ∧ a_wif A.1 l n c = none) := by
  have h4 := hP.1.2
  have g1 := M_cores hR
  intro n
  induction n with
  | zero =>
    intro c fuel b hc hf hb
    obtain ⟨m, rfl⟩ : ∃ m, fuel = m + 1 := ⟨fuel - 1, by omega⟩
    have h0 : nI P.1.1 ≤ nI c := nI_le (by omega) (by omega)
    rw [S_M_isWrittenInFirst_4_eq, L_M_isWrittenInFirst_4_eq, g1, if_pos h0]
    refine ⟨⟨fun _ => ⟨?_, trivial⟩, fun q => absurd h0 q⟩, fun h => ⟨h, rfl⟩, fun h => h.1⟩
    rcases hb with rfl | rfl <;> rfl
  | succ n ih =>
    intro c fuel b hc hf hb
    obtain ⟨m, rfl⟩ : ∃ m, fuel = m + 1 := ⟨fuel - 1, by omega⟩
    have h0 : ¬ nI P.1.1 ≤ nI c := nI_ge (by omega) (by omega)
    have hmu := nI_mu (a := c) (n := P.1.1) (by omega) (by omega)
    have hm1 : (-1 : Int32) < 0 := by decide
    obtain ⟨a1, a2⟩ := M_atc hI hR (c := c) (by omega) l
    obtain ⟨i1, i2⟩ := ih (c + 1) m 0 (by omega) (by omega) (Or.inl rfl)
    obtain ⟨j1, j2⟩ := ih (c + 1) m 1 (by omega) (by omega) (Or.inr rfl)
    rw [S_M_isWrittenInFirst_4_eq, L_M_isWrittenInFirst_4_eq, g1, if_neg h0, nI_1]
    unfold a_wif
    rcases a2 with ⟨k, e, h1, h2, h3, h5, h6⟩ | ⟨h1, h2⟩
    · obtain ⟨-, -, -, t4, -, -, t7⟩ := RL_at hR.2.1 (by omega) h2
      have hn : ¬ nI (64 * c + k) < 0 := nI_pos (by omega)
      have hp : vp_in (nI (64 * c + k)) 320 := vp_in_nI h6 (by decide)
      have hS : (nI (64 * c + k) < 0 → mu (nI (c + 1)) (nI P.1.1) < mu (nI c) (nI P.1.1) ∧ S_M_isWrittenInFirst_4 g y l m 0 (nI (c + 1))) ∧ (¬ nI (64 * c + k) < 0 → S_M_at g y (nI c) l ∧ bnd (M_M_at g y (nI c) l) (fun r_32 => vp_in r_32 320 ∧ (y.2.1.2.2.1 r_32.toNatClampNeg = 0 → mu (nI (c + 1)) (nI P.1.1) < mu (nI c) (nI P.1.1) ∧ S_M_isWrittenInFirst_4 g y l m 0 (nI (c + 1))) ∧ (¬ y.2.1.2.2.1 r_32.toNatClampNeg = 0 → mu (nI (c + 1)) (nI P.1.1) < mu (nI c) (nI P.1.1) ∧ S_M_isWrittenInFirst_4 g y l m 1 (nI (c + 1))))) := by
        refine ⟨fun q => absurd q hn, fun _ => ⟨a1, ?_⟩⟩
        rw [bnd_eq h5.symm]
        exact ⟨hp, fun _ => ⟨hmu, i1⟩, fun _ => ⟨hmu, j1⟩⟩
      refine ⟨⟨fun q => absurd q h0, fun _ => ⟨fun _ => ⟨a1, ?_⟩, fun _ => ⟨hmu, j1⟩⟩⟩, ?_⟩
      · rw [bnd_eq h5.symm]
        exact hS
      · rw [h1]
        simp only []
        by_cases hb0 : b = 0
        · rw [if_pos hb0, bnd_eq h5.symm, if_neg hn, bnd_eq h5.symm, nI_clamp (n := 64 * c + k) (by omega), t4]
          by_cases q : e.2.1 = 0
          · rw [if_pos q, if_pos q, i2]
            exact ⟨fun h => ⟨hb0, h.2⟩, fun h => ⟨rfl, h.2⟩⟩
          · rw [if_neg q, if_neg q, j2]
            exact ⟨fun h => absurd h.1 i10, fun h => by cases h.2⟩
        · rw [if_neg hb0, j2]
          exact ⟨fun h => absurd h.1 i10, fun h => absurd h.1 hb0⟩
    · refine ⟨⟨fun q => absurd q h0, fun _ => ⟨fun _ => ⟨a1, ?_⟩, fun _ => ⟨hmu, j1⟩⟩⟩, ?_⟩
      · rw [bnd_eq h2.symm]
        exact ⟨fun _ => ⟨hmu, i1⟩, fun q => absurd hm1 q⟩
      · rw [h1]
        simp only []
        by_cases hb0 : b = 0
        · rw [if_pos hb0, bnd_eq h2.symm, if_pos hm1, i2]
          exact ⟨fun h => ⟨hb0, h.2⟩, fun h => ⟨rfl, h.2⟩⟩
        · rw [if_neg hb0, j2]
          exact ⟨fun h => absurd h.1 i10, fun h => absurd h.1 hb0⟩
theorem M_isw0 (hP : okP P) (hI : AI P A) (hR : RM g y P A thr) (l : Int32) : S_M_isWrittenInFirst g y l ∧ (M_M_isWrittenInFirst g y l = 0 ↔ a_wif A.1 l P.1.1 0 = none) := by
  have h4 := hP.1.2
  obtain ⟨h1, h2⟩ := M_isw hP hI hR l P.1.1 0 (P.1.1 + 1) 0 (by omega) (by omega) (Or.inl rfl)
  unfold S_M_isWrittenInFirst M_M_isWrittenInFirst
  rw [M_cores hR, mu_nI0 (by omega)]
  rw [nI_0] at h1 h2
  exact ⟨h1, h2.trans ⟨fun h => h.2, fun h => ⟨rfl, h⟩⟩⟩
theorem M_f141 : ∀ (n c fuel : Nat) (z : Ms), c + n = 5 → n < fuel →
    S_M_flush_141 g fuel v1 (nI c) z ∧ ∃ f : Fn, L_M_flush_141 g fuel v1 (nI c) z = (z.1.2.2.2.2.1 - v1, (z.1, (f, z.2.1.2.1, z.2.1.2.2.1, z.2.1.2.2.2.1, z.2.1.2.2.2.2), z.2.2.1, z.2.2.2.1, z.2.2.2.2)) ∧ ∀ j, f j = if c ≤ j ∧ j < 5 then 0 else z.2.1.1 j := by
  have e5 : (5 : Int32) = nI 5 := by decide
  intro n
  induction n with
  | zero =>
    intro c fuel z hc hf
    obtain ⟨m, rfl⟩ : ∃ m, fuel = m + 1 := ⟨fuel - 1, by omega⟩
    have h0 : (5 : Int32) ≤ nI c := by rw [e5]; exact nI_le (by omega) (by omega)
    rw [S_M_flush_141_eq, L_M_flush_141_eq, if_pos h0]
    exact ⟨⟨fun _ => trivial, fun q => absurd h0 q⟩, z.2.1.1, rfl, fun j => by rw [if_neg (by omega)]⟩
  | succ n ih =>
    intro c fuel z hc hf
    obtain ⟨m, rfl⟩ : ∃ m, fuel = m + 1 := ⟨fuel - 1, by omega⟩
    have h0 : ¬ (5 : Int32) ≤ nI c := by rw [e5]; exact nI_ge (by omega) (by omega)
    have hmu : mu (nI (c + 1)) (5 : Int32) < mu (nI c) (5 : Int32) := by rw [e5]; exact nI_mu (by omega) (by omega)
    rw [S_M_flush_141_eq, L_M_flush_141_eq, if_neg h0, nI_1, nI_clamp (by omega)]
    obtain ⟨i1, f, i2, i3⟩ := ih (c + 1) m (z.1, ((upd z.2.1.1 c (0 : Int32)), z.2.1.2.1, z.2.1.2.2.1, z.2.1.2.2.2.1, z.2.1.2.2.2.2), z.2.2.1, z.2.2.2.1, z.2.2.2.2) (by omega) (by omega)
    refine ⟨⟨fun q => absurd q h0, fun _ => ⟨vp_in_nI (by omega) (by decide), hmu, i1⟩⟩, f, i2, fun j => ?_⟩
    rw [i3]
    show (if c + 1 ≤ j ∧ j < 5 then 0 else upd z.2.1.1 c 0 j) = _
    by_cases q : j = c
    · rw [if_neg (by omega), if_pos (by omega), q, pk_us]
    · rw [pk_un q]
      by_cases q2 : c + 1 ≤ j ∧ j < 5
      · rw [if_pos q2, if_pos (by omega)]
      · rw [if_neg q2, if_neg (by omega)]
theorem M_f141z {L : Nat → List Ent} {V : Vs} {W : Int32 × Fn} (hR : RM g y P (L, V, W) thr) : S_M_flush_141 g (mu (0 : Int32) (5 : Int32) + 1) v1 0 y ∧ FF g P v1 thr W V (L_M_flush_141 g (mu (0 : Int32) (5 : Int32) + 1) v1 0 y) := by
  have e5 : (5 : Int32) = nI 5 := by decide
  have em : mu (0 : Int32) (5 : Int32) = 5 := by rw [e5, mu_nI0 (by omega)]
  rw [em]
  obtain ⟨i1, f, i2, i3⟩ := M_f141 (g := g) (v1 := v1) 5 0 (5 + 1) y (by omega) (by omega)
  rw [nI_0] at i1 i2
  refine ⟨i1, ?_⟩
  rw [i2]
  obtain ⟨g0, b1, b2, r1, r2, r3, r4, r5⟩ := hR
  refine ⟨by rw [b2.2.1], g0, ⟨b1.1, fun c hc => ⟨Nat.zero_le _, ?_, fun k e he => by simp at he⟩⟩, b2, r1, r2, r3, r4, r5⟩
  show f c = nI 0
  rw [i3, if_pos (by omega), nI_0]
theorem RM_V {B : Ab} (hR : RM g y P A thr) (h1 : RL y B.1) (h2 : RV y B.2.1) (h3 : B.2.2 = A.2.2) : RM g y P B thr := by
  obtain ⟨g0, b1, b2, r1, r2, r3, r4, r5⟩ := hR
  exact ⟨g0, h1, h2, r1, r2, by rw [h3]; exact r3, r4, by rw [h3]; exact r5⟩
theorem M_f87 (hP : okP P) (hI : AI P A) (hc : c < P.1.1) {kS : Int32 → Int32 → Ms → Prop} {kc : Int32 → Int32 → Ms → Int32 × Ms} {Q : Vs → Int32 × Ms → Prop} : ∀ (d k fuel : Nat) (V : Vs) (z : Ms), (A.1 c).length = k + d → d < fuel → vl A.2.1 V → RM g z P (A.1, V, A.2.2) thr →
    (∀ z2, RM g z2 P (A.1, (((A.1 c).drop k).filter q_w).foldl (q_wb P.2.2.1) V, A.2.2) thr → kS v1 (nI (c + 1)) z2 ∧ Q ((((A.1 c).drop k).filter q_w).foldl (q_wb P.2.2.1) V) (kc v1 (nI (c + 1)) z2)) →
    S_M_flush_87 g kS fuel v1 (nI c) (nI (64 * c + k)) z ∧ Q ((((A.1 c).drop k).filter q_w).foldl (q_wb P.2.2.1) V) (L_M_flush_87 g kc fuel v1 (nI c) (nI (64 * c + k)) z) := by
  have h4 := hP.1.2
  have hlen := AI_len hP hI (c := c) (by omega)
  intro d
  induction d with
  | zero =>
    intro k fuel V z hk hf hv hR kk
    obtain ⟨m, rfl⟩ : ∃ m, fuel = m + 1 := ⟨fuel - 1, by omega⟩
    have hb : ((64 : Int32) * nI c) + z.2.1.1 (nI c).toNatClampNeg ≤ nI (64 * c + k) := by rw [RL_end hR.2.1 (by omega)]; exact nI_le (by show 64 * c + (A.1 c).length ≤ _; omega) (by omega)
    rw [S_M_flush_87_eq, L_M_flush_87_eq, if_pos hb, nI_1]
    obtain ⟨k1, k2⟩ := kk z (by rw [List.drop_eq_nil_of_le (by omega)]; exact hR)
    exact ⟨⟨vp_in_nI (by omega) (by decide), fun _ => k1, fun q => absurd hb q⟩, k2⟩
  | succ d ih =>
    intro k fuel V z hk hf hv hR kk
    obtain ⟨m, rfl⟩ : ∃ m, fuel = m + 1 := ⟨fuel - 1, by omega⟩
    obtain ⟨e, he⟩ := q_get (L := A.1 c) (k := k) (by omega)
    obtain ⟨t1, t2, t3, t4, t5, t6, t7⟩ := RL_at hR.2.1 (by omega) he
    have hp : vp_in (nI (64 * c + k)) 320 := vp_in_nI t2 (by decide)
    have hb : ¬ ((64 : Int32) * nI c) + z.2.1.1 (nI c).toNatClampNeg ≤ nI (64 * c + k) := by rw [RL_end hR.2.1 (by omega)]; exact nI_ge (by show 64 * c + k < 64 * c + (A.1 c).length; omega) (by show 64 * c + (A.1 c).length < _; omega)
    have hmu : mu (nI (64 * c + (k + 1))) (((64 : Int32) * nI c) + z.2.1.1 (nI c).toNatClampNeg) < mu (nI (64 * c + k)) (((64 : Int32) * nI c) + z.2.1.1 (nI c).toNatClampNeg) := by
      have h := mu_dec hb
      rwa [nI_1] at h
    have e9 : 64 * c + k + 1 = 64 * c + (k + 1) := by omega
    rw [q_drop_cons he, List.filter_cons] at kk ⊢
    rw [S_M_flush_87_eq, L_M_flush_87_eq, if_neg hb, nI_clamp (n := 64 * c + k) (by omega), t3, t4, t5, nI_1 (64 * c + k), e9]
    by_cases q : e.2.1 = 0
    · have q2 : ¬ q_w e = true := fun h => (of_decide_eq_true h) q
      rw [if_neg q2] at kk ⊢
      obtain ⟨i1, i2⟩ := ih (k + 1) m V z (by omega) (by omega) hv hR kk
      rw [if_pos q]
      exact ⟨⟨vp_in_nI (by omega) (by decide), fun q3 => absurd q3 hb, fun _ => ⟨hp, fun _ => ⟨hmu, i1⟩, fun q3 => absurd q q3⟩⟩, i2⟩
    · have q2 : q_w e = true := decide_eq_true q
      rw [if_pos q2, List.foldl_cons] at kk ⊢
      have hkn : knw V e.1 := vl_k hv (hI.2.2.1 c e (List.mem_of_getElem? he) ((hI.2.1 c e (List.mem_of_getElem? he)).resolve_left q))
      obtain ⟨m1, m2⟩ := M_mem (l := e.1) (v := e.2.2.1) hP hR hkn
      obtain ⟨v2, v3, -, -⟩ := V_back_lines (V := V) (l := e.1) (v := e.2.2.1) hP.2.2.2.2.1
      obtain ⟨i1, i2⟩ := ih (k + 1) m (q_wb P.2.2.1 V e) (M_M_toMemory g z e.1 e.2.2.1) (by omega) (by omega) (vl_t hv ⟨v2, v3⟩) m2 kk
      rw [if_neg q]
      refine ⟨⟨vp_in_nI (by omega) (by decide), fun q3 => absurd q3 hb, fun _ => ⟨hp, fun q3 => absurd q3 q, fun _ => ⟨hp, hp, m1, ?_⟩⟩⟩, ?_⟩
      · rw [bnd_eq rfl]
        refine ⟨?_, i1⟩
        have h9 : (M_M_toMemory g z e.1 e.2.2.1).2.1 = z.2.1 := (M_toMem (g := g) (v := e.2.2.1) hP.2.2.2.2.1 hR.2.2.1 hkn).2.2.1
        rw [h9]
        exact hmu
      · rw [bnd_eq rfl]
        exact i2
theorem M_f74 (hP : okP P) (hI : AI P A) : ∀ (n c fuel : Nat) (V : Vs) (z : Ms), c + n = P.1.1 → n < fuel → vl A.2.1 V → RM g z P (A.1, V, A.2.2) thr →
    S_M_flush_74 g fuel v1 (nI c) z ∧ FF g P v1 thr A.2.2 ((((List.range' c n).flatMap A.1).filter q_w).foldl (q_wb P.2.2.1) V) (L_M_flush_74 g fuel v1 (nI c) z) := by
  have h4 := hP.1.2
  intro n
  induction n with
  | zero =>
    intro c fuel V z hc hf hv hR
    obtain ⟨m, rfl⟩ : ∃ m, fuel = m + 1 := ⟨fuel - 1, by omega⟩
    have h0 : nI P.1.1 ≤ nI c := nI_le (by omega) (by omega)
    obtain ⟨i1, i2⟩ := M_f141z (v1 := v1) hR
    rw [S_M_flush_74_eq, L_M_flush_74_eq, M_cores hR, if_pos h0]
    exact ⟨⟨fun _ => i1, fun q => absurd h0 q⟩, i2⟩
  | succ n ih =>
    intro c fuel V z hc hf hv hR
    obtain ⟨m, rfl⟩ : ∃ m, fuel = m + 1 := ⟨fuel - 1, by omega⟩
    have h0 : ¬ nI P.1.1 ≤ nI c := nI_ge (by omega) (by omega)
    have hmu := nI_mu (a := c) (n := P.1.1) (by omega) (by omega)
    have h9 := M_f87 (g := g) (v1 := v1) (thr := thr) hP hI (c := c) (by omega) (kS := fun (a1 a2 : Int32) (z9 : Ms) => (mu a2 (nI P.1.1) < mu (nI c) (nI P.1.1) ∧ S_M_flush_74 g m a1 a2 z9)) (kc := fun (a1 a2 : Int32) (z9 : Ms) => L_M_flush_74 g m a1 a2 z9) (Q := fun V2 r => FF g P v1 thr A.2.2 ((((List.range' (c + 1) n).flatMap A.1).filter q_w).foldl (q_wb P.2.2.1) V2) r) (A.1 c).length 0 ((A.1 c).length + 1) V z (by omega) (by omega) hv hR (fun z2 hz2 => by
      have hv2 : vl A.2.1 ((((A.1 c).drop 0).filter q_w).foldl (q_wb P.2.2.1) V) := vl_t hv (q_wb_vl hP.2.2.2.2.1 _ V).1
      obtain ⟨i1, i2⟩ := ih (c + 1) m _ z2 (by omega) (by omega) hv2 hz2
      exact ⟨⟨hmu, i1⟩, i2⟩)
    rw [List.drop_zero] at h9
    obtain ⟨k1, k2⟩ := h9
    rw [S_M_flush_74_eq, L_M_flush_74_eq, M_cores hR, if_neg h0, RL_fuel hR.2.1 (by omega), e64]
    rw [List.range'_succ, List.flatMap_cons, List.filter_append, List.foldl_append]
    exact ⟨⟨fun q => absurd q h0, fun _ => k1⟩, k2⟩
theorem M_f14 (hP : okP P) (hI : AI P A) : ∀ (d k fuel : Nat) (V : Vs) (z : Ms), (A.1 4).length = k + d → d < fuel → vl A.2.1 V → RM g z P (A.1, V, A.2.2) thr → AI P (A.1, V, A.2.2) →
    S_M_flush_14 g fuel v1 (nI (64 * 4 + k)) z ∧ FF g P v1 thr A.2.2 ((((List.range P.1.1).flatMap A.1).filter q_w).foldl (q_wb P.2.2.1) ((((A.1 4).drop k).filter (q_w2 P A)).foldl (q_wb P.2.2.1) V)) (L_M_flush_14 g fuel v1 (nI (64 * 4 + k)) z) := by
  have h4 := hP.1.2
  have hlen := AI_len hP hI (c := 4) (by omega)
  have e4 : nI 4 = (4 : Int32) := by decide
  have e256 : (64 : Int32) * 4 = 256 := by decide
  have hin4 : vp_in (4 : Int32) 5 := by rw [← e4]; exact vp_in_nI (by omega) (by decide)
  intro d
  induction d with
  | zero =>
    intro k fuel V z hk hf hv hR hIV
    obtain ⟨m, rfl⟩ : ∃ m, fuel = m + 1 := ⟨fuel - 1, by omega⟩
    have hend := RL_end hR.2.1 (c := 4) (by omega)
    rw [e4, e256] at hend
    have hb : (256 : Int32) + z.2.1.1 (4 : Int32).toNatClampNeg ≤ nI (64 * 4 + k) := by rw [hend]; exact nI_le (by show 64 * 4 + (A.1 4).length ≤ _; omega) (by omega)
    obtain ⟨i1, i2⟩ := M_f74 (g := g) (v1 := v1) hP hI P.1.1 0 (P.1.1 + 1) V z (by omega) (by omega) hv hR
    rw [nI_0] at i1 i2
    rw [S_M_flush_14_eq, L_M_flush_14_eq, if_pos hb, M_cores hR, mu_nI0 (by omega), List.drop_eq_nil_of_le (by omega)]
    rw [List.range_eq_range']
    exact ⟨⟨hin4, fun _ => i1, fun q => absurd hb q⟩, i2⟩
  | succ d ih =>
    intro k fuel V z hk hf hv hR hIV
    obtain ⟨m, rfl⟩ : ∃ m, fuel = m + 1 := ⟨fuel - 1, by omega⟩
    have hend := RL_end hR.2.1 (c := 4) (by omega)
    rw [e4, e256] at hend
    obtain ⟨e, he⟩ := q_get (L := A.1 4) (k := k) (by omega)
    obtain ⟨t1, t2, t3, t4, t5, t6, t7⟩ := RL_at hR.2.1 (by omega) he
    have hp : vp_in (nI (64 * 4 + k)) 320 := vp_in_nI t2 (by decide)
    have hb : ¬ (256 : Int32) + z.2.1.1 (4 : Int32).toNatClampNeg ≤ nI (64 * 4 + k) := by rw [hend]; exact nI_ge (by show 64 * 4 + k < 64 * 4 + (A.1 4).length; omega) (by show 64 * 4 + (A.1 4).length < _; omega)
    have hmu : mu (nI (64 * 4 + (k + 1))) ((256 : Int32) + z.2.1.1 (4 : Int32).toNatClampNeg) < mu (nI (64 * 4 + k)) ((256 : Int32) + z.2.1.1 (4 : Int32).toNatClampNeg) := by
      have h := mu_dec hb
      rwa [nI_1] at h
    have e9 : 64 * 4 + k + 1 = 64 * 4 + (k + 1) := by omega
    obtain ⟨w1, w2⟩ := M_isw0 hP hIV hR e.1
    rw [q_drop_cons he, List.filter_cons, S_M_flush_14_eq, L_M_flush_14_eq, if_neg hb, nI_clamp (n := 64 * 4 + k) (by omega), t3, t4, t5, nI_1 (64 * 4 + k), e9, bnd_eq (x := M_M_isWrittenInFirst g z e.1) rfl, bnd_eq (x := M_M_isWrittenInFirst g z e.1) rfl]
    obtain ⟨i1, i2⟩ := ih (k + 1) m V z (by omega) (by omega) hv hR hIV
    have hkn : e.2.1 = 1 → knw V e.1 := fun h => vl_k hv (hI.2.2.1 4 e (List.mem_of_getElem? he) h)
    by_cases q : e.2.1 = 0
    · have q2 : ¬ q_w2 P A e = true := fun h => (of_decide_eq_true h).1 q
      rw [if_neg q2, if_pos q]
      exact ⟨⟨hin4, fun q3 => absurd q3 hb, fun _ => ⟨hp, fun _ => ⟨hmu, i1⟩, fun q3 => absurd q q3⟩⟩, i2⟩
    · rw [if_neg q]
      have hk1 := hkn (t7.resolve_left q)
      by_cases q4 : M_M_isWrittenInFirst g z e.1 = 0
      · have q2 : q_w2 P A e = true := decide_eq_true ⟨q, w2.mp q4⟩
        obtain ⟨m1, m2⟩ := M_mem (l := e.1) (v := e.2.2.1) hP hR hk1
        obtain ⟨v2, v3, -, -⟩ := V_back_lines (V := V) (l := e.1) (v := e.2.2.1) hP.2.2.2.2.1
        have hI9 := AI_mem (A := (A.1, V, A.2.2)) (l := e.1) (v := e.2.2.1) hP hIV
        have hI8 : AI P (A.1, q_wb P.2.2.1 V e, A.2.2) := hI9
        have m3 : RM g (M_M_toMemory g z e.1 e.2.2.1) P (A.1, q_wb P.2.2.1 V e, A.2.2) thr := m2
        have v4 : vl A.2.1 (q_wb P.2.2.1 V e) := vl_t hv ⟨v2, v3⟩
        obtain ⟨j1, j2⟩ := ih (k + 1) m (q_wb P.2.2.1 V e) (M_M_toMemory g z e.1 e.2.2.1) (by omega) (by omega) v4 m3 hI8
        rw [if_pos q4, if_pos q2, List.foldl_cons]
        refine ⟨⟨hin4, fun q3 => absurd q3 hb, fun _ => ⟨hp, fun q3 => absurd q3 q, fun _ => ⟨hp, w1, fun _ => ⟨hp, hp, m1, ?_⟩, fun q3 => absurd q4 q3⟩⟩⟩, ?_⟩
        · rw [bnd_eq rfl]
          refine ⟨?_, j1⟩
          have h9 : (M_M_toMemory g z e.1 e.2.2.1).2.1 = z.2.1 := (M_toMem (g := g) (v := e.2.2.1) hP.2.2.2.2.1 hR.2.2.1 hk1).2.2.1
          rw [h9]
          exact hmu
        · rw [bnd_eq rfl]
          exact j2
      · have q2 : ¬ q_w2 P A e = true := fun h => q4 (w2.mpr (of_decide_eq_true h).2)
        rw [if_neg q4, if_neg q2]
        exact ⟨⟨hin4, fun q3 => absurd q3 hb, fun _ => ⟨hp, fun q3 => absurd q3 q, fun _ => ⟨hp, w1, fun q3 => absurd q3 q4, fun _ => ⟨hmu, i1⟩⟩⟩⟩, i2⟩
theorem M_flush (hP : okP P) (hI : AI P A) (hR : RM g y P A thr) : S_M_flush g y ∧ (M_M_flush g y).1 = (a_fl P A).1 - A.2.1.1 ∧ RM g (M_M_flush g y).2 P (a_flush P A) 0 := by
  have hlen := AI_len hP hI (c := 4) (by omega)
  have hR0 := M_thr hR 0
  have e4 : nI 4 = (4 : Int32) := by decide
  have e256 : (64 : Int32) * 4 = 256 := by decide
  have e256n : nI (64 * 4 + 0) = (256 : Int32) := by decide
  obtain ⟨h1, h2⟩ := M_f14 (g := g) (v1 := A.2.1.1) hP hI (A.1 4).length 0 ((A.1 4).length + 1) A.2.1 _ (by omega) (by omega) (vl_r _) hR0 hI
  have hfu := RL_fuel hR0.2.1 (c := 4) (by omega)
  rw [e4, e256] at hfu
  rw [e256n] at h1 h2
  unfold S_M_flush M_M_flush
  rw [hfu, hR.2.2.1.2.1]
  rw [hR.2.2.1.2.1] at h1 h2
  rw [List.drop_zero] at h2
  exact ⟨h1, h2.1, h2.2⟩
end FlushM
