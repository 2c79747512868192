section Query2
variable {n : Nat} {g : GC} {gm : GM} {x : Cs} {y : Ms} {P : Pm} {A : Ab} {thr : Int32} {c : Nat} {l : Int32}
theorem nI_m1 {j : Nat} (h : j < 2 ^ 31) : ¬ nI j = -1 := nI_n1 h
theorem M_cacheOf_n : M_M_cacheOf gm y (-1) = (4, ((0, y.1.2.1, y.1.2.2.1, y.1.2.2.2.1, y.1.2.2.2.2.1, y.1.2.2.2.2.2), y.2.1, y.2.2.1, y.2.2.2.1, y.2.2.2.2)) := by
  unfold M_M_cacheOf
  rw [if_pos rfl]
  unfold L_M_cacheOf_30
  rw [if_neg (by decide)]
  rfl
theorem M_cacheOf_c (hP : okP P) (hR : RM gm y P A thr) (hc : c < P.1.1) : M_M_cacheOf gm y (nI c) = (nI c, ((0, y.1.2.1, y.1.2.2.1, y.1.2.2.2.1, y.1.2.2.2.2.1, y.1.2.2.2.2.2), y.2.1, y.2.2.1, y.2.2.2.1, y.2.2.2.2)) := by
  have h4 := hP.1
  have hw := M_within (p := nI c) h4.1 (by omega)
  rw [if_pos (M_core_lt hP hc)] at hw
  unfold M_M_cacheOf
  rw [if_neg (nI_n1 (by omega)), M_cores hR, bnd_eq hw.symm, if_neg i10]
  unfold L_M_cacheOf_30
  rw [if_neg (fun q => nI_pos (n := c) (by omega) (by rw [q]; decide))]
  rfl
theorem M_cacheOf_x (hP : okP P) (hR : RM gm y P A thr) {p : Int32} (h : ¬ (¬ p < 0 ∧ p < nI P.1.1)) (hp : ¬ p = -1) : M_M_cacheOf gm y p = (-2, ((1, y.1.2.1, y.1.2.2.1, y.1.2.2.2.1, y.1.2.2.2.2.1, y.1.2.2.2.2.2), y.2.1, y.2.2.1, y.2.2.2.1, y.2.2.2.2)) := by
  have h4 := hP.1
  have hw := M_within (p := p) h4.1 (by omega)
  rw [if_neg h] at hw
  unfold M_M_cacheOf
  rw [if_neg hp, M_cores hR, bnd_eq hw.symm, if_pos rfl]
  unfold L_M_cacheOf_30
  rw [if_pos rfl]
  rfl
/-- what holds answers of a cache -/
theorem M_h22 (hA : AI P A) (hR : RM gm y P A thr) (hc : c < 5) (p0 p1 : Int32) : S_M_at gm y (nI c) p1 ∧ S_M_holds_22 gm p0 p1 (M_M_at gm y (nI c) p1) y ∧ ∃ r, L_M_holds_22 gm p0 p1 (M_M_at gm y (nI c) p1) y = (r, y) ∧ ((q_look p1 (A.1 c) = none ∧ r = 0) ∨ ∃ e, q_look p1 (A.1 c) = some e ∧ r = if e.2.1 = 0 then 1 else 2) := by
  obtain ⟨a1, a2⟩ := M_atc hA hR hc p1
  refine ⟨a1, ?_⟩
  unfold S_M_holds_22 L_M_holds_22
  rcases a2 with ⟨k, e, h1, h2, h3, h5, h6⟩ | ⟨h1, h2⟩
  · obtain ⟨t1, t2, t3, t4, t5, t6, t7⟩ := RL_at hR.2.1 hc h2
    have hn : (0 : Int32) ≤ nI (64 * c + k) := nI_pos' (by omega)
    rw [h5, if_pos hn, nI_clamp (n := 64 * c + k) (by omega), t4]
    refine ⟨⟨fun _ => ⟨vp_in_nI h6 (by decide), fun _ => trivial, fun _ => trivial⟩, fun q => absurd hn q⟩, ?_⟩
    by_cases q : e.2.1 = 0
    · rw [if_pos q]
      exact ⟨1, rfl, Or.inr ⟨e, h1, by rw [if_pos q]⟩⟩
    · rw [if_neg q]
      exact ⟨2, rfl, Or.inr ⟨e, h1, by rw [if_neg q]⟩⟩
  · rw [h2, if_neg (by decide)]
    exact ⟨⟨fun q => absurd q (by decide), fun _ => trivial⟩, 0, rfl, Or.inl ⟨h1, rfl⟩⟩
theorem I_holds (hI : INV n g gm x y) (p0 p1 : Int32) : S_M_holds gm y p0 p1 ∧ (((p0 < 0 ∨ ¬ p0 < g.2.1.1) ∧ ¬ p0 = -1 ∧ (M_M_holds gm y p0 p1).2.1.1 = 1 ∧ INV n g gm x (M_M_holds gm y p0 p1).2) ∨ (p0 = -1 ∧ (M_M_holds gm y p0 p1).2.1.1 = 0 ∧ M_C_holds_n g x p0 p1 = (M_M_holds gm y p0 p1).1 ∧ INV n g gm x (M_M_holds gm y p0 p1).2) ∨ ((¬ p0 < 0 ∧ p0 < g.2.1.1 ∧ ¬ p0 = -1) ∧ (M_M_holds gm y p0 p1).2.1.1 = 0 ∧ M_C_holds_c g x p0 p1 = (M_M_holds gm y p0 p1).1 ∧ INV n g gm x (M_M_holds gm y p0 p1).2)) := by
  obtain ⟨P, A, thr, hP, hA, hC, hM, hs⟩ := hI
  have h4 := hP.1.2
  have hM0 := M_thr hM 0
  by_cases hq : p0 = -1
  · subst hq
    obtain ⟨a1, a2, r, a3, a4⟩ := M_h22 hA hM0 (c := 4) (by omega) (-1) p1
    have e4 : nI 4 = (4 : Int32) := by decide
    rw [e4] at a1 a2 a3
    have ec := M_cacheOf_n (gm := gm) (y := y)
    unfold S_M_holds M_M_holds
    rw [bnd2_eq ec.symm, bnd2_eq ec.symm, if_pos (by decide), bnd_eq rfl, bnd_eq rfl, a3]
    refine ⟨⟨fun _ => ⟨a1, a2⟩, fun q => absurd (by decide) q⟩, Or.inr (Or.inl ⟨rfl, rfl, ?_, P, A, 0, hP, hA, hC, hM0, hs⟩)⟩
    unfold M_C_holds_n
    have eg : M_C_groupOf (-1) = 0 := by decide
    rw [bnd_eq eg.symm]
    rcases C_find2 hA hC p1 with ⟨e2, k1, k2, k3⟩ | ⟨k1, k2⟩
    · obtain ⟨-, -, s3, -, s5, -⟩ := SB_val hC.2.2.1 (by omega) k3
      rw [bnd_eq rfl, if_neg s5, bnd_eq s3.symm]
      rcases a4 with ⟨b1, -⟩ | ⟨e, b1, b2⟩
      · rw [k1] at b1
        cases b1
      · rw [k1] at b1
        cases b1
        exact b2.symm
    · rw [bnd_eq k2.symm, if_pos rfl]
      rcases a4 with ⟨-, b2⟩ | ⟨e, b1, -⟩
      · exact b2.symm
      · rw [k1] at b1
        cases b1
  · by_cases hc : ¬ p0 < 0 ∧ p0 < nI P.1.1
    · obtain ⟨c1, c2, c, c3, rfl⟩ := core_ok hP hC hc
      obtain ⟨a1, a2, r, a3, a4⟩ := M_h22 hA hM0 (c := c) (by omega) (nI c) p1
      have ec := M_cacheOf_c hP hM c3
      have hn : (0 : Int32) ≤ nI c := nI_pos' (by omega)
      unfold S_M_holds M_M_holds
      rw [bnd2_eq ec.symm, bnd2_eq ec.symm, if_pos hn, bnd_eq rfl, bnd_eq rfl, a3]
      refine ⟨⟨fun _ => ⟨a1, a2⟩, fun q => absurd hn q⟩, Or.inr (Or.inr ⟨⟨c1, c2, hq⟩, rfl, ?_, P, A, 0, hP, hA, hC, hM0, hs⟩)⟩
      unfold M_C_holds_c
      have eg : M_C_groupOf (nI c) = nI c := by
        unfold M_C_groupOf
        rw [if_neg hq]
      rw [bnd_eq eg.symm]
      rcases C_find1 hA hC c3 p1 with ⟨e2, k1, k2, k3⟩ | ⟨k1, k2⟩
      · obtain ⟨-, -, s3, -, s5, -⟩ := SB_val hC.2.1 c3 k3
        rw [bnd_eq rfl, if_neg s5, bnd_eq s3.symm]
        rcases a4 with ⟨b1, -⟩ | ⟨e, b1, b2⟩
        · rw [k1] at b1
          cases b1
        · rw [k1] at b1
          cases b1
          exact b2.symm
      · rw [bnd_eq k2.symm, if_pos rfl]
        rcases a4 with ⟨-, b2⟩ | ⟨e, b1, -⟩
        · exact b2.symm
        · rw [k1] at b1
          cases b1
    · have ec := M_cacheOf_x hP hM hc hq
      have hn : ¬ (0 : Int32) ≤ -2 := by decide
      have em : M_M_holds gm y p0 p1 = (0, ((1, y.1.2.1, y.1.2.2.1, y.1.2.2.2.1, y.1.2.2.2.2.1, y.1.2.2.2.2.2), y.2.1, y.2.2.1, y.2.2.2.1, y.2.2.2.2)) := by
        unfold M_M_holds
        rw [bnd2_eq ec.symm, if_neg hn]
        unfold L_M_holds_22
        rw [if_neg (by decide)]
      have es : S_M_holds gm y p0 p1 := by
        unfold S_M_holds
        rw [bnd2_eq ec.symm]
        exact ⟨fun q => absurd q hn, fun _ => ⟨fun q => absurd q (by decide), fun _ => trivial⟩⟩
      rw [em]
      exact ⟨es, Or.inl ⟨core_bad hP hC hc, hq, rfl, P, A, 1, hP, hA, hC, M_thr hM 1, hs⟩⟩
/-- what version reads when no first cache of the core has the line -/
def a_ver (P : Pm) (A : Ab) (l : Int32) : Int32 := match q_look l (A.1 4) with
  | some e => e.2.2.1
  | none => M_V_inMemory P.2.2.1 A.2.1 l
theorem M_v76k (hR : RM gm y P A thr) (hc : c < 5) {k : Nat} {e : Ent} (he : (A.1 c)[k]? = some e) (p0 p1 : Int32) : S_M_version_76 gm p0 p1 (nI (64 * c + k)) y ∧ L_M_version_76 gm p0 p1 (nI (64 * c + k)) y = (e.2.2.1, y) := by
  obtain ⟨t1, t2, t3, t4, t5, t6, t7⟩ := RL_at hR.2.1 hc he
  have hn : (0 : Int32) ≤ nI (64 * c + k) := nI_pos' (by omega)
  unfold S_M_version_76 L_M_version_76 S_M_version_87 L_M_version_87
  rw [if_pos hn, if_pos hn, nI_clamp (n := 64 * c + k) (by omega), t5]
  exact ⟨⟨fun _ => ⟨fun _ => ⟨vp_in_nI t2 (by decide), trivial⟩, fun q => absurd hn q⟩, fun q => absurd hn q⟩, rfl⟩
theorem M_v76n (hP : okP P) (hA : AI P A) (hR : RM gm y P A thr) (p0 p1 : Int32) : S_M_version_76 gm p0 p1 (-1) y ∧ L_M_version_76 gm p0 p1 (-1) y = (a_ver P A p1, y) := by
  obtain ⟨a1, a2⟩ := M_at4 hA hR p1
  have hm : ¬ (0 : Int32) ≤ -1 := by decide
  unfold S_M_version_76 L_M_version_76 S_M_version_87 L_M_version_87 a_ver
  rw [if_neg hm]
  rcases a2 with ⟨k, e, h1, h2, h3, h5, h6⟩ | ⟨h1, h2⟩
  · obtain ⟨t1, t2, t3, t4, t5, t6, t7⟩ := RL_at hR.2.1 (by omega) h2
    have hn : (0 : Int32) ≤ nI (64 * 4 + k) := nI_pos' (by omega)
    rw [h1, bnd_eq h5.symm, bnd_eq h5.symm, if_pos hn, nI_clamp (n := 64 * 4 + k) (by omega), t5]
    exact ⟨⟨fun q => absurd q hm, fun _ => ⟨a1, fun _ => ⟨vp_in_nI h6 (by decide), trivial⟩, fun q => absurd hn q⟩⟩, rfl⟩
  · obtain ⟨v1, v2⟩ := V_mem (g := gm) (l := p1) hP.2.2.2.2.1 hR.2.2.1
    rw [h1, bnd_eq h2.symm, bnd_eq h2.symm, if_neg hm]
    refine ⟨⟨fun q => absurd q hm, fun _ => ⟨a1, fun q => absurd q hm, fun _ => ⟨v1, ?_⟩⟩⟩, ?_⟩
    · rw [bnd_eq rfl]; trivial
    · rw [bnd_eq v2.symm]
theorem M_v20k (hP : okP P) (hR : RM gm y P A thr) {d : Nat} (hd : d < 5) {k : Nat} {e : Ent} (he : (A.1 d)[k]? = some e) (p0 p1 : Int32) (c m : Nat) : S_M_version_20 gm p0 p1 (m + 1) (nI (64 * d + k)) (nI c) y ∧ L_M_version_20 gm p0 p1 (m + 1) (nI (64 * d + k)) (nI c) y = (e.2.2.1, y) := by
  obtain ⟨a1, a2⟩ := M_v76k hR hd he p0 p1
  obtain ⟨t1, t2, -⟩ := RL_at hR.2.1 hd he
  have hn : (0 : Int32) ≤ nI (64 * d + k) := nI_pos' (by omega)
  rw [S_M_version_20_eq, L_M_version_20_eq]
  refine ⟨⟨fun _ => a1, fun _ => ⟨fun _ => a1, fun q => absurd hn q⟩⟩, ?_⟩
  by_cases q : gm.2.1 ≤ nI c
  · rw [if_pos q]; exact a2
  · rw [if_neg q, if_pos hn]; exact a2
theorem M_v20 (hP : okP P) (hA : AI P A) (hR : RM gm y P A thr) (p0 p1 : Int32) : ∀ (n c fuel : Nat), c + n = P.1.1 → n < fuel → S_M_version_20 gm p0 p1 fuel (-1) (nI c) y ∧ L_M_version_20 gm p0 p1 fuel (-1) (nI c) y = ((match a_wif A.1 p1 n c with | none => a_ver P A p1 | some q => q.2.2.2.1), y) := by
  have h4 := hP.1.2
  have hm : ¬ (0 : Int32) ≤ -1 := by decide
  have hm1 : (-1 : Int32) < 0 := by decide
  intro n
  induction n with
  | zero =>
    intro c fuel hc hf
    obtain ⟨m, rfl⟩ : ∃ m, fuel = m + 1 := ⟨fuel - 1, by omega⟩
    have h0 : nI P.1.1 ≤ nI c := nI_le (by omega) (by omega)
    obtain ⟨a1, a2⟩ := M_v76n hP hA hR p0 p1
    rw [S_M_version_20_eq, L_M_version_20_eq, M_cores hR, if_pos h0]
    exact ⟨⟨fun _ => a1, fun q => absurd h0 q⟩, a2⟩
  | succ n ih =>
    intro c fuel hc hf
    obtain ⟨m, rfl⟩ : ∃ m, fuel = m + 1 := ⟨fuel - 1, by omega⟩
    have h0 : ¬ nI P.1.1 ≤ nI c := nI_ge (by omega) (by omega)
    have hmu := nI_mu (a := c) (n := P.1.1) (by omega) (by omega)
    obtain ⟨a1, a2⟩ := M_atc hA hR (c := c) (by omega) p1
    obtain ⟨i1, i2⟩ := ih (c + 1) m (by omega) (by omega)
    rw [S_M_version_20_eq, L_M_version_20_eq, M_cores hR, if_neg h0, if_neg hm, nI_1]
    unfold a_wif
    rcases a2 with ⟨k, e, h1, h2, h3, h5, h6⟩ | ⟨h1, h2⟩
    · obtain ⟨t1, t2, t3, t4, t5, t6, t7⟩ := RL_at hR.2.1 (by omega) h2
      have hn : ¬ nI (64 * c + k) < 0 := nI_pos (by omega)
      have hp : vp_in (nI (64 * c + k)) 320 := vp_in_nI h6 (by decide)
      obtain ⟨j1, j2⟩ := M_v20k hP hR (d := c) (by omega) h2 p0 p1 (c + 1) (m - 1)
      have em : m - 1 + 1 = m := by omega
      rw [em] at j1 j2
      have hS : (¬ nI (64 * c + k) < 0 → S_M_at gm y (nI c) p1 ∧ bnd (M_M_at gm y (nI c) p1) (fun r_51 => vp_in r_51 320 ∧ (y.2.1.2.2.1 r_51.toNatClampNeg = 0 → mu (nI (c + 1)) (nI P.1.1) < mu (nI c) (nI P.1.1) ∧ S_M_version_20 gm p0 p1 m (-1) (nI (c + 1)) y) ∧ (¬ y.2.1.2.2.1 r_51.toNatClampNeg = 0 → S_M_at gm y (nI c) p1 ∧ bnd (M_M_at gm y (nI c) p1) (fun r_62 => mu (nI (c + 1)) (nI P.1.1) < mu (nI c) (nI P.1.1) ∧ S_M_version_20 gm p0 p1 m r_62 (nI (c + 1)) y)))) := fun _ => by
        refine ⟨a1, ?_⟩
        rw [bnd_eq h5.symm]
        refine ⟨hp, fun _ => ⟨hmu, i1⟩, fun _ => ⟨a1, ?_⟩⟩
        rw [bnd_eq h5.symm]
        exact ⟨hmu, j1⟩
      refine ⟨⟨fun q => absurd q h0, fun _ => ⟨fun q => absurd q hm, fun _ => ⟨a1, ?_⟩⟩⟩, ?_⟩
      · rw [bnd_eq h5.symm]
        exact ⟨fun q => absurd q hn, hS⟩
      · rw [bnd_eq h5.symm, if_neg hn, bnd_eq h5.symm, nI_clamp (n := 64 * c + k) (by omega), t4, h1]
        simp only []
        by_cases q : e.2.1 = 0
        · rw [if_pos q, if_pos q]
          exact i2
        · rw [if_neg q, if_neg q, bnd_eq h5.symm]
          exact j2
    · refine ⟨⟨fun q => absurd q h0, fun _ => ⟨fun q => absurd q hm, fun _ => ⟨a1, ?_⟩⟩⟩, ?_⟩
      · rw [bnd_eq h2.symm]
        exact ⟨fun _ => ⟨hmu, i1⟩, fun q => absurd hm1 q⟩
      · rw [bnd_eq h2.symm, if_pos hm1, h1]
        exact i2
theorem I_version (hI : INV n g gm x y) (p0 p1 : Int32) : S_M_version gm y p0 p1 ∧ (((p0 < 0 ∨ ¬ p0 < g.2.1.1) ∧ (M_M_version gm y p0 p1).2.1.1 = 1 ∧ INV n g gm x (M_M_version gm y p0 p1).2) ∨ ((¬ p0 < 0 ∧ p0 < g.2.1.1) ∧ (M_M_version gm y p0 p1).2.1.1 = 0 ∧ M_C_version g x p0 p1 = (M_M_version gm y p0 p1).1 ∧ INV n g gm x (M_M_version gm y p0 p1).2)) := by
  obtain ⟨P, A, thr, hP, hA, hC, hM, hs⟩ := hI
  have h4 := hP.1.2
  have hM0 := M_thr hM 0
  by_cases hc : ¬ p0 < 0 ∧ p0 < nI P.1.1
  · obtain ⟨c1, c2, c, c3, rfl⟩ := core_ok hP hC hc
    have ec := M_isCore_y hP hM hc
    obtain ⟨a1, a2⟩ := M_atc hA hM0 (c := c) (by omega) p1
    unfold S_M_version M_M_version M_C_version
    rw [bnd2_eq ec.symm, bnd2_eq ec.symm, if_neg i10, M_cores hM, mu_nI0 (by omega)]
    rcases a2 with ⟨k, e, h1, h2, h3, h5, h6⟩ | ⟨h1, h2⟩
    · obtain ⟨j1, j2⟩ := M_v20k hP hM0 (d := c) (by omega) h2 (nI c) p1 0 P.1.1
      rw [nI_0] at j1 j2
      rw [bnd_eq h5.symm, bnd_eq h5.symm, j2]
      refine ⟨⟨fun q => absurd q i10, fun _ => ⟨a1, j1⟩⟩, Or.inr ⟨⟨c1, c2⟩, rfl, ?_, P, A, 0, hP, hA, hC, hM0, hs⟩⟩
      rcases C_find1 hA hC c3 p1 with ⟨e2, k1, k2, k3⟩ | ⟨k1, k2⟩
      · obtain ⟨-, s2, -, -, s5, -⟩ := SB_val hC.2.1 c3 k3
        rw [bnd_eq rfl, if_neg s5, bnd_eq s2.symm]
        rw [h1] at k1
        cases k1
        rfl
      · rw [h1] at k1
        cases k1
    · obtain ⟨j1, j2⟩ := M_v20 hP hA hM0 (nI c) p1 P.1.1 0 (P.1.1 + 1) (by omega) (by omega)
      rw [nI_0] at j1 j2
      rw [bnd_eq h2.symm, bnd_eq h2.symm, j2]
      refine ⟨⟨fun q => absurd q i10, fun _ => ⟨a1, j1⟩⟩, Or.inr ⟨⟨c1, c2⟩, rfl, ?_, P, A, 0, hP, hA, hC, hM0, hs⟩⟩
      rcases C_find1 hA hC c3 p1 with ⟨e2, k1, k2, k3⟩ | ⟨k1, k2⟩
      · rw [h1] at k1
        cases k1
      · rw [bnd_eq k2.symm, if_pos rfl]
        rcases C_wif0 hP hA hC p1 with ⟨w1, w2⟩ | ⟨d, e, w1, w2⟩
        · rw [bnd_eq w2.symm, if_pos rfl, w1]
          simp only []
          unfold a_ver
          rcases C_find2 hA hC p1 with ⟨e2, q1, q2, q3⟩ | ⟨q1, q2⟩
          · obtain ⟨-, s2, -, -, s5, -⟩ := SB_val hC.2.2.1 (by omega) q3
            rw [bnd_eq rfl, if_neg s5, bnd_eq s2.symm, q1]
          · rw [bnd_eq q2.symm, if_pos rfl, bnd_eq rfl, q1, hC.1.2.2.2, hC.2.2.2.2.2.1]
        · obtain ⟨-, u2, -, -⟩ := a_wif_some _ _ w1
          obtain ⟨-, s2, -, -, s5, -⟩ := SB_val hC.2.1 (by omega) w2
          rw [bnd_eq rfl, if_neg s5, bnd_eq s2.symm, w1]
  · have ec := M_isCore_n hP hM hc
    have em : M_M_version gm y p0 p1 = (0, ((1, y.1.2.1, y.1.2.2.1, y.1.2.2.2.1, y.1.2.2.2.2.1, y.1.2.2.2.2.2), y.2.1, y.2.2.1, y.2.2.2.1, y.2.2.2.2)) := by
      unfold M_M_version
      rw [bnd2_eq ec.symm, if_pos rfl]
    have es : S_M_version gm y p0 p1 := by
      unfold S_M_version
      rw [bnd2_eq ec.symm]
      exact ⟨fun _ => trivial, fun q => absurd rfl q⟩
    rw [em]
    exact ⟨es, Or.inl ⟨core_bad hP hC hc, rfl, P, A, 1, hP, hA, hC, M_thr hM 1, hs⟩⟩
end Query2
