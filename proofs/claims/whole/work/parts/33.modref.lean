-- the reference does what the lists say
def RM (g : GM) (y : Ms) (P : Pm) (A : Ab) (thr : Int32) : Prop := gM g P.1.1 P.2.1 P.1.2.1 P.1.2.2 ∧ RL y A.1 ∧ RV y A.2.1 ∧ y.1.1 = thr ∧ psOf y.1.2.1 y.1.2.2.1 = P.2.2.2.2 ∧ y.1.2.2.2.2.2 = A.2.2.1 ∧ (∀ c, c < P.1.1 → y.2.2.1 c = P.2.2.2.1 c) ∧ y.2.2.2.2 = A.2.2.2
theorem e7n (c k : Nat) : ((7 : Int32) * nI c) + nI k = nI (7 * c + k) := by
  have e : (7 : Int32) = nI 7 := by decide
  rw [e, pk_mul, nI_add]
section ModRef
variable {g : GM} {y : Ms} {P : Pm} {A : Ab} {c : Nat} {l v w thr : Int32} {e : Ent}
theorem M_tal (hR : RM g y P A thr) (i : Nat) : RM g (y.1, y.2.1, y.2.2.1, y.2.2.2.1, upd y.2.2.2.2 i (y.2.2.2.2 i + 1)) P (a_tal A i) thr := by
  obtain ⟨g0, b1, b2, r1, r2, r3, r4, r5⟩ := hR
  refine ⟨g0, b1, b2, r1, r2, r3, r4, ?_⟩
  show upd y.2.2.2.2 i (y.2.2.2.2 i + 1) = upd A.2.2.2 i (A.2.2.2 i + 1)
  rw [r5]
theorem M_set (hR : RM g y P A thr) {K : List Ent} {z : Ms} (h1 : RL z (q_set A.1 c K)) (h2 : z.1 = y.1) (h3 : z.2.2 = y.2.2) : RM g z P (a_setL A c K) thr := by
  obtain ⟨g0, b1, b2, r1, r2, r3, r4, r5⟩ := hR
  unfold RM RV at *
  rw [h2, h3]
  exact ⟨g0, h1, b2, r1, r2, r3, r4, r5⟩
theorem M_mem (hP : okP P) (hR : RM g y P A thr) (hk : knw A.2.1 l) : S_M_toMemory g y l v ∧ RM g (M_M_toMemory g y l v) P (a_mem P A l v) thr := by
  obtain ⟨g0, b1, b2, r1, r2, r3, r4, r5⟩ := hR
  obtain ⟨s1, s2, s3, s4, s5, s6, s7, s8, s9⟩ := M_toMem (g := g) (v := v) hP.2.2.2.2.1 b2 hk
  refine ⟨s1, g0, RL_same s3 b1, s2, s6.trans r1, ?_, s9.trans r3, ?_, s5.trans r5⟩
  · rw [s7, s8]; exact r2
  · rw [s4]; exact r4
theorem M_pass (hR : RM g y P A thr) : M_M_passes g y l = if P.2.2.2.2 l = true then 1 else 0 := by
  rw [← hR.2.2.2.2.1]
  unfold M_M_passes psOf
  by_cases h1 : l < y.1.2.1
  · rw [if_pos h1, if_neg (by simp [h1])]
  · rw [if_neg h1]
    by_cases h2 : y.1.2.2.1 < l
    · rw [if_pos h2, if_neg (by simp [h2])]
    · rw [if_neg h2, if_pos (by simp [h1, h2])]
theorem M_atc (hI : AI P A) (hR : RM g y P A thr) (hc : c < 5) (l : Int32) : S_M_at g y (nI c) l ∧ ((∃ k e, q_look l (A.1 c) = some e ∧ (A.1 c)[k]? = some e ∧ e.1 = l ∧ M_M_at g y (nI c) l = nI (64 * c + k) ∧ 64 * c + k < 320) ∨ (q_look l (A.1 c) = none ∧ M_M_at g y (nI c) l = -1)) := M_at hR.2.1 hc (hI.1 c) l
theorem M_at4 (hI : AI P A) (hR : RM g y P A thr) (l : Int32) : S_M_at g y 4 l ∧ ((∃ k e, q_look l (A.1 4) = some e ∧ (A.1 4)[k]? = some e ∧ e.1 = l ∧ M_M_at g y 4 l = nI (64 * 4 + k) ∧ 64 * 4 + k < 320) ∨ (q_look l (A.1 4) = none ∧ M_M_at g y 4 l = -1)) := by
  have h := M_atc hI hR (c := 4) (by omega) l
  have e4 : nI 4 = (4 : Int32) := by decide
  rw [e4] at h
  exact h
theorem M_take (hI : AI P A) (hR : RM g y P A thr) (hc : c < 5) {k : Nat} (he : (A.1 c)[k]? = some e) : S_M_takeOut g y (nI c) (nI (64 * c + k)) ∧ RM g (M_M_takeOut g y (nI c) (nI (64 * c + k))) P (a_setL A c (q_rm e.1 (A.1 c))) thr := by
  obtain ⟨s1, s2, s3, s4⟩ := M_takeOut (g := g) hR.2.1 hc he
  rw [q_er (hI.1 c) he] at s2
  exact ⟨s1, M_set hR s2 s3 s4⟩
theorem M_take4 (hI : AI P A) (hR : RM g y P A thr) {k : Nat} (he : (A.1 4)[k]? = some e) : S_M_takeOut g y 4 (nI (64 * 4 + k)) ∧ RM g (M_M_takeOut g y 4 (nI (64 * 4 + k))) P (a_setL A 4 (q_rm e.1 (A.1 4))) thr := by
  have h := M_take hI hR (c := 4) (by omega) he
  have e4 : nI 4 = (4 : Int32) := by decide
  rw [e4] at h
  exact h
theorem M_usec (hI : AI P A) (hR : RM g y P A thr) (hc : c < 5) {k : Nat} (he : (A.1 c)[k]? = some e) : S_M_use g y (nI c) (nI (64 * c + k)) ∧ RM g (M_M_use g y (nI c) (nI (64 * c + k))) P (a_setL A c (e :: q_rm e.1 (A.1 c))) thr := by
  obtain ⟨s1, s2, s3, s4⟩ := M_use (g := g) hR.2.1 hc he
  rw [q_er (hI.1 c) he] at s2
  exact ⟨s1, M_set hR s2 s3 s4⟩
theorem M_put (hR : RM g y P A thr) {b o : Int32} (hb : b = 0 ∨ b = 1) (hc : c < 5) (hl : (A.1 c).length < 64) : S_M_putFirst g y (nI c) l b v o ∧ RM g (M_M_putFirst g y (nI c) l b v o) P (a_setL A c ((l, b, v, o) :: A.1 c)) thr := by
  obtain ⟨s1, s2, s3, s4⟩ := M_putFirst (g := g) (l := l) (v := v) (o := o) hR.2.1 hb hc hl
  exact ⟨s1, M_set hR s2 s3 s4⟩
theorem M_down (hP : okP P) (hI : AI P A) (hR : RM g y P A thr) (hk : knw A.2.1 l) : S_M_goDown g y l v ∧ RM g (M_M_goDown g y l v) P (a_down P A l v) thr := by
  obtain ⟨a1, a2⟩ := M_at4 hI hR l
  unfold S_M_goDown M_M_goDown a_down
  rcases a2 with ⟨k, e, h1, h2, h3, h4, h5⟩ | ⟨h1, h2⟩
  · have hp : (0 : Int32) ≤ nI (64 * 4 + k) := nI_pos' (by omega)
    have hin : vp_in (nI (64 * 4 + k)) 320 := vp_in_nI h5 (by decide)
    rw [bnd_eq h4.symm, bnd_eq h4.symm, if_pos hp, if_neg (by rw [h1]; exact fun q => by cases q)]
    refine ⟨⟨a1, fun _ => ⟨hin, hin, trivial⟩, fun q => absurd hp q⟩, ?_⟩
    have hm := M_mark hR.2.1 (q_wr v e) (by omega) h2 (y.1, (y.2.1.1, y.2.1.2.1, (upd y.2.1.2.2.1 (nI (64 * 4 + k)).toNatClampNeg (vp_nar .boolean (1 : Int32))), (upd y.2.1.2.2.2.1 (nI (64 * 4 + k)).toNatClampNeg v), y.2.1.2.2.2.2), y.2.2.1, y.2.2.2.1, y.2.2.2.2) rfl rfl (by rw [nI_clamp (by omega), nar1]; rfl) (by rw [nI_clamp (by omega)]; rfl) rfl rfl rfl (Or.inr rfl)
    rw [q_sm (hI.1 4) (q_wr v) h2, h3] at hm
    exact M_set hR hm rfl rfl
  · obtain ⟨m1, m2⟩ := M_mem (v := v) hP hR hk
    rw [bnd_eq h2.symm, bnd_eq h2.symm, if_neg (by decide), if_pos h1, bnd_eq rfl, bnd_eq rfl]
    exact ⟨⟨a1, fun q => absurd q (by decide), fun _ => ⟨m1, trivial⟩⟩, m2⟩
theorem M_cores (hR : RM g y P A thr) : g.2.1 = nI P.1.1 := hR.1.1
theorem M_keep (hR : RM g y P A thr) : g.2.2.1 = P.2.1 := hR.1.2.1
theorem nI_mu {a n : Nat} (ha : a < n) (hn : n < 2 ^ 31) : mu (nI (a + 1)) (nI n) < mu (nI a) (nI n) := by
  rw [mu_nI (by omega) hn, mu_nI (by omega) hn]
  omega
theorem M_isone (hP : okP P) (hI : AI P A) (hR : RM g y P A thr) (l : Int32) (core : Nat) (hcore : core < P.1.1) : ∀ (n c fuel : Nat) (b : Int32), c + n = P.1.1 → n < fuel → (b = 0 ∨ b = 1) →
    S_M_isOneOf_5 g y l (nI core) fuel b (nI c) ∧ (L_M_isOneOf_5 g y l (nI core) fuel b (nI c) = 0 ↔ b = 0 ∧ ∀ d, c ≤ d → d < P.1.1 → ¬ d = core → q_look l (A.1 d) = none) := by
  have h4 := hP.1.2
  have g1 := M_cores hR
  intro n
  induction n with
  | zero =>
    intro c fuel b hc hf hb
    obtain ⟨m, rfl⟩ : ∃ m, fuel = m + 1 := ⟨fuel - 1, by omega⟩
    have h0 : nI P.1.1 ≤ nI c := nI_le (by omega) (by omega)
    rw [S_M_isOneOf_5_eq, L_M_isOneOf_5_eq, g1, if_pos h0]
    refine ⟨⟨fun _ => ⟨?_, trivial⟩, fun q => absurd h0 q⟩, fun h => ⟨h, fun d d1 d2 => by omega⟩, fun h => h.1⟩
    rcases hb with rfl | rfl <;> rfl
  | succ n ih =>
    intro c fuel b hc hf hb
    obtain ⟨m, rfl⟩ : ∃ m, fuel = m + 1 := ⟨fuel - 1, by omega⟩
    have h0 : ¬ nI P.1.1 ≤ nI c := nI_ge (by omega) (by omega)
    have hmu := nI_mu (a := c) (n := P.1.1) (by omega) (by omega)
    obtain ⟨a1, a2⟩ := M_atc hI hR (c := c) (by omega) l
    obtain ⟨i1, i2⟩ := ih (c + 1) m 0 (by omega) (by omega) (Or.inl rfl)
    obtain ⟨j1, j2⟩ := ih (c + 1) m 1 (by omega) (by omega) (Or.inr rfl)
    rw [S_M_isOneOf_5_eq, L_M_isOneOf_5_eq, g1, if_neg h0, nI_1]
    have hS : ∀ r, M_M_at g y (nI c) l = r → (r < 0 → mu (nI (c + 1)) (nI P.1.1) < mu (nI c) (nI P.1.1) ∧ S_M_isOneOf_5 g y l (nI core) m 0 (nI (c + 1))) ∧ (¬ r < 0 → mu (nI (c + 1)) (nI P.1.1) < mu (nI c) (nI P.1.1) ∧ S_M_isOneOf_5 g y l (nI core) m 1 (nI (c + 1))) := fun r _ => ⟨fun _ => ⟨hmu, i1⟩, fun _ => ⟨hmu, j1⟩⟩
    refine ⟨⟨fun q => absurd q h0, fun _ => ⟨fun _ => ⟨fun _ => ⟨hmu, i1⟩, fun _ => ⟨a1, ?_⟩⟩, fun _ => ⟨hmu, j1⟩⟩⟩, ?_⟩
    · rw [bnd_eq rfl]
      exact hS _ rfl
    · by_cases hb0 : b = 0
      · rw [if_pos hb0]
        by_cases q : c = core
        · rw [if_pos (by rw [q]), i2]
          exact ⟨fun h => ⟨hb0, fun d d1 d2 d3 => h.2 d (by omega) d2 d3⟩, fun h => ⟨rfl, fun d d1 d2 d3 => h.2 d (by omega) d2 d3⟩⟩
        · rw [if_neg (fun q2 => q ((nI_eq (by omega) (by omega)).mp q2))]
          rcases a2 with ⟨k, e, h1, h2, h3, h5, h6⟩ | ⟨h1, h2⟩
          · rw [bnd_eq h5.symm, if_neg (nI_pos (by omega)), j2]
            exact ⟨fun h => absurd h.1 i10, fun h => by have h7 := h.2 c (by omega) (by omega) q; rw [h1] at h7; cases h7⟩
          · rw [bnd_eq h2.symm, if_pos (by decide), i2]
            refine ⟨fun h => ⟨hb0, fun d d1 d2 d3 => ?_⟩, fun h => ⟨rfl, fun d d1 d2 d3 => h.2 d (by omega) d2 d3⟩⟩
            by_cases q2 : d = c
            · rw [q2]; exact h1
            · exact h.2 d (by omega) d2 d3
      · rw [if_neg hb0, j2]
        exact ⟨fun h => absurd h.1 i10, fun h => absurd h.1 hb0⟩
theorem M_isone0 (hP : okP P) (hI : AI P A) (hR : RM g y P A thr) (l : Int32) (hc : c < P.1.1) : S_M_isOneOf g y l (nI c) ∧ (M_M_isOneOf g y l (nI c) = 0 ↔ a_one P.1.1 A.1 l c = false) := by
  have h4 := hP.1.2
  obtain ⟨h1, h2⟩ := M_isone hP hI hR l c hc P.1.1 0 (P.1.1 + 1) 0 (by omega) (by omega) (Or.inl rfl)
  unfold S_M_isOneOf M_M_isOneOf
  rw [M_cores hR, mu_nI0 (by omega)]
  rw [nI_0] at h1 h2
  refine ⟨h1, h2.trans ?_⟩
  rw [a_one_iff]
  exact ⟨fun h d hd hdc => h.2 d (by omega) hd hdc, fun h => ⟨rfl, fun d _ hd hdc => h d hd hdc⟩⟩
theorem M_lv (hP : okP P) (p0 : Int32) : ∀ (n c fuel : Nat) (w v : Int32) (A : Ab) (z : Ms), c + n = P.1.1 → n < fuel → AI P A → RM g z P A thr → (w = 0 ∨ w = 1) → (w = 1 → knw A.2.1 l) →
    S_M_leaveSecond_39 g p0 fuel l w v (nI c) z ∧ RM g (L_M_leaveSecond_39 g p0 fuel l w v (nI c) z) P (a_lv P l n c w v A) thr := by
  have h4 := hP.1.2
  intro n
  induction n with
  | zero =>
    intro c fuel w v A z hc hf hI hR hw hk
    obtain ⟨m, rfl⟩ : ∃ m, fuel = m + 1 := ⟨fuel - 1, by omega⟩
    have h0 : nI P.1.1 ≤ nI c := nI_le (by omega) (by omega)
    rw [S_M_leaveSecond_39_eq, L_M_leaveSecond_39_eq, M_cores hR, if_pos h0]
    unfold S_M_leaveSecond_114 L_M_leaveSecond_114 a_lv
    by_cases q : w = 0
    · rw [if_pos q, if_pos q]
      exact ⟨⟨fun _ => ⟨fun _ => trivial, fun q2 => absurd q q2⟩, fun q2 => absurd h0 q2⟩, hR⟩
    · obtain ⟨m1, m2⟩ := M_mem (v := v) hP hR (hk (hw.resolve_left q))
      rw [if_neg q, if_neg q, bnd_eq rfl, bnd_eq rfl]
      exact ⟨⟨fun _ => ⟨fun q2 => absurd q2 q, fun _ => ⟨m1, trivial⟩⟩, fun q2 => absurd h0 q2⟩, m2⟩
  | succ n ih =>
    intro c fuel w v A z hc hf hI hR hw hk
    obtain ⟨m, rfl⟩ : ∃ m, fuel = m + 1 := ⟨fuel - 1, by omega⟩
    have h0 : ¬ nI P.1.1 ≤ nI c := nI_ge (by omega) (by omega)
    have hmu := nI_mu (a := c) (n := P.1.1) (by omega) (by omega)
    obtain ⟨a1, a2⟩ := M_atc hI hR (c := c) (by omega) l
    have e6 : ((7 : Int32) * nI c) + (6 : Int32) = nI (7 * c + 6) := e7n c 6
    have hin : vp_in (nI (7 * c + 6)) 28 := vp_in_nI (by omega) (by decide)
    rw [S_M_leaveSecond_39_eq, L_M_leaveSecond_39_eq, M_cores hR, if_neg h0, nI_1, e6, nI_clamp (n := 7 * c + 6) (by omega)]
    unfold a_lv
    rcases a2 with ⟨k, e, h1, h2, h3, h5, h6⟩ | ⟨h1, h2⟩
    · obtain ⟨-, -, -, t4, t5, -, t7⟩ := RL_at hR.2.1 (by omega) h2
      obtain ⟨s1, s2⟩ := M_take (AI_tal hI (7 * c + 6)) (M_tal hR (7 * c + 6)) (c := c) (by omega) h2
      rw [h3] at s2
      have hI2 : AI P (a_tal (a_setL A c (q_rm l (A.1 c))) (7 * c + 6)) := AI_tal (AI_rm hP hI l (Or.inl (by omega))) _
      have hp : vp_in (nI (64 * c + k)) 320 := vp_in_nI h6 (by decide)
      have hn : ¬ nI (64 * c + k) < 0 := nI_pos (by omega)
      rw [bnd_eq h5.symm, bnd_eq h5.symm, if_neg hn, nI_clamp (n := 64 * c + k) (by omega), t4, t5, h1]
      simp only []
      by_cases q : e.2.1 = 0
      · obtain ⟨i1, i2⟩ := ih (c + 1) m w v _ _ (by omega) (by omega) hI2 s2 hw hk
        rw [if_pos q, if_pos q, if_pos q, bnd_eq rfl, bnd_eq rfl]
        exact ⟨⟨fun q2 => absurd q2 h0, fun _ => ⟨a1, fun q2 => absurd q2 hn, fun _ => ⟨hin, hin, hp, fun _ => ⟨s1, hmu, i1⟩, fun q2 => absurd q q2⟩⟩⟩, i2⟩
      · obtain ⟨i1, i2⟩ := ih (c + 1) m 1 e.2.2.1 _ _ (by omega) (by omega) hI2 s2 (Or.inr rfl) (fun _ => by
          have h9 := hI.2.2.1 c e (List.mem_of_getElem? h2) (t7.resolve_left q)
          rw [h3] at h9
          exact h9)
        rw [if_neg q, if_neg q, if_neg q]
        refine ⟨⟨fun q2 => absurd q2 h0, fun _ => ⟨a1, fun q2 => absurd q2 hn, fun _ => ⟨hin, hin, hp, fun q2 => absurd q2 q, fun _ => ⟨hp, s1, ?_⟩⟩⟩⟩, ?_⟩
        · rw [bnd_eq rfl]
          exact ⟨hmu, i1⟩
        · rw [bnd_eq rfl]
          exact i2
    · obtain ⟨i1, i2⟩ := ih (c + 1) m w v A z (by omega) (by omega) hI hR hw hk
      rw [bnd_eq h2.symm, bnd_eq h2.symm, if_pos (by decide), h1]
      exact ⟨⟨fun q2 => absurd q2 h0, fun _ => ⟨a1, fun _ => ⟨hmu, i1⟩, fun q2 => absurd (by decide) q2⟩⟩, i2⟩
theorem M_leave (hP : okP P) (hI : AI P A) (hR : RM g y P A thr) {k : Nat} (he : (A.1 4)[k]? = some e) : S_M_leaveSecond g y (nI (64 * 4 + k)) ∧ RM g (M_M_leaveSecond g y (nI (64 * 4 + k))) P (a_leave P A e) thr := by
  have h4 := hP.1.2
  obtain ⟨t1, t2, t3, t4, t5, t6, t7⟩ := RL_at hR.2.1 (by omega) he
  obtain ⟨s1, s2⟩ := M_take4 hI hR he
  have hI2 := AI_rm hP hI e.1 (c := 4) (Or.inr rfl)
  have hp : vp_in (nI (64 * 4 + k)) 320 := vp_in_nI (by omega) (by decide)
  have hm := List.mem_of_getElem? he
  unfold S_M_leaveSecond M_M_leaveSecond a_leave
  rw [nI_clamp (n := 64 * 4 + k) (by omega), t3, t4, t5]
  by_cases hk : P.2.1 = 1
  · obtain ⟨i1, i2⟩ := M_lv (g := g) (l := e.1) hP (nI (64 * 4 + k)) P.1.1 0 (P.1.1 + 1) e.2.1 e.2.2.1 _ _ (by omega) (by omega) hI2 s2 t7 (hI.2.2.1 4 e hm)
    rw [nI_0] at i1 i2
    rw [bnd_eq rfl, bnd_eq rfl, if_pos ((M_keep hR).trans hk), if_pos hk, M_cores hR, mu_nI0 (by omega)]
    exact ⟨⟨hp, hp, hp, s1, fun _ => i1, fun q => absurd ((M_keep hR).trans hk) q⟩, i2⟩
  · have hk2 : ¬ g.2.2.1 = (1 : Int32) := fun q => hk ((M_keep hR).symm.trans q)
    rw [bnd_eq rfl, bnd_eq rfl, if_neg hk2, if_neg hk]
    unfold S_M_leaveSecond_114 L_M_leaveSecond_114 a_lv
    by_cases q : e.2.1 = 0
    · rw [if_pos q, if_pos q]
      exact ⟨⟨hp, hp, hp, s1, fun q2 => absurd q2 hk2, fun _ => ⟨fun _ => trivial, fun q2 => absurd q q2⟩⟩, s2⟩
    · obtain ⟨m1, m2⟩ := M_mem (l := e.1) (v := e.2.2.1) hP s2 (hI.2.2.1 4 e hm (t7.resolve_left q))
      rw [if_neg q, if_neg q]
      refine ⟨⟨hp, hp, hp, s1, fun q2 => absurd q2 hk2, fun _ => ⟨fun q2 => absurd q2 q, fun _ => ⟨m1, ?_⟩⟩⟩, ?_⟩
      · rw [bnd_eq rfl]
        trivial
      · rw [bnd_eq rfl]
        exact m2
end ModRef
