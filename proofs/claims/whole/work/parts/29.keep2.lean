section Keep2
variable {P : Pm} {A : Ab} {c : Nat} {l v w : Int32} {e : Ent}
theorem a_wif_some {L : Nat → List Ent} {e : Ent} : ∀ (n c : Nat) {d : Nat}, a_wif L l n c = some (d, e) → c ≤ d ∧ d < c + n ∧ q_look l (L d) = some e ∧ ¬ e.2.1 = 0 := by
  intro n
  induction n with
  | zero => intro c d h; cases h
  | succ n ih =>
    intro c d h
    unfold a_wif at h
    cases hl : q_look l (L c) with
    | none =>
      rw [hl] at h
      obtain ⟨h1, h2, h3⟩ := ih (c + 1) h
      exact ⟨by omega, by omega, h3⟩
    | some f =>
      rw [hl] at h
      simp only [] at h
      by_cases q : f.2.1 = 0
      · rw [if_pos q] at h
        obtain ⟨h1, h2, h3⟩ := ih (c + 1) h
        exact ⟨by omega, by omega, h3⟩
      · rw [if_neg q] at h
        cases h
        exact ⟨Nat.le_refl _, by omega, hl, q⟩
theorem K_clean (hP : okP P) (hI : AI P A) (hc : c < P.1.1) (hd : Int32) : AI P (q_set A.1 c (q_md l q_cl (A.1 c)), A.2.1, hd, A.2.2.2) := by
  have h := AI_md (l := l) hP hI q_cl_key (Or.inl hc) (fun _ => Or.inl rfl) (fun e h => by cases h) (fun _ h => by obtain ⟨e, h⟩ := h; cases h)
  exact AI_rest h rfl (fun _ h => h) hI.2.2.2.2.2.2.2.2
theorem K_hand (hP : okP P) (hI : AI P A) : AI P (a_hand P A l) ∧ (∀ d l2, q_look l2 ((a_hand P A l).1 d) = none ↔ q_look l2 (A.1 d) = none) ∧ vl A.2.1 (a_hand P A l).2.1 := by
  unfold a_hand
  have h4 := hP.1.2
  cases h : a_wif A.1 l P.1.1 0 with
  | none => exact ⟨hI, fun _ _ => Iff.rfl, vl_r _⟩
  | some p =>
    obtain ⟨d, e⟩ := p
    obtain ⟨h1, h2, h3, h5⟩ := a_wif_some _ _ h
    obtain ⟨m1, m2⟩ := q_look_some h3
    have hk : knw A.2.1 l := by
      have h6 := hI.2.2.1 d e m1 ((hI.2.1 d e m1).resolve_left h5)
      rwa [m2] at h6
    have hI2 := K_clean (l := l) hP hI (c := d) (by omega) (A.2.2.1 + 1)
    obtain ⟨i1, i2, i3, i4⟩ := K_down (l := l) (v := e.2.2.1) hP hI2 hk
    refine ⟨i1, fun d2 l2 => ?_, i4⟩
    simp only []
    by_cases q : d2 = 4
    · subst q
      rw [i3 l2]
      show q_look l2 (q_set A.1 d _ 4) = none ↔ _
      rw [q_set_n (by omega)]
    · rw [i2 d2 q]
      show q_look l2 (q_set A.1 d _ d2) = none ↔ _
      by_cases q2 : d2 = d
      · subst q2
        rw [q_set_s]
        exact q_look_md_none q_cl_key
      · rw [q_set_n q2]
theorem K_use (hP : okP P) (hI : AI P A) (hc : c < P.1.1 ∨ c = 4) (he : e ∈ A.1 c) : AI P (a_setL A c (e :: q_rm e.1 (A.1 c))) := by
  obtain ⟨a1, a2, a3, a4, a5, a6, a7, a8, a9⟩ := hI
  have mem : ∀ f, f ∈ e :: q_rm e.1 (A.1 c) → f ∈ A.1 c := fun f hf => by
    rcases List.mem_cons.mp hf with q | q
    · rw [q]; exact he
    · exact (q_mem_rm.mp q).1
  have len : ∀ S s, (q_pl S (e :: q_rm e.1 (A.1 c)) s).length ≤ (q_pl S (A.1 c) s).length := fun S s => by
    rw [q_pl_cons]
    by_cases q : q_st S e.1 = s
    · rw [if_pos q, q_pl_rm, List.length_cons]
      exact q_rm_lt (q_mem_pl.mpr ⟨he, q⟩)
    · rw [if_neg q]
      exact q_pl_le
  refine AI_set ⟨a1, a2, a3, a4, a5, a6, a7, a8, a9⟩ _ hc (q_nd_cons (q_nd_rm (a1 c)) q_look_rm) (fun f hf => a2 c f (mem f hf)) (fun f hf => a3 c f (mem f hf)) (fun h s => Nat.le_trans (len _ s) (a5 c h s)) (fun h s => ?_) (fun h f hf hw d hd hdc f2 hf2 hef hw2 => ?_) (fun hk h1 h2 f hf => ?_) (fun hk h1 f hf d hd h2 => ?_) hP.1.2
  · subst h
    exact Nat.le_trans (len _ s) (a6 s)
  · exact hdc (a7 c d f (mem f hf) f2 hf2 h hd hef hw hw2).symm
  · exact q_sub_none mem (a8 hk f hf c h1)
  · subst h1
    exact a8 hk f (mem f hf) d hd
theorem K_hit2 (hP : okP P) (hI : AI P A) (hc : c < P.1.1) (h1 : q_look l (A.1 c) = none) (he : q_look l (A.1 4) = some e) : AI P (a_hit2 P A c l e) ∧ ¬ q_look l ((a_hit2 P A c l e).1 c) = none ∧ vl A.2.1 (a_hit2 P A c l e).2.1 := by
  obtain ⟨m1, m2⟩ := q_look_some he
  have h4 := hP.1.2
  unfold a_hit2
  by_cases hk : P.2.1 = 2
  · rw [if_pos hk, if_pos hk]
    have hI2 := AI_rm hP hI l (c := 4) (Or.inr rfl)
    have hx := hI.2.2.2.2.2.2.2.1 hk e m1
    rw [m2] at hx
    exact K_in1 (v := e.2.2.1) hP hI2 hc (by rw [aset_n (by omega)]; exact h1) (hI.2.1 4 e m1) (fun h => by have h6 := hI.2.2.1 4 e m1 h; rwa [m2] at h6) (fun _ d hd => by rw [aset_n (by omega)]; exact hx d hd) (fun _ => by rw [aset_s]; exact q_look_rm)
  · rw [if_neg hk, if_neg hk]
    have hI2 := K_use hP hI (Or.inr rfl) m1
    rw [m2] at hI2
    exact K_in1 (v := e.2.2.1) hP hI2 hc (by rw [aset_n (by omega)]; exact h1) (Or.inl rfl) (fun h => by cases h) (fun h => by cases h) (fun h => absurd h hk)
theorem K_mid (hP : okP P) (hI : AI P A) (hc : c < P.1.1) (h4 : q_look l (A.1 4) = none) : AI P (a_mid P A c l) ∧ (∀ d, ¬ d = 4 → ∀ e2 ∈ (a_mid P A c l).1 d, e2 ∈ A.1 d) ∧ vl A.2.1 (a_mid P A c l).2.1 ∧ (P.2.1 = 2 → q_look l ((a_mid P A c l).1 4) = none) ∧ (¬ P.2.1 = 2 → P.2.2.2.2 l = false → ¬ P.2.2.2.1 c = 0 → ¬ q_look l ((a_mid P A c l).1 4) = none) := by
  unfold a_mid
  by_cases h : P.2.1 = 2 ∨ P.2.2.2.2 l = true
  · rw [if_pos h]
    refine ⟨hI, fun _ _ _ he => he, vl_r _, fun _ => h4, fun q1 q2 => ?_⟩
    rcases h with h | h
    · exact absurd h q1
    · rw [h] at q2; cases q2
  · rw [if_neg h]
    have h2 : ¬ P.2.1 = 2 := fun q => h (Or.inl q)
    obtain ⟨i1, i2, i3, i4, i5, i6⟩ := K_in2 (w := 0) (v := M_V_inMemory P.2.2.1 A.2.1 l) hP hI hc h4 (Or.inl rfl) (fun h => by cases h) (fun q => absurd q h2)
    exact ⟨i1, i3, i5, fun q => absurd q h2, fun _ _ q => i6 q⟩
theorem K_fetch (hP : okP P) (hI : AI P A) (hc : c < P.1.1) (h1 : q_look l (A.1 c) = none) (h4 : q_look l (A.1 4) = none) : AI P (a_fetch P A c l).2 ∧ vl A.2.1 (a_fetch P A c l).2.2.1 ∧ (((a_fetch P A c l).1 = 4 ∧ q_look l ((a_fetch P A c l).2.1 c) = none) ∨ ((a_fetch P A c l).1 = 3 ∧ ¬ q_look l ((a_fetch P A c l).2.1 c) = none)) := by
  unfold a_fetch
  by_cases h : P.2.1 = 1 ∧ (P.2.2.2.2 l = true ∨ P.2.2.2.1 c = 0)
  · rw [if_pos h]
    exact ⟨hI, vl_r _, Or.inl ⟨rfl, h1⟩⟩
  · rw [if_neg h]
    obtain ⟨i1, i2, i3, i4, -⟩ := K_mid hP hI hc h4
    have h9 := hP.1.2
    obtain ⟨j1, j2, j3⟩ := K_in1 (w := 0) (v := M_V_inMemory P.2.2.1 A.2.1 l) hP i1 hc (q_sub_none (i2 c (by omega)) h1) (Or.inl rfl) (fun h => by cases h) (fun h => by cases h) i4
    exact ⟨j1, vl_t i3 j3, Or.inr ⟨rfl, j2⟩⟩
theorem K_bring (hP : okP P) (hI : AI P A) (hc : c < P.1.1) (h1 : q_look l (A.1 c) = none) : AI P (a_bring P A c l).2 ∧ vl A.2.1 (a_bring P A c l).2.2.1 ∧ (((a_bring P A c l).1 = 4 ∧ q_look l ((a_bring P A c l).2.1 c) = none) ∨ ((a_bring P A c l).1 = 2 ∧ ¬ q_look l ((a_bring P A c l).2.1 c) = none) ∨ ((a_bring P A c l).1 = 3 ∧ ¬ q_look l ((a_bring P A c l).2.1 c) = none)) := by
  obtain ⟨i1, i2, i3⟩ := K_hand (l := l) hP hI
  have h2 := (i2 c l).mpr h1
  unfold a_bring a_bring2
  cases h : q_look l ((a_hand P A l).1 4) with
  | some e =>
    obtain ⟨j1, j2, j3⟩ := K_hit2 hP i1 hc h2 h
    exact ⟨j1, vl_t i3 j3, Or.inr (Or.inl ⟨rfl, j2⟩)⟩
  | none =>
    obtain ⟨j1, j2, j3⟩ := K_fetch hP i1 hc h2 h
    refine ⟨j1, vl_t i3 j2, ?_⟩
    rcases j3 with q | q
    · exact Or.inl q
    · exact Or.inr (Or.inr q)
theorem K_get (hP : okP P) (hI : AI P A) (hc : c < P.1.1) : AI P (a_get P A c l).2 ∧ vl A.2.1 (a_get P A c l).2.2.1 ∧ (((a_get P A c l).1 = 4 ∧ q_look l ((a_get P A c l).2.1 c) = none) ∨ (((a_get P A c l).1 = 1 ∨ (a_get P A c l).1 = 2 ∨ (a_get P A c l).1 = 3) ∧ ¬ q_look l ((a_get P A c l).2.1 c) = none)) := by
  unfold a_get
  cases h : q_look l (A.1 c) with
  | some e =>
    obtain ⟨m1, m2⟩ := q_look_some h
    have hI2 := K_use hP hI (Or.inl hc) m1
    rw [m2] at hI2
    refine ⟨hI2, vl_r _, Or.inr ⟨Or.inl rfl, ?_⟩⟩
    simp only []
    rw [aset_s, q_look_cons, if_pos m2]
    exact fun q => by cases q
  | none =>
    obtain ⟨j1, j2, j3⟩ := K_bring hP hI hc h
    refine ⟨j1, j2, ?_⟩
    rcases j3 with ⟨q1, q2⟩ | ⟨q1, q2⟩ | ⟨q1, q2⟩
    · exact Or.inl ⟨q1, q2⟩
    · exact Or.inr ⟨Or.inr (Or.inl q1), q2⟩
    · exact Or.inr ⟨Or.inr (Or.inr q1), q2⟩
theorem K_ol (hP : okP P) (core : Nat) : ∀ (n c : Nat) (A : Ab), AI P A → c + n ≤ P.1.1 → AI P (a_ol core l n c A) ∧ (a_ol core l n c A).2.1 = A.2.1 ∧ (∀ d, (d < c ∨ c + n ≤ d ∨ d = core) → (a_ol core l n c A).1 d = A.1 d) ∧ (∀ d, c ≤ d → d < c + n → ¬ d = core → q_look l ((a_ol core l n c A).1 d) = none) := by
  intro n
  induction n with
  | zero =>
    intro c A hI hc
    exact ⟨hI, rfl, fun _ _ => rfl, fun d h1 h2 => by omega⟩
  | succ n ih =>
    intro c A hI hc
    unfold a_ol
    by_cases q : c = core
    · rw [if_pos q]
      obtain ⟨i1, i2, i3, i4⟩ := ih (c + 1) A hI (by omega)
      exact ⟨i1, i2, fun d hd => i3 d (by omega), fun d h1 h2 h3 => i4 d (by omega) (by omega) h3⟩
    · rw [if_neg q]
      cases h : q_look l (A.1 c) with
      | none =>
        simp only []
        obtain ⟨i1, i2, i3, i4⟩ := ih (c + 1) A hI (by omega)
        refine ⟨i1, i2, fun d hd => i3 d (by omega), fun d h1 h2 h3 => ?_⟩
        by_cases q2 : d = c
        · rw [q2, i3 c (by omega)]; exact h
        · exact i4 d (by omega) (by omega) h3
      | some e =>
        simp only []
        have hI2 : AI P (a_tal (a_setL A c (q_rm l (A.1 c))) (7 * c + 5)) := AI_tal (AI_rm hP hI l (Or.inl (by omega))) _
        obtain ⟨i1, i2, i3, i4⟩ := ih (c + 1) _ hI2 (by omega)
        refine ⟨i1, i2, fun d hd => (i3 d (by omega)).trans (aset_n (by omega)), fun d h1 h2 h3 => ?_⟩
        by_cases q2 : d = c
        · rw [q2, i3 c (by omega)]
          show q_look l ((a_setL A c (q_rm l (A.1 c))).1 c) = none
          rw [aset_s]
          exact q_look_rm
        · exact i4 d (by omega) (by omega) h3
theorem K_next (hP : okP P) {V : Vs} (hV : VI V) (hs : V.2.1.val < 512) : VI (M_V_makeNext P.2.2.1 V l).2 ∧ knw (M_V_makeNext P.2.2.1 V l).2 l ∧ (∀ l2, knw V l2 → knw (M_V_makeNext P.2.2.1 V l).2 l2) ∧ (M_V_makeNext P.2.2.1 V l).2.2.1.val ≤ V.2.1.val + 1 := by
  obtain ⟨-, j, u, W, -, -, -, -, -, -, -, -, -, -, h1, h2, h3, h4, h5, h6, h7, h8, h9⟩ := M_learn (g := ((0, 0, 0, 0, 0, 0, 0, 0, 0, 0, 0), (0, 0, 0, 0))) (y := ((0, 0, 0, nI V.2.1.val, V.1, 0), (V.2.2.1, V.2.2.1, V.2.2.1, V.2.2.1, V.2.2.1), V.2.2.1, (V.2.2.1, V.2.2.2.1, V.2.2.2.2), V.2.2.1)) (l := l) hP.2.2.2.2.1 ⟨rfl, rfl, rfl⟩ hV hs
  rw [h3]
  refine ⟨fun k hk => ⟨?_, (h4 k hk).2⟩, ⟨j, h5, h6⟩, fun l2 h => ?_, h9⟩
  · show upd W.2.2.2.1 j (W.2.2.2.1 j + 1) k = 0
    have hk : W.2.1.val ≤ k := hk
    rw [pk_un (by omega)]
    exact (h4 k hk).1
  · obtain ⟨i, b1, b2⟩ := h7 l2 h
    exact ⟨i, b1, b2⟩
theorem K_new (hP : okP P) (hI : AI P A) (hc : c < P.1.1) (hs : A.2.1.2.1.val < 512) (ho : ∀ d, d < P.1.1 → ¬ d = c → q_look l (A.1 d) = none) (h : Nat) : AI P (a_new P A c l h) ∧ (a_new P A c l h).2.1.2.1.val ≤ A.2.1.2.1.val + 1 := by
  obtain ⟨n1, n2, n3, n4⟩ := K_next (l := l) hP hI.2.2.2.2.2.2.2.2 hs
  unfold a_new
  have hI2 : AI P (A.1, (M_V_makeNext P.2.2.1 A.2.1 l).2, A.2.2) := AI_rest hI rfl n3 n1
  by_cases q : h = 4
  · rw [if_pos q]
    have hI3 := AI_mem (l := l) (v := (M_V_makeNext P.2.2.1 A.2.1 l).1) hP hI2
    obtain ⟨b1, -⟩ := V_back_lines (V := (M_V_makeNext P.2.2.1 A.2.1 l).2) (l := l) (v := (M_V_makeNext P.2.2.1 A.2.1 l).1) hP.2.2.2.2.1
    refine ⟨hI3, ?_⟩
    show (M_V_writeBack P.2.2.1 (M_V_makeNext P.2.2.1 A.2.1 l).2 l (M_V_makeNext P.2.2.1 A.2.1 l).1).2.1.val ≤ _
    rw [b1]
    exact n4
  · rw [if_neg q]
    exact ⟨AI_md (l := l) hP hI2 (q_wr_key _) (Or.inl hc) (fun _ => Or.inr rfl) (fun _ _ => n2) (fun _ _ => ho), n4⟩
theorem K_ex (hP : okP P) (hI : AI P A) : AI P (a_ex P A l) ∧ (∀ d, ¬ d = 4 → (a_ex P A l).1 d = A.1 d) ∧ (a_ex P A l).2 = A.2 := by
  unfold a_ex
  by_cases q : P.2.1 = 2
  · rw [if_pos q]
    exact ⟨AI_rm hP hI l (Or.inr rfl), fun d hd => aset_n hd, rfl⟩
  · rw [if_neg q]
    exact ⟨hI, fun _ _ => rfl, rfl⟩
/-- the state at which a write makes its version -/
theorem K_pre (hP : okP P) (hI : AI P A) (hc : c < P.1.1) : AI P (a_ex P (a_ol c l P.1.1 0 (a_tal A (7 * c + 4))) l) ∧ (a_ex P (a_ol c l P.1.1 0 (a_tal A (7 * c + 4))) l).2.1 = A.2.1 ∧ (∀ d, d < P.1.1 → ¬ d = c → q_look l ((a_ex P (a_ol c l P.1.1 0 (a_tal A (7 * c + 4))) l).1 d) = none) ∧ (a_ex P (a_ol c l P.1.1 0 (a_tal A (7 * c + 4))) l).1 c = A.1 c := by
  obtain ⟨i1, i2, i3, i4⟩ := K_ol (l := l) hP c P.1.1 0 _ (AI_tal hI (7 * c + 4)) (by omega)
  obtain ⟨j1, j2, j3⟩ := K_ex (l := l) hP i1
  have h4 := hP.1.2
  refine ⟨j1, ?_, fun d hd hdc => ?_, ?_⟩
  · rw [j3]; exact i2
  · rw [j2 d (by omega)]
    exact i4 d (by omega) (by omega) hdc
  · rw [j2 c (by omega), i3 c (Or.inr (Or.inr rfl))]
    rfl
theorem K_access (hP : okP P) (hI : AI P A) (hc : c < P.1.1) (kind : Int32) (hs : A.2.1.2.1.val < 512) : AI P (a_access P A c l kind).2 ∧ (a_access P A c l kind).2.2.1.2.1.val ≤ A.2.1.2.1.val + 1 := by
  obtain ⟨i1, i2, -⟩ := K_get (l := l) hP (AI_tal hI (7 * c)) hc
  have hv : (a_get P (a_tal A (7 * c)) c l).2.2.1.2.1 = A.2.1.2.1 := i2.1
  unfold a_access
  by_cases q : kind = 1
  · rw [if_pos q]
    unfold a_write
    obtain ⟨j1, j2, j3, -⟩ := K_pre (l := l) hP (AI_tal i1 (7 * c + a_h (a_get P (a_tal A (7 * c)) c l).1)) hc
    have hv2 : (a_ex P (a_ol c l P.1.1 0 (a_tal (a_tal (a_get P (a_tal A (7 * c)) c l).2 (7 * c + a_h (a_get P (a_tal A (7 * c)) c l).1)) (7 * c + 4))) l).2.1.2.1.val = A.2.1.2.1.val := by
      rw [j2]
      exact congrArg Fin.val hv
    have h := K_new (l := l) hP j1 hc (by omega) j3 (a_get P (a_tal A (7 * c)) c l).1
    rw [hv2] at h
    exact h
  · rw [if_neg q]
    refine ⟨AI_tal i1 _, ?_⟩
    show (a_get P (a_tal A (7 * c)) c l).2.2.1.2.1.val ≤ _
    rw [hv]
    omega
end Keep2
