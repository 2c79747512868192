-- what stays true through an access
def vl (V W : Vs) : Prop := W.2.1 = V.2.1 ∧ W.2.2.1 = V.2.2.1
theorem vl_r (V : Vs) : vl V V := ⟨rfl, rfl⟩
theorem vl_t {U V W : Vs} (h1 : vl U V) (h2 : vl V W) : vl U W := ⟨h2.1.trans h1.1, h2.2.trans h1.2⟩
theorem vl_k {V W : Vs} (h : vl V W) {l : Int32} (hk : knw V l) : knw W l := by
  obtain ⟨j, h1, h2⟩ := hk
  exact ⟨j, by rw [h.1]; exact h1, by rw [h.2]; exact h2⟩
theorem q_rm_lt {e : Ent} {K : List Ent} (h : e ∈ K) : (q_rm e.1 K).length < K.length := by
  unfold q_rm
  exact List.length_filter_lt_length_iff_exists.mpr ⟨e, h, by simp⟩
theorem aset_s {A : Ab} {c : Nat} {K : List Ent} : (a_setL A c K).1 c = K := if_pos rfl
theorem aset_n {A : Ab} {c j : Nat} {K : List Ent} (h : ¬ j = c) : (a_setL A c K).1 j = A.1 j := if_neg h
section Keep
variable {P : Pm} {A : Ab} {c : Nat} {l v w : Int32} {e : Ent}
theorem vl_mem (hP : okP P) : vl A.2.1 (a_mem P A l v).2.1 := by
  obtain ⟨h1, h2, -, -⟩ := V_back_lines (V := A.2.1) (l := l) (v := v) hP.2.2.2.2.1
  exact ⟨h1, h2⟩
theorem K_down (hP : okP P) (hI : AI P A) (hk : knw A.2.1 l) : AI P (a_down P A l v) ∧ (∀ d, ¬ d = 4 → (a_down P A l v).1 d = A.1 d) ∧ (∀ l2, q_look l2 ((a_down P A l v).1 4) = none ↔ q_look l2 (A.1 4) = none) ∧ vl A.2.1 (a_down P A l v).2.1 := by
  unfold a_down
  by_cases h : q_look l (A.1 4) = none
  · rw [if_pos h]
    exact ⟨AI_mem hP hI, fun d _ => rfl, fun _ => Iff.rfl, vl_mem hP⟩
  · rw [if_neg h]
    refine ⟨AI_md hP hI (q_wr_key v) (Or.inr rfl) (fun _ => Or.inr rfl) (fun _ _ => hk) (fun h2 => absurd h2 (by have := hP.1.2; omega)), fun d hd => q_set_n hd, fun l2 => ?_, vl_r _⟩
    show q_look l2 (q_set A.1 4 (q_md l (q_wr v) (A.1 4)) 4) = none ↔ _
    rw [q_set_s]
    exact q_look_md_none (q_wr_key v)
theorem K_lv (hP : okP P) : ∀ (n c : Nat) (w v : Int32) (A : Ab), AI P A → c + n ≤ P.1.1 → (w = 0 ∨ w = 1) → (w = 1 → knw A.2.1 l) → AI P (a_lv P l n c w v A) ∧ (a_lv P l n c w v A).1 4 = A.1 4 ∧ (∀ d, ∀ e ∈ (a_lv P l n c w v A).1 d, e ∈ A.1 d) ∧ vl A.2.1 (a_lv P l n c w v A).2.1 := by
  intro n
  induction n with
  | zero =>
    intro c w v A hI hc hw hk
    unfold a_lv
    by_cases h : w = 0
    · rw [if_pos h]
      exact ⟨hI, rfl, fun _ _ he => he, vl_r _⟩
    · rw [if_neg h]
      exact ⟨AI_mem hP hI, rfl, fun _ _ he => he, vl_mem hP⟩
  | succ n ih =>
    intro c w v A hI hc hw hk
    unfold a_lv
    have h4 := hP.1.2
    cases hl : q_look l (A.1 c) with
    | none =>
      simp only []
      exact ih (c + 1) w v A hI (by omega) hw hk
    | some e =>
      simp only []
      obtain ⟨m1, m2⟩ := q_look_some hl
      have h01 := hI.2.1 c e m1
      have hI2 : AI P (a_tal (a_setL A c (q_rm l (A.1 c))) (7 * c + 6)) := AI_tal (AI_rm hP hI l (Or.inl (by omega))) _
      obtain ⟨i1, i2, i3, i4⟩ := ih (c + 1) (if e.2.1 = 0 then w else 1) (if e.2.1 = 0 then v else e.2.2.1) _ hI2 (by omega) (by split; exact hw; exact Or.inr rfl) (by
        intro h
        by_cases q : e.2.1 = 0
        · rw [if_pos q] at h
          exact hk h
        · have h2 := hI.2.2.1 c e m1 (h01.resolve_left q)
          rw [m2] at h2
          exact h2)
      refine ⟨i1, i2.trans (q_set_n (by omega)), fun d e2 he2 => ?_, i4⟩
      rcases q_set_mem (i3 d e2 he2) with ⟨q1, q2⟩ | ⟨q1, q2⟩
      · rw [q1]
        exact (q_mem_rm.mp q2).1
      · exact q2
theorem K_leave (hP : okP P) (hI : AI P A) (he : e ∈ A.1 4) : AI P (a_leave P A e) ∧ (a_leave P A e).1 4 = q_rm e.1 (A.1 4) ∧ (∀ d, ¬ d = 4 → ∀ e2 ∈ (a_leave P A e).1 d, e2 ∈ A.1 d) ∧ (¬ P.2.1 = 1 → ∀ d, ¬ d = 4 → (a_leave P A e).1 d = A.1 d) ∧ vl A.2.1 (a_leave P A e).2.1 := by
  have hI2 := AI_rm hP hI e.1 (c := 4) (Or.inr rfl)
  obtain ⟨i1, i2, i3, i4⟩ := K_lv (l := e.1) hP (if P.2.1 = 1 then P.1.1 else 0) 0 e.2.1 e.2.2.1 _ hI2 (by split <;> omega) (hI.2.1 4 e he) (hI.2.2.1 4 e he)
  refine ⟨i1, i2.trans aset_s, fun d hd e2 he2 => ?_, fun hk d hd => ?_, i4⟩
  · rcases q_set_mem (i3 d e2 he2) with ⟨q1, -⟩ | ⟨-, q2⟩
    · exact absurd q1 hd
    · exact q2
  · unfold a_leave
    rw [if_neg hk]
    unfold a_lv
    by_cases h : e.2.1 = 0
    · rw [if_pos h]
      exact q_set_n hd
    · rw [if_neg h]
      exact q_set_n hd
theorem a_vic_mem {e : Ent} (h : a_vic P A c l = some e) : e ∈ A.1 4 ∧ q_st P.1.2.2 e.1 = q_st P.1.2.2 l := by
  unfold a_vic at h
  have key : e ∈ q_pl P.1.2.2 (A.1 4) (q_st P.1.2.2 l) := by
    by_cases q : P.2.2.2.1 c ≤ nI ((q_pl P.1.2.2 (A.1 4) (q_st P.1.2.2 l)).filter (q_own (nI c))).length
    · rw [if_pos q] at h
      exact (List.mem_filter.mp (List.mem_of_getLast? h)).1
    · rw [if_neg q] at h
      by_cases q2 : (q_pl P.1.2.2 (A.1 4) (q_st P.1.2.2 l)).length < 4
      · rw [if_pos q2] at h
        cases h
      · rw [if_neg q2] at h
        exact List.mem_of_getLast? h
  exact q_mem_pl.mp key
theorem a_vic_none (hP : okP P) (hc : c < P.1.1) (hq : ¬ P.2.2.2.1 c = 0) (h : a_vic P A c l = none) : (q_pl P.1.2.2 (A.1 4) (q_st P.1.2.2 l)).length < 4 := by
  unfold a_vic at h
  by_cases q : P.2.2.2.1 c ≤ nI ((q_pl P.1.2.2 (A.1 4) (q_st P.1.2.2 l)).filter (q_own (nI c))).length
  · rw [if_pos q] at h
    rw [List.getLast?_eq_none_iff] at h
    rw [h] at q
    obtain ⟨n, hn, hn2⟩ := hP.2.2.2.2.2 c hc
    rw [hn2] at q hq
    have h0 : n ≤ 0 := (nI_leI (by omega) (by decide)).mp q
    have h1 : n = 0 := by omega
    rw [h1] at hq
    exact absurd nI_0 hq
  · rw [if_neg q] at h
    by_cases q2 : (q_pl P.1.2.2 (A.1 4) (q_st P.1.2.2 l)).length < 4
    · exact q2
    · rw [if_neg q2] at h
      rw [List.getLast?_eq_none_iff] at h
      rw [h]
      decide
theorem K_free (hP : okP P) (hI : AI P A) (hc : c < P.1.1) (hq : ¬ P.2.2.2.1 c = 0) : AI P (a_free P A c l) ∧ (∀ l2, q_look l2 (A.1 4) = none → q_look l2 ((a_free P A c l).1 4) = none) ∧ (∀ d, ¬ d = 4 → ∀ e2 ∈ (a_free P A c l).1 d, e2 ∈ A.1 d) ∧ (¬ P.2.1 = 1 → ∀ d, ¬ d = 4 → (a_free P A c l).1 d = A.1 d) ∧ vl A.2.1 (a_free P A c l).2.1 ∧ (q_pl P.1.2.2 ((a_free P A c l).1 4) (q_st P.1.2.2 l)).length < 4 := by
  unfold a_free
  cases h : a_vic P A c l with
  | none =>
    exact ⟨hI, fun _ h => h, fun _ _ _ he => he, fun _ _ _ => rfl, vl_r _, a_vic_none hP hc hq h⟩
  | some e =>
    obtain ⟨m1, m2⟩ := a_vic_mem h
    obtain ⟨i1, i2, i3, i4, i5⟩ := K_leave hP hI m1
    refine ⟨i1, fun l2 h2 => ?_, i3, i4, i5, ?_⟩
    · simp only []
      rw [i2]
      exact q_look_rm_none h2
    · simp only []
      rw [i2, q_pl_rm]
      have h5 := q_rm_lt (q_mem_pl.mpr ⟨m1, m2⟩)
      have h6 := hI.2.2.2.2.2.1 (q_st P.1.2.2 l)
      omega
theorem K_in2 (hP : okP P) (hI : AI P A) (hc : c < P.1.1) (h1 : q_look l (A.1 4) = none) (hw : w = 0 ∨ w = 1) (hk : w = 1 → knw A.2.1 l) (hx : P.2.1 = 2 → ∀ d, d < P.1.1 → q_look l (A.1 d) = none) : AI P (a_in2 P A c l w v) ∧ (∀ l2, ¬ l = l2 → q_look l2 (A.1 4) = none → q_look l2 ((a_in2 P A c l w v).1 4) = none) ∧ (∀ d, ¬ d = 4 → ∀ e2 ∈ (a_in2 P A c l w v).1 d, e2 ∈ A.1 d) ∧ (¬ P.2.1 = 1 → ∀ d, ¬ d = 4 → (a_in2 P A c l w v).1 d = A.1 d) ∧ vl A.2.1 (a_in2 P A c l w v).2.1 ∧ (¬ P.2.2.2.1 c = 0 → ¬ q_look l ((a_in2 P A c l w v).1 4) = none) := by
  unfold a_in2
  by_cases hq : P.2.2.2.1 c = 0
  · rw [if_pos hq]
    by_cases h : w = 0
    · rw [if_pos h]
      exact ⟨hI, fun _ _ h => h, fun _ _ _ he => he, fun _ _ _ => rfl, vl_r _, fun q => absurd hq q⟩
    · rw [if_neg h]
      exact ⟨AI_mem hP hI, fun _ _ h => h, fun _ _ _ he => he, fun _ _ _ => rfl, vl_mem hP, fun q => absurd hq q⟩
  · rw [if_neg hq]
    obtain ⟨i1, i2, i3, i4, i5, i6⟩ := K_free (l := l) hP hI hc hq
    have h4 := hP.1.2
    refine ⟨AI_cons4 hP i1 (i2 l h1) hw (fun h => vl_k i5 (hk h)) i6 (fun h d hd => ?_), fun l2 hl2 h2 => ?_, fun d hd e2 he2 => ?_, fun h d hd => ?_, i5, fun _ => ?_⟩
    · rw [i4 (by rw [h]; decide) d (by omega)]
      exact hx h d hd
    · rw [aset_s, q_look_cons, if_neg hl2]
      exact i2 l2 h2
    · rcases q_set_mem he2 with ⟨q1, -⟩ | ⟨-, q2⟩
      · exact absurd q1 hd
      · exact i3 d hd e2 q2
    · exact (q_set_n hd).trans (i4 h d hd)
    · rw [aset_s, q_look_cons, if_pos rfl]
      exact fun q => by cases q
theorem a_one_none {N : Nat} {L : Nat → List Ent} (h : a_one N L l c = false) {d : Nat} (hd : d < N) (hdc : ¬ d = c) : q_look l (L d) = none := by
  unfold a_one at h
  rw [List.any_eq_false] at h
  have h2 := h d (List.mem_range.mpr hd)
  cases h3 : q_look l (L d) with
  | none => rfl
  | some e => exact absurd (by rw [h3]; simp [hdc]) h2
theorem K_gone (hP : okP P) (hI : AI P A) (hc : c < P.1.1) (hw : e.2.1 = 0 ∨ e.2.1 = 1) (hk : e.2.1 = 1 → knw A.2.1 e.1) (h1 : q_look e.1 (A.1 c) = none) (hx : P.2.1 = 2 → q_look e.1 (A.1 4) = none) : AI P (a_gone P A c e) ∧ (∀ l2, ¬ e.1 = l2 → q_look l2 (A.1 4) = none → q_look l2 ((a_gone P A c e).1 4) = none) ∧ (∀ d, ¬ d = 4 → (a_gone P A c e).1 d = A.1 d) ∧ vl A.2.1 (a_gone P A c e).2.1 := by
  unfold a_gone
  by_cases h : P.2.1 = 2 ∧ P.2.2.2.2 e.1 = false ∧ a_one P.1.1 A.1 e.1 c = false
  · rw [if_pos h]
    obtain ⟨i1, i2, i3, i4, i5, -⟩ := K_in2 (v := e.2.2.1) hP hI hc (hx h.1) hw hk (fun _ d hd => by
      by_cases q : d = c
      · rw [q]; exact h1
      · exact a_one_none h.2.2 hd q)
    exact ⟨i1, i2, i4 (by rw [h.1]; decide), i5⟩
  · rw [if_neg h]
    by_cases h2 : e.2.1 = 0
    · rw [if_pos h2]
      exact ⟨hI, fun _ _ h => h, fun _ _ => rfl, vl_r _⟩
    · rw [if_neg h2]
      obtain ⟨i1, i2, i3, i4⟩ := K_down (v := e.2.2.1) hP hI (hk (hw.resolve_left h2))
      exact ⟨i1, fun l2 _ h3 => (i3 l2).mpr h3, i2, i4⟩
theorem a_out_mem (h : a_out P A c l = some e) : e ∈ A.1 c ∧ q_st P.1.2.1 e.1 = q_st P.1.2.1 l := by
  unfold a_out at h
  by_cases q2 : (q_pl P.1.2.1 (A.1 c) (q_st P.1.2.1 l)).length < 2
  · rw [if_pos q2] at h
    cases h
  · rw [if_neg q2] at h
    exact q_mem_pl.mp (List.mem_of_getLast? h)
theorem a_out_none (h : a_out P A c l = none) : (q_pl P.1.2.1 (A.1 c) (q_st P.1.2.1 l)).length < 2 := by
  unfold a_out at h
  by_cases q2 : (q_pl P.1.2.1 (A.1 c) (q_st P.1.2.1 l)).length < 2
  · exact q2
  · rw [if_neg q2] at h
    rw [List.getLast?_eq_none_iff] at h
    rw [h]
    decide
theorem K_out (hP : okP P) (hI : AI P A) (hc : c < P.1.1) (h : a_out P A c l = some e) : AI P (a_setL A c (q_rm e.1 (A.1 c))) ∧ (e.2.1 = 0 ∨ e.2.1 = 1) ∧ (e.2.1 = 1 → knw A.2.1 e.1) ∧ q_look e.1 ((a_setL A c (q_rm e.1 (A.1 c))).1 c) = none ∧ (P.2.1 = 2 → q_look e.1 ((a_setL A c (q_rm e.1 (A.1 c))).1 4) = none) := by
  obtain ⟨m1, m2⟩ := a_out_mem h
  have h4 := hP.1.2
  refine ⟨AI_rm hP hI e.1 (Or.inl hc), hI.2.1 c e m1, hI.2.2.1 c e m1, ?_, fun hk => ?_⟩
  · show q_look e.1 (q_set A.1 c _ c) = none
    rw [q_set_s]
    exact q_look_rm
  · show q_look e.1 (q_set A.1 c _ 4) = none
    rw [q_set_n (by omega)]
    refine q_look_none.mpr (fun f hf hfe => ?_)
    have h5 := hI.2.2.2.2.2.2.2.1 hk f hf c hc
    exact q_look_none.mp h5 e m1 hfe.symm
theorem K_room (hP : okP P) (hI : AI P A) (hc : c < P.1.1) : AI P (a_room P A c l) ∧ (∀ l2, q_look l2 (A.1 c) = none → q_look l2 (A.1 4) = none → q_look l2 ((a_room P A c l).1 4) = none) ∧ (∀ d, ¬ d = 4 → ∀ e2 ∈ (a_room P A c l).1 d, e2 ∈ A.1 d) ∧ vl A.2.1 (a_room P A c l).2.1 ∧ (q_pl P.1.2.1 ((a_room P A c l).1 c) (q_st P.1.2.1 l)).length < 2 := by
  have h4 := hP.1.2
  unfold a_room
  cases h : a_out P A c l with
  | none => exact ⟨hI, fun _ _ h => h, fun _ _ _ he => he, vl_r _, a_out_none h⟩
  | some e =>
    obtain ⟨m1, m2⟩ := a_out_mem h
    obtain ⟨o1, o2, o3, o4, o5⟩ := K_out hP hI hc h
    obtain ⟨i1, i2, i3, i4⟩ := K_gone hP o1 hc o2 o3 o4 o5
    refine ⟨i1, fun l2 h1 h2 => i2 l2 ?_ ?_, fun d hd e2 he2 => ?_, i4, ?_⟩
    · exact q_look_none.mp h1 e m1
    · show q_look l2 (q_set A.1 c _ 4) = none
      rw [q_set_n (by omega)]
      exact h2
    · simp only [] at he2
      rw [i3 d hd] at he2
      rcases q_set_mem he2 with ⟨q1, q2⟩ | ⟨-, q2⟩
      · rw [q1]; exact (q_mem_rm.mp q2).1
      · exact q2
    · simp only []
      rw [i3 c (by omega)]
      show (q_pl P.1.2.1 (q_set A.1 c _ c) (q_st P.1.2.1 l)).length < 2
      rw [q_set_s, q_pl_rm]
      have h5 := q_rm_lt (q_mem_pl.mpr ⟨m1, m2⟩)
      have h6 := hI.2.2.2.2.1 c hc (q_st P.1.2.1 l)
      omega
theorem q_sub_none {L K : List Ent} (h : ∀ e ∈ K, e ∈ L) (hl : q_look l L = none) : q_look l K = none := q_look_none.mpr (fun e he => q_look_none.mp hl e (h e he))
theorem K_in1 (hP : okP P) (hI : AI P A) (hc : c < P.1.1) (h1 : q_look l (A.1 c) = none) (hw : w = 0 ∨ w = 1) (hk : w = 1 → knw A.2.1 l) (ho : w = 1 → ∀ d, d < P.1.1 → q_look l (A.1 d) = none) (hx : P.2.1 = 2 → q_look l (A.1 4) = none) : AI P (a_in1 P A c l w v) ∧ ¬ q_look l ((a_in1 P A c l w v).1 c) = none ∧ vl A.2.1 (a_in1 P A c l w v).2.1 := by
  have h4 := hP.1.2
  obtain ⟨i1, i2, i3, i4, i5⟩ := K_room (l := l) hP hI hc
  refine ⟨AI_cons1 hP i1 hc (q_sub_none (i3 c (by omega)) h1) hw (fun h => vl_k i4 (hk h)) i5 (fun h d hd => q_sub_none (i3 d (by omega)) (ho h d hd)) (fun h => i2 l h1 (hx h)), ?_, i4⟩
  unfold a_in1
  rw [aset_s, q_look_cons, if_pos rfl]
  exact fun q => by cases q
end Keep
