-- the class does what the lists say
def psOf (a b l : Int32) : Bool := decide (¬ l < a ∧ ¬ b < l)
def RC (g : GC) (x : Cs) (P : Pm) (A : Ab) : Prop := (g.2.1.1 = nI P.1.1 ∧ g.2.1.2 = P.2.1 ∧ g.2.2.1 = (P.1.1, P.1.1 * 7) ∧ g.2.2.2.2.2 = P.2.2.1) ∧ RB g.2.2.2.1 x.2.1 P.1.1 P.1.2.1 2 A.1 ∧ RB g.2.2.2.2.1 x.2.2.1 1 P.1.2.2 4 (fun _ => A.1 4) ∧ psOf x.1.1 x.1.2.1 = P.2.2.2.2 ∧ x.1.2.2 = A.2.2.1 ∧ x.2.2.2.1 = A.2.1 ∧ (∀ c, c < P.1.1 → x.2.2.2.2.1 c = P.2.2.2.1 c) ∧ x.2.2.2.2.2 = A.2.2.2
section ClassRef
variable {g : GC} {x : Cs} {P : Pm} {A : Ab} {c : Nat} {l v w : Int32} {e : Ent}
theorem C_tally (hP : okP P) (hR : RC g x P A) (hc : c < P.1.1) {k : Nat} (hk : k < 7) : RC g (M_C_tally g x (nI c) (nI k)) P (a_tal A (7 * c + k)) := by
  obtain ⟨⟨g1, g2, g3, g4⟩, b1, b2, r1, r2, r3, r4, r5⟩ := hR
  have h4 := hP.1.2
  have e7 : (7 : Int32) = nI 7 := by decide
  have ei : (nI c * (7 : Int32)) + nI k = nI (7 * c + k) := by rw [e7, pk_mul, nI_add, Nat.mul_comm]
  have e8 : g.2.2.1.2 = P.1.1 * 7 := congrArg Prod.snd g3
  unfold M_C_tally
  rw [ei, if_neg (nI_pos (by omega)), e8, if_neg (nI_ge (by omega) (by omega)), nI_clamp (by omega)]
  refine ⟨⟨g1, g2, g3, g4⟩, b1, b2, r1, r2, r3, r4, ?_⟩
  show upd x.2.2.2.2.2 (7 * c + k) (x.2.2.2.2.2 (7 * c + k) + 1) = upd A.2.2.2 (7 * c + k) (A.2.2.2 (7 * c + k) + 1)
  rw [r5]
theorem C_pass (hR : RC g x P A) : M_C_passesBy g x l = if P.2.2.2.2 l = true then 1 else 0 := by
  rw [← hR.2.2.2.1]
  unfold M_C_passesBy psOf
  by_cases h1 : l < x.1.1
  · rw [if_pos h1, if_neg (by simp [h1])]
  · rw [if_neg h1]
    by_cases h2 : x.1.2.1 < l
    · rw [if_pos h2, if_neg (by simp [h2])]
    · rw [if_neg h2, if_pos (by simp [h1, h2])]
theorem C_find1 (hI : AI P A) (hR : RC g x P A) (hc : c < P.1.1) (l : Int32) : (∃ e, q_look l (A.1 c) = some e ∧ e.1 = l ∧ SB P.1.2.1 2 A.1 c e (M_B_find g.2.2.2.1 x.2.1 (nI c) l)) ∨ (q_look l (A.1 c) = none ∧ M_B_find g.2.2.2.1 x.2.1 (nI c) l = -1) := RB_find hR.2.1 (hI.1 c) hc
theorem C_find2 (hI : AI P A) (hR : RC g x P A) (l : Int32) : (∃ e, q_look l (A.1 4) = some e ∧ e.1 = l ∧ SB P.1.2.2 4 (fun _ => A.1 4) 0 e (M_B_find g.2.2.2.2.1 x.2.2.1 0 l)) ∨ (q_look l (A.1 4) = none ∧ M_B_find g.2.2.2.2.1 x.2.2.1 0 l = -1) := by
  have h := RB_find (c := 0) (l := l) hR.2.2.1 (hI.1 4) (by omega)
  rw [nI_0] at h
  exact h
theorem C_set1 (hP : okP P) (hR : RC g x P A) (hc : c < P.1.1) {K : List Ent} {z : Bk} (h : RB g.2.2.2.1 z P.1.1 P.1.2.1 2 (q_set A.1 c K)) : RC g (x.1, z, x.2.2.1, x.2.2.2.1, x.2.2.2.2.1, x.2.2.2.2.2) P (a_setL A c K) := by
  obtain ⟨g0, b1, b2, r1, r2, r3, r4, r5⟩ := hR
  have h4 := hP.1.2
  refine ⟨g0, h, RB_congr (fun d _ => ?_) b2, r1, r2, r3, r4, r5⟩
  exact (aset_n (by omega)).symm
theorem C_set2 (hP : okP P) (hR : RC g x P A) {K : List Ent} {z : Bk} (h : RB g.2.2.2.2.1 z 1 P.1.2.2 4 (q_set (fun _ => A.1 4) 0 K)) : RC g (x.1, x.2.1, z, x.2.2.2.1, x.2.2.2.2.1, x.2.2.2.2.2) P (a_setL A 4 K) := by
  obtain ⟨g0, b1, b2, r1, r2, r3, r4, r5⟩ := hR
  have h4 := hP.1.2
  refine ⟨g0, RB_congr (fun d hd => (aset_n (by omega)).symm) b1, RB_congr (fun d hd => ?_) h, r1, r2, r3, r4, r5⟩
  have e0 : d = 0 := by omega
  subst e0
  rw [q_set_s]
  exact aset_s.symm
theorem C_back (hR : RC g x P A) : RC g (x.1, x.2.1, x.2.2.1, M_V_writeBack g.2.2.2.2.2 x.2.2.2.1 l v, x.2.2.2.2.1, x.2.2.2.2.2) P (a_mem P A l v) := by
  obtain ⟨⟨g1, g2, g3, g4⟩, b1, b2, r1, r2, r3, r4, r5⟩ := hR
  refine ⟨⟨g1, g2, g3, g4⟩, b1, b2, r1, r2, ?_, r4, r5⟩
  show M_V_writeBack g.2.2.2.2.2 x.2.2.2.1 l v = M_V_writeBack P.2.2.1 A.2.1 l v
  rw [g4, r3]
theorem C_down (hP : okP P) (hI : AI P A) (hR : RC g x P A) : RC g (M_C_writeDown g x l v) P (a_down P A l v) := by
  unfold M_C_writeDown a_down
  rcases C_find2 hI hR l with ⟨e, h1, h2, h3⟩ | ⟨h1, h2⟩
  · obtain ⟨-, -, -, -, k1, -⟩ := SB_val hR.2.2.1 (by omega) h3
    have h4 := RB_rewrite hR.2.2.1 (hI.1 4) (by omega) v h3
    rw [bnd_eq rfl, if_neg k1, if_neg (by rw [h1]; exact fun q => by cases q), bnd_eq rfl]
    rw [h2] at h4
    exact C_set2 hP hR h4
  · rw [bnd_eq h2.symm, if_pos rfl, if_pos h1, bnd_eq rfl]
    exact C_back hR
theorem C_wif (hP : okP P) (hI : AI P A) (hR : RC g x P A) (l : Int32) : ∀ (n c fuel : Nat), c + n = P.1.1 → n < fuel →
    (a_wif A.1 l n c = none ∧ L_C_writtenInFirst_2 g x l fuel (nI c) = -1) ∨ (∃ d e, a_wif A.1 l n c = some (d, e) ∧ SB P.1.2.1 2 A.1 d e (L_C_writtenInFirst_2 g x l fuel (nI c))) := by
  have h4 := hP.1.2
  have g1 := hR.1.1
  intro n
  induction n with
  | zero =>
    intro c fuel hc hf
    obtain ⟨m, rfl⟩ : ∃ m, fuel = m + 1 := ⟨fuel - 1, by omega⟩
    rw [L_C_writtenInFirst_2_eq, g1, if_pos (nI_le (by omega) (by omega))]
    exact Or.inl ⟨rfl, rfl⟩
  | succ n ih =>
    intro c fuel hc hf
    obtain ⟨m, rfl⟩ : ∃ m, fuel = m + 1 := ⟨fuel - 1, by omega⟩
    rw [L_C_writtenInFirst_2_eq, g1, if_neg (nI_ge (by omega) (by omega))]
    unfold a_wif
    have h9 := ih (c + 1) m (by omega) (by omega)
    rcases C_find1 hI hR (c := c) (by omega) l with ⟨e, k1, k2, k3⟩ | ⟨k1, k2⟩
    · obtain ⟨-, -, s3, -, -, -⟩ := SB_val hR.2.1 (by omega) k3
      rw [bnd_eq rfl, bnd_eq s3.symm, k1, nI_1]
      simp only []
      by_cases q : e.2.1 = 0
      · rw [if_pos q, if_pos q]
        exact h9
      · rw [if_neg q, if_neg q]
        exact Or.inr ⟨c, e, rfl, k3⟩
    · rw [bnd_eq k2.symm, bnd_eq B_isWritten_n.symm, if_pos rfl, k1, nI_1]
      exact h9
theorem C_wif0 (hP : okP P) (hI : AI P A) (hR : RC g x P A) (l : Int32) : (a_wif A.1 l P.1.1 0 = none ∧ M_C_writtenInFirst g x l = -1) ∨ (∃ d e, a_wif A.1 l P.1.1 0 = some (d, e) ∧ SB P.1.2.1 2 A.1 d e (M_C_writtenInFirst g x l)) := by
  have h4 := hP.1.2
  have h := C_wif hP hI hR l P.1.1 0 (P.1.1 + 1) (by omega) (by omega)
  unfold M_C_writtenInFirst
  rw [hR.1.1, mu_nI0 (by omega)]
  rw [nI_0] at h
  exact h
theorem C_hand (hP : okP P) (hI : AI P A) (hR : RC g x P A) : RC g (M_C_handOver g x l) P (a_hand P A l) := by
  unfold M_C_handOver a_hand
  rcases C_wif0 hP hI hR l with ⟨h1, h2⟩ | ⟨d, e, h1, h2⟩
  · rw [bnd_eq h2.symm, if_pos rfl, h1]
    exact hR
  · obtain ⟨-, w2, w3, w4⟩ := a_wif_some _ _ h1
    have hd : d < P.1.1 := by omega
    obtain ⟨m1, m2⟩ := q_look_some w3
    obtain ⟨s1, s2, s3, s4, s5, -⟩ := SB_val hR.2.1 hd h2
    have hB := RB_clean hR.2.1 (hI.1 d) hd h2
    rw [m2] at hB
    have hS : SB P.1.2.1 2 (q_set A.1 d (q_md l q_cl (A.1 d))) d (q_cl e) (M_C_writtenInFirst g x l) := by
      obtain ⟨k, h5, h6⟩ := h2
      refine ⟨k, ?_, h6⟩
      rw [q_set_s, q_cl_key, q_pl_md q_cl_key]
      unfold q_md
      rw [List.getElem?_map, h5]
      show some (if e.1 = l then q_cl e else e) = _
      rw [if_pos m2]
    obtain ⟨-, t2, -, -, -, -⟩ := SB_val hB hd hS
    have t2 : M_B_versionAt g.2.2.2.1 (M_B_clean g.2.2.2.1 x.2.1 (M_C_writtenInFirst g x l)) (M_C_writtenInFirst g x l) = e.2.2.1 := t2
    rw [bnd_eq rfl, if_neg s5, bnd_eq rfl, bnd_eq t2.symm, bnd_eq rfl, h1]
    have hR2 : RC g ((x.1.1, x.1.2.1, (x.1.2.2 + (1 : Int32))), M_B_clean g.2.2.2.1 x.2.1 (M_C_writtenInFirst g x l), x.2.2.1, x.2.2.2.1, x.2.2.2.2.1, x.2.2.2.2.2) P (q_set A.1 d (q_md l q_cl (A.1 d)), A.2.1, A.2.2.1 + 1, A.2.2.2) := by
      obtain ⟨g0, b1, b2, r1, r2, r3, r4, r5⟩ := C_set1 hP hR hd hB
      refine ⟨g0, b1, b2, r1, ?_, r3, r4, r5⟩
      have r2 : x.1.2.2 = A.2.2.1 := r2
      show x.1.2.2 + 1 = A.2.2.1 + 1
      rw [r2]
    exact C_down hP (K_clean hP hI hd _) hR2
theorem C_lv (hP : okP P) (hk1 : P.2.1 = 1) (p0 : Int32) : ∀ (n c fuel : Nat) (w v : Int32) (A : Ab) (z : Cs), c + n = P.1.1 → n < fuel → AI P A → RC g z P A →
    RC g (L_C_leaveSecond_39 g p0 fuel l v w (nI c) z) P (a_lv P l n c w v A) := by
  have h4 := hP.1.2
  intro n
  induction n with
  | zero =>
    intro c fuel w v A z hc hf hI hR
    obtain ⟨m, rfl⟩ : ∃ m, fuel = m + 1 := ⟨fuel - 1, by omega⟩
    rw [L_C_leaveSecond_39_eq, if_pos (hR.1.2.1.trans hk1), hR.1.1, if_pos (nI_le (by omega) (by omega))]
    unfold L_C_leaveSecond_122 a_lv
    by_cases q : w = 0
    · rw [if_pos q, if_pos q]
      exact hR
    · rw [if_neg q, if_neg q, bnd_eq rfl]
      exact C_back hR
  | succ n ih =>
    intro c fuel w v A z hc hf hI hR
    obtain ⟨m, rfl⟩ : ∃ m, fuel = m + 1 := ⟨fuel - 1, by omega⟩
    rw [L_C_leaveSecond_39_eq, if_pos (hR.1.2.1.trans hk1), hR.1.1, if_neg (nI_ge (by omega) (by omega))]
    unfold a_lv
    rcases C_find1 hI hR (c := c) (by omega) l with ⟨e, k1, k2, k3⟩ | ⟨k1, k2⟩
    · obtain ⟨-, s2, s3, -, s5, -⟩ := SB_val hR.2.1 (by omega) k3
      have hB := RB_drop hR.2.1 (hI.1 c) (by omega) k3
      rw [k2] at hB
      have hR2 := C_tally hP (C_set1 hP hR (by omega) hB) (c := c) (by omega) (k := 6) (by omega)
      have hI2 : AI P (a_tal (a_setL A c (q_rm l (A.1 c))) (7 * c + 6)) := AI_tal (AI_rm hP hI l (Or.inl (by omega))) _
      have e6 : nI 6 = (6 : Int32) := by decide
      rw [e6] at hR2
      rw [k1]
      simp only []
      by_cases q : e.2.1 = 0
      · rw [bnd_eq rfl, bnd_eq s3.symm, if_pos q, if_neg s5, bnd_eq rfl, bnd_eq rfl, nI_1, if_pos q, if_pos q]
        exact ih (c + 1) m w v _ _ (by omega) (by omega) hI2 hR2
      · rw [bnd_eq rfl, bnd_eq s3.symm, if_neg q, bnd_eq s2.symm, if_neg s5, bnd_eq rfl, bnd_eq rfl, nI_1, if_neg q, if_neg q]
        exact ih (c + 1) m 1 e.2.2.1 _ _ (by omega) (by omega) hI2 hR2
    · rw [bnd_eq k2.symm, bnd_eq B_isWritten_n.symm, if_pos rfl, if_pos rfl, k1, nI_1]
      exact ih (c + 1) m w v A z (by omega) (by omega) hI hR
theorem C_leave (hP : okP P) (hI : AI P A) (hR : RC g x P A) {i : Int32} (h : SB P.1.2.2 4 (fun _ => A.1 4) 0 e i) : RC g (M_C_leaveSecond g x i) P (a_leave P A e) := by
  have h4 := hP.1.2
  obtain ⟨s1, s2, s3, -, s5, -⟩ := SB_val hR.2.2.1 (by omega) h
  have hB := RB_drop hR.2.2.1 (hI.1 4) (by omega) h
  have hR2 := C_set2 hP hR hB
  have hI2 := AI_rm hP hI e.1 (c := 4) (Or.inr rfl)
  unfold M_C_leaveSecond a_leave
  rw [bnd_eq s1.symm, bnd_eq s2.symm, bnd_eq s3.symm, bnd_eq rfl]
  by_cases hk : P.2.1 = 1
  · rw [if_pos hk, hR.1.1, mu_nI0 (by omega)]
    have h9 := C_lv (g := g) (l := e.1) hP hk i P.1.1 0 (P.1.1 + 1) e.2.1 e.2.2.1 _ _ (by omega) (by omega) hI2 hR2
    rw [nI_0] at h9
    exact h9
  · rw [if_neg hk, L_C_leaveSecond_39_eq, if_neg (fun q => hk (hR.1.2.1.symm.trans q))]
    unfold L_C_leaveSecond_122 a_lv
    by_cases q : e.2.1 = 0
    · rw [if_pos q, if_pos q]
      exact hR2
    · rw [if_neg q, if_neg q, bnd_eq rfl]
      exact C_back hR2
end ClassRef
