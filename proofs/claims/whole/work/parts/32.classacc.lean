section ClassAcc
variable {g : GC} {x : Cs} {P : Pm} {A : Ab} {c : Nat} {l v w : Int32} {e : Ent}
theorem C_end (hP : okP P) (hR : RC g x P A) (hc : c < P.1.1) {v3 : Int32} : (L_C_bring_158 g (nI c) l v3 x).1 = (if v3 = -1 then 3 else 2) ∧ RC g (L_C_bring_158 g (nI c) l v3 x).2 P (a_tal A (7 * c + if v3 = -1 then 3 else 2)) := by
  have t3 := C_tally hP hR hc (k := 3) (by omega)
  have t2 := C_tally hP hR hc (k := 2) (by omega)
  have e3 : nI 3 = (3 : Int32) := by decide
  have e2 : nI 2 = (2 : Int32) := by decide
  rw [e3] at t3
  rw [e2] at t2
  unfold L_C_bring_158
  by_cases h : v3 = -1
  · rw [if_pos h, bnd_eq rfl, if_pos h, if_pos h, if_pos h]
    exact ⟨rfl, t3⟩
  · rw [if_neg h, bnd_eq rfl, if_neg h, if_neg h, if_neg h]
    exact ⟨rfl, t2⟩
theorem C_bring (hP : okP P) (hI : AI P A) (hR : RC g x P A) (hc : c < P.1.1) (h1 : q_look l (A.1 c) = none) : (M_C_bring g x (nI c) l).1 = nI (a_h (a_bring2 P A c l).1) ∧ RC g (M_C_bring g x (nI c) l).2 P (a_tal (a_bring2 P A c l).2 (7 * c + a_h (a_bring2 P A c l).1)) := by
  have h4 := hP.1.2
  have hkp := hP.2.2.2.1
  unfold M_C_bring a_bring2
  rcases C_find2 hI hR l with ⟨e, k1, k2, k3⟩ | ⟨k1, k2⟩
  · obtain ⟨s1, s2, s3, s4, s5, s6⟩ := SB_val hR.2.2.1 (by omega) k3
    rw [bnd_eq rfl, if_neg s5, bnd_eq s2.symm, k1]
    simp only []
    unfold L_C_bring_36 a_hit2
    rw [if_neg s5]
    have eh : a_h 2 = 2 := rfl
    rw [eh]
    by_cases hk : P.2.1 = 2
    · have hB := RB_drop hR.2.2.1 (hI.1 4) (by omega) k3
      rw [k2] at hB
      have hR2 := C_set2 hP hR hB
      have hI2 := AI_rm hP hI l (c := 4) (Or.inr rfl)
      rw [if_pos (hR.1.2.1.trans hk), bnd_eq s3.symm, bnd_eq rfl, if_pos hk, if_pos hk]
      unfold L_C_bring_109
      rw [if_neg (fun q => by rw [hR.1.2.1, hk] at q; exact absurd q (by decide))]
      refine C_in1 hP hI2 hR2 hc s6 (fun r => r.1 = nI 2 ∧ RC g r.2 P _) (fun z hz => ?_)
      have h9 := C_end (l := l) hP hz hc (v3 := M_B_find g.2.2.2.2.1 x.2.2.1 0 l)
      rw [if_neg s5, if_neg s5] at h9
      exact h9
    · have hB := RB_use hR.2.2.1 (hI.1 4) (by omega) k3
      rw [k2] at hB
      have hR2 := C_set2 hP hR hB
      have hI2 := K_use hP hI (Or.inr rfl) (q_look_some k1).1
      rw [k2] at hI2
      rw [if_neg (fun q => hk (hR.1.2.1.symm.trans q)), bnd_eq rfl, if_neg hk, if_neg hk]
      unfold L_C_bring_109
      have last : (L_C_bring_130 g (nI c) l (M_B_find g.2.2.2.2.1 x.2.2.1 0 l) e.2.2.1 0 (x.1, x.2.1, M_B_useLast g.2.2.2.2.1 x.2.2.1 (M_B_find g.2.2.2.2.1 x.2.2.1 0 l), x.2.2.2.1, x.2.2.2.2.1, x.2.2.2.2.2)).1 = nI 2 ∧ RC g (L_C_bring_130 g (nI c) l (M_B_find g.2.2.2.2.1 x.2.2.1 0 l) e.2.2.1 0 (x.1, x.2.1, M_B_useLast g.2.2.2.2.1 x.2.2.1 (M_B_find g.2.2.2.2.1 x.2.2.1 0 l), x.2.2.2.1, x.2.2.2.2.1, x.2.2.2.2.2)).2 P (a_tal (a_in1 P (a_setL A 4 (e :: q_rm l (A.1 4))) c l 0 e.2.2.1) (7 * c + 2)) := by
        refine C_in1 hP hI2 hR2 hc (Or.inl rfl) (fun r => r.1 = nI 2 ∧ RC g r.2 P _) (fun z hz => ?_)
        have h9 := C_end (l := l) hP hz hc (v3 := M_B_find g.2.2.2.2.1 x.2.2.1 0 l)
        rw [if_neg s5, if_neg s5] at h9
        exact h9
      by_cases hk1 : g.2.1.2 = (1 : Int32)
      · rw [if_pos hk1]
        rcases C_find2 hI2 hR2 l with ⟨e9, q1, q2, q3⟩ | ⟨q1, q2⟩
        · obtain ⟨-, -, -, -, u5, -⟩ := SB_val hR2.2.2.1 (by omega) q3
          rw [bnd_eq rfl, if_neg u5]
          exact last
        · rw [aset_s, q_look_cons, if_pos k2] at q1
          cases q1
      · rw [if_neg hk1]
        exact last
  · have em : M_V_inMemory g.2.2.2.2.2 x.2.2.2.1 l = M_V_inMemory P.2.2.1 A.2.1 l := by rw [hR.1.2.2.2, hR.2.2.2.2.2.1]
    rw [bnd_eq k2.symm, if_pos rfl, bnd_eq em.symm, k1]
    simp only []
    unfold L_C_bring_36 a_fetch a_mid
    rw [if_pos rfl]
    have eh3 : a_h 3 = 3 := rfl
    have eh4 : a_h 4 = 3 := rfl
    have last : ∀ (z : Cs) (B : Ab), AI P B → RC g z P B → (L_C_bring_130 g (nI c) l (-1) (M_V_inMemory P.2.2.1 A.2.1 l) 0 z).1 = nI 3 ∧ RC g (L_C_bring_130 g (nI c) l (-1) (M_V_inMemory P.2.2.1 A.2.1 l) 0 z).2 P (a_tal (a_in1 P B c l 0 (M_V_inMemory P.2.2.1 A.2.1 l)) (7 * c + 3)) := fun z B hIB hRB => by
      refine C_in1 hP hIB hRB hc (Or.inl rfl) (fun r => r.1 = nI 3 ∧ RC g r.2 P _) (fun z hz => ?_)
      have h9 := C_end (l := l) hP hz hc (v3 := -1)
      rw [if_pos rfl, if_pos rfl] at h9
      exact h9
    have stop : (L_C_bring_158 g (nI c) l (-1) x).1 = nI 3 ∧ RC g (L_C_bring_158 g (nI c) l (-1) x).2 P (a_tal A (7 * c + 3)) := by
      have h9 := C_end (l := l) hP hR hc (v3 := -1)
      rw [if_pos rfl, if_pos rfl] at h9
      exact h9
    by_cases hk : P.2.1 = 2
    · rw [if_pos (hR.1.2.1.trans hk), if_neg (fun q => by rw [hk] at q; exact absurd q.1 (by decide)), if_pos (Or.inl hk), eh3]
      unfold L_C_bring_109
      rw [if_neg (fun q => by rw [hR.1.2.1, hk] at q; exact absurd q (by decide))]
      exact last x A hI hR
    · rw [if_neg (fun q => hk (hR.1.2.1.symm.trans q))]
      have ep := C_pass (l := l) hR
      by_cases hp : P.2.2.2.2 l = true
      · rw [if_pos hp] at ep
        rw [bnd_eq ep.symm, if_neg i10]
        unfold L_C_bring_109
        by_cases hk1 : P.2.1 = 1
        · rw [if_pos (hR.1.2.1.trans hk1), bnd_eq k2.symm, if_pos rfl, if_pos ⟨hk1, Or.inl hp⟩, eh4]
          exact stop
        · rw [if_neg (fun q => hk1 (hR.1.2.1.symm.trans q)), if_neg (fun q => hk1 q.1), if_pos (Or.inr hp), eh3]
          exact last x A hI hR
      · rw [if_neg hp] at ep
        have hn : ¬ (P.2.1 = 2 ∨ P.2.2.2.2 l = true) := fun q => q.elim hk hp
        have hR2 := C_in2 (l := l) (v := M_V_inMemory P.2.2.1 A.2.1 l) hP hI hR hc (Or.inl rfl)
        obtain ⟨i1, -, -, -, -, i6⟩ := K_in2 (w := 0) (v := M_V_inMemory P.2.2.1 A.2.1 l) hP hI hc k1 (Or.inl rfl) (fun h => by cases h) (fun q => absurd q hk)
        rw [bnd_eq ep.symm, if_pos rfl, bnd_eq rfl, if_neg hn]
        unfold L_C_bring_109
        by_cases hk1 : P.2.1 = 1
        · rw [if_pos (hR.1.2.1.trans hk1)]
          by_cases hq : P.2.2.2.1 c = 0
          · rw [if_pos ⟨hk1, Or.inr hq⟩, eh4]
            have e0 : a_in2 P A c l 0 (M_V_inMemory P.2.2.1 A.2.1 l) = A := by
              unfold a_in2
              rw [if_pos hq, if_pos rfl]
            rw [e0] at hR2
            rcases C_find2 hI hR2 l with ⟨e9, q1, q2, q3⟩ | ⟨q1, q2⟩
            · rw [k1] at q1
              cases q1
            · rw [bnd_eq q2.symm, if_pos rfl]
              have h9 := C_end (l := l) hP hR2 hc (v3 := -1)
              rw [if_pos rfl, if_pos rfl] at h9
              exact h9
          · rw [if_neg (fun q => q.2.elim hp hq), eh3]
            rcases C_find2 i1 hR2 l with ⟨e9, q1, q2, q3⟩ | ⟨q1, q2⟩
            · obtain ⟨-, -, -, -, u5, -⟩ := SB_val hR2.2.2.1 (by omega) q3
              rw [bnd_eq rfl, if_neg u5]
              exact last _ _ i1 hR2
            · exact absurd q1 (i6 hq)
        · rw [if_neg (fun q => hk1 (hR.1.2.1.symm.trans q)), if_neg (fun q => hk1 q.1), eh3]
          exact last _ _ i1 hR2
theorem C_new (hP : okP P) (hI : AI P A) (hR : RC g x P A) (hc : c < P.1.1) {h : Nat} (h1 : (h = 4 ∧ q_look l (A.1 c) = none) ∨ (¬ h = 4 ∧ ¬ q_look l (A.1 c) = none)) : RC g (L_C_write_81 g (nI c) l x) P (a_new P A c l h) := by
  have hV : M_V_makeNext g.2.2.2.2.2 x.2.2.2.1 l = M_V_makeNext P.2.2.1 A.2.1 l := by rw [hR.1.2.2.2, hR.2.2.2.2.2.1]
  have hR2 : RC g (x.1, x.2.1, x.2.2.1, (M_V_makeNext P.2.2.1 A.2.1 l).2, x.2.2.2.2.1, x.2.2.2.2.2) P (A.1, (M_V_makeNext P.2.2.1 A.2.1 l).2, A.2.2) := by
    obtain ⟨g0, b1, b2, r1, r2, r3, r4, r5⟩ := hR
    exact ⟨g0, b1, b2, r1, r2, rfl, r4, r5⟩
  unfold L_C_write_81 a_new
  rw [bnd2_eq (r := (M_V_makeNext P.2.2.1 A.2.1 l).1) (u := (M_V_makeNext P.2.2.1 A.2.1 l).2) hV.symm]
  clear hV
  generalize M_V_makeNext P.2.2.1 A.2.1 l = nx at hR2 ⊢
  rcases C_find1 hI hR hc l with ⟨e, k1, k2, k3⟩ | ⟨k1, k2⟩
  · obtain ⟨-, -, -, -, s5, -⟩ := SB_val hR.2.1 hc k3
    have h4 : ¬ h = 4 := by
      rcases h1 with ⟨-, q⟩ | ⟨q, -⟩
      · rw [k1] at q; cases q
      · exact q
    have hB := RB_rewrite hR.2.1 (hI.1 c) hc nx.1 k3
    rw [k2] at hB
    rw [bnd_eq rfl, if_neg s5, bnd_eq rfl, if_neg h4]
    exact C_set1 hP hR2 hc hB
  · have h4 : h = 4 := by
      rcases h1 with ⟨q, -⟩ | ⟨-, q⟩
      · exact q
      · exact absurd k1 q
    rw [bnd_eq k2.symm, if_pos rfl, bnd_eq rfl, if_pos h4]
    have h9 := C_back (l := l) (v := nx.1) hR2
    unfold a_mem at h9
    exact h9
theorem C_ol (hP : okP P) (core : Nat) (hcore : core < P.1.1) {h : Nat} : ∀ (n c fuel : Nat) (A : Ab) (z : Cs), c + n = P.1.1 → n < fuel → AI P A → RC g z P A → ((h = 4 ∧ q_look l (A.1 core) = none) ∨ (¬ h = 4 ∧ ¬ q_look l (A.1 core) = none)) →
    RC g (L_C_write_2 g (nI core) l fuel (nI c) z) P (a_new P (a_ex P (a_ol core l n c A) l) core l h) := by
  have h4 := hP.1.2
  intro n
  induction n with
  | zero =>
    intro c fuel A z hc hf hI hR hh
    obtain ⟨m, rfl⟩ : ∃ m, fuel = m + 1 := ⟨fuel - 1, by omega⟩
    rw [L_C_write_2_eq, hR.1.1, if_pos (nI_le (by omega) (by omega))]
    show RC g _ P (a_new P (a_ex P A l) core l h)
    unfold a_ex
    by_cases hk : P.2.1 = 2
    · rw [if_pos (hR.1.2.1.trans hk), if_pos hk]
      have hI2 := AI_rm hP hI l (c := 4) (Or.inr rfl)
      rcases C_find2 hI hR l with ⟨e, k1, k2, k3⟩ | ⟨k1, k2⟩
      · have hB := RB_drop hR.2.2.1 (hI.1 4) (by omega) k3
        rw [k2] at hB
        have hR2 := C_set2 hP hR hB
        rw [bnd_eq rfl, bnd_eq rfl]
        exact C_new hP hI2 hR2 hcore (by rw [aset_n (by omega)]; exact hh)
      · have hR2 : RC g z P (a_setL A 4 (q_rm l (A.1 4))) := by
          rw [q_rm_id (q_look_none.mp k1)]
          obtain ⟨g0, b1, b2, r1, r2, r3, r4, r5⟩ := hR
          refine ⟨g0, RB_congr (fun d hd => (aset_n (by omega)).symm) b1, RB_congr (fun d hd => aset_s.symm) b2, r1, r2, r3, r4, r5⟩
        rw [bnd_eq k2.symm, bnd_eq B_drop_n.symm]
        exact C_new hP hI2 hR2 hcore (by rw [aset_n (by omega)]; exact hh)
    · rw [if_neg (fun q => hk (hR.1.2.1.symm.trans q)), if_neg hk]
      exact C_new hP hI hR hcore hh
  | succ n ih =>
    intro c fuel A z hc hf hI hR hh
    obtain ⟨m, rfl⟩ : ∃ m, fuel = m + 1 := ⟨fuel - 1, by omega⟩
    rw [L_C_write_2_eq, hR.1.1, if_neg (nI_ge (by omega) (by omega))]
    unfold a_ol
    by_cases q : c = core
    · rw [if_pos q, if_pos (by rw [q]), if_pos rfl, nI_1]
      exact ih (c + 1) m A z (by omega) (by omega) hI hR hh
    · rw [if_neg q, if_neg (fun q2 => q ((nI_eq (by omega) (by omega)).mp q2))]
      rcases C_find1 hI hR (c := c) (by omega) l with ⟨e, k1, k2, k3⟩ | ⟨k1, k2⟩
      · obtain ⟨-, -, -, -, s5, -⟩ := SB_val hR.2.1 (by omega) k3
        have hB := RB_drop hR.2.1 (hI.1 c) (by omega) k3
        rw [k2] at hB
        have hR2 := C_tally hP (C_set1 hP hR (by omega) hB) (c := c) (by omega) (k := 5) (by omega)
        have hI2 : AI P (a_tal (a_setL A c (q_rm l (A.1 c))) (7 * c + 5)) := AI_tal (AI_rm hP hI l (Or.inl (by omega))) _
        have e5 : nI 5 = (5 : Int32) := by decide
        rw [e5] at hR2
        rw [bnd_eq rfl, if_neg s5, bnd_eq rfl, bnd_eq rfl, k1, nI_1]
        refine ih (c + 1) m _ _ (by omega) (by omega) hI2 hR2 ?_
        show (h = 4 ∧ q_look l ((a_setL A c (q_rm l (A.1 c))).1 core) = none) ∨ (¬ h = 4 ∧ ¬ q_look l ((a_setL A c (q_rm l (A.1 c))).1 core) = none)
        rw [aset_n (by omega)]
        exact hh
      · rw [bnd_eq k2.symm, if_pos rfl, k1, nI_1]
        exact ih (c + 1) m A z (by omega) (by omega) hI hR hh
theorem C_write (hP : okP P) (hI : AI P A) (hR : RC g x P A) (hc : c < P.1.1) {h : Nat} (h1 : (h = 4 ∧ q_look l (A.1 c) = none) ∨ (¬ h = 4 ∧ ¬ q_look l (A.1 c) = none)) : RC g (M_C_write g (M_C_tally g x (nI c) 4) (nI c) l) P (a_write P A c l h) := by
  have h4 := hP.1.2
  have hR2 := C_tally hP hR hc (k := 4) (by omega)
  have e4 : nI 4 = (4 : Int32) := by decide
  rw [e4] at hR2
  have h9 := C_ol (g := g) (l := l) hP c hc (h := h) P.1.1 0 (P.1.1 + 1) _ _ (by omega) (by omega) (AI_tal hI (7 * c + 4)) hR2 h1
  unfold M_C_write a_write
  rw [hR.1.1, mu_nI0 (by omega)]
  rw [nI_0] at h9
  exact h9
theorem C_access (hP : okP P) (hI : AI P A) (hR : RC g x P A) (hc : c < P.1.1) (kind : Int32) : (M_C_access g x (nI c) l kind).1 = nI (a_access P A c l kind).1 ∧ RC g (M_C_access g x (nI c) l kind).2 P (a_access P A c l kind).2 := by
  have hR0 := C_tally hP hR hc (k := 0) (by omega)
  have hI0 := AI_tal hI (7 * c)
  rw [nI_0] at hR0
  have hR0 : RC g (M_C_tally g x (nI c) 0) P (a_tal A (7 * c)) := hR0
  have e0 : M_C_access g x (nI c) l kind = L_C_access_24 g (nI c) l kind x := by
    unfold M_C_access
    by_cases q : kind = 0
    · rw [if_pos q]
    · rw [if_neg q]
  rw [e0]
  obtain ⟨k1, k2, k3⟩ := K_get (l := l) hP hI0 hc
  have fin : ∀ (r : Int32) (z : Cs), r = nI (a_h (a_get P (a_tal A (7 * c)) c l).1) → RC g z P (a_tal (a_get P (a_tal A (7 * c)) c l).2 (7 * c + a_h (a_get P (a_tal A (7 * c)) c l).1)) → (L_C_access_81 g (nI c) l kind r z).1 = nI (a_access P A c l kind).1 ∧ RC g (L_C_access_81 g (nI c) l kind r z).2 P (a_access P A c l kind).2 := fun r z hr hz => by
    unfold L_C_access_81 a_access
    by_cases q : kind = 1
    · rw [if_pos q, if_pos q, bnd_eq rfl, bnd_eq rfl]
      refine ⟨hr, ?_⟩
      refine C_write hP (AI_tal k1 _) hz hc ?_
      rcases k3 with ⟨q1, q2⟩ | ⟨q1, q2⟩
      · exact Or.inl ⟨q1, q2⟩
      · exact Or.inr ⟨by omega, q2⟩
    · rw [if_neg q, if_neg q]
      exact ⟨hr, hz⟩
  unfold L_C_access_24
  rw [bnd_eq rfl]
  rcases C_find1 hI0 hR0 hc l with ⟨e, f1, f2, f3⟩ | ⟨f1, f2⟩
  · obtain ⟨-, -, -, -, s5, -⟩ := SB_val hR0.2.1 hc f3
    have hB := RB_use hR0.2.1 (hI0.1 c) hc f3
    rw [f2] at hB
    have hR2 := C_tally hP (C_set1 hP hR0 hc hB) hc (k := 1) (by omega)
    have e1 : nI 1 = (1 : Int32) := by decide
    rw [e1] at hR2
    have eg : a_get P (a_tal A (7 * c)) c l = (1, a_setL (a_tal A (7 * c)) c (e :: q_rm l ((a_tal A (7 * c)).1 c))) := by
      unfold a_get
      rw [f1]
    rw [bnd_eq rfl, if_neg s5, bnd_eq rfl, bnd_eq rfl]
    refine fin 1 _ ?_ ?_
    · rw [eg]
      exact e1.symm
    · rw [eg]
      exact hR2
  · have hR2 := C_hand (l := l) hP hI0 hR0
    obtain ⟨i1, i2, i3⟩ := K_hand (l := l) hP hI0
    obtain ⟨j1, j2⟩ := C_bring hP i1 hR2 hc ((i2 c l).mpr f1)
    have eg : a_get P (a_tal A (7 * c)) c l = a_bring2 P (a_hand P (a_tal A (7 * c)) l) c l := by
      unfold a_get
      rw [f1]
      rfl
    rw [bnd_eq f2.symm, if_pos rfl, bnd_eq rfl, bnd2_eq (r := (M_C_bring g (M_C_handOver g (M_C_tally g x (nI c) 0) l) (nI c) l).1) (u := (M_C_bring g (M_C_handOver g (M_C_tally g x (nI c) 0) l) (nI c) l).2) rfl]
    refine fin _ _ ?_ ?_
    · rw [eg]
      exact j1
    · rw [eg]
      exact j2
end ClassAcc
