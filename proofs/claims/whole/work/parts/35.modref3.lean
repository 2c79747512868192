theorem upd_self (f : Fn) (k : Nat) : upd f k (f k) = f := by
  funext j
  unfold upd
  by_cases h : j = k
  · rw [if_pos h, h]
  · rw [if_neg h]
def a_hd (P : Pm) (A : Ab) (l : Int32) (o : Option (Nat × Ent)) : Ab := match o with
  | none => A
  | some p => a_down P (q_set A.1 p.1 (q_md l q_cl (A.1 p.1)), A.2.1, A.2.2.1 + 1, A.2.2.2) l p.2.2.2.1
theorem a_hd_eq {P : Pm} {A : Ab} {l : Int32} : a_hand P A l = a_hd P A l (a_wif A.1 l P.1.1 0) := by
  unfold a_hand a_hd
  cases a_wif A.1 l P.1.1 0 with
  | none => rfl
  | some p => rfl
section ModRef3
variable {g : GM} {y : Ms} {P : Pm} {A : Ab} {c : Nat} {l v w thr : Int32} {e : Ent}
theorem M_idle (hP : okP P) (hI : AI P A) (hR : RM g y P A thr) (core : Nat) (hcore : core < P.1.1) : ∀ (n c fuel : Nat), c + n = P.1.1 → n < fuel → (∀ d, c ≤ d → d < P.1.1 → ∀ e, q_look l (A.1 d) = some e → e.2.1 = 0) →
    S_M_handOver_2 g (nI core) l fuel (nI c) y ∧ L_M_handOver_2 g (nI core) l fuel (nI c) y = y := by
  have h4 := hP.1.2
  have g1 := M_cores hR
  intro n
  induction n with
  | zero =>
    intro c fuel hc hf hh
    obtain ⟨m, rfl⟩ : ∃ m, fuel = m + 1 := ⟨fuel - 1, by omega⟩
    have h0 : nI P.1.1 ≤ nI c := nI_le (by omega) (by omega)
    rw [S_M_handOver_2_eq, L_M_handOver_2_eq, g1, if_pos h0]
    exact ⟨⟨fun _ => trivial, fun q => absurd h0 q⟩, rfl⟩
  | succ n ih =>
    intro c fuel hc hf hh
    obtain ⟨m, rfl⟩ : ∃ m, fuel = m + 1 := ⟨fuel - 1, by omega⟩
    have h0 : ¬ nI P.1.1 ≤ nI c := nI_ge (by omega) (by omega)
    have hmu := nI_mu (a := c) (n := P.1.1) (by omega) (by omega)
    have hm1 : (-1 : Int32) < 0 := by decide
    obtain ⟨i1, i2⟩ := ih (c + 1) m (by omega) (by omega) (fun d h1 h2 => hh d (by omega) h2)
    obtain ⟨a1, a2⟩ := M_atc hI hR (c := c) (by omega) l
    rw [S_M_handOver_2_eq, L_M_handOver_2_eq, g1, if_neg h0, nI_1]
    by_cases q : c = core
    · have qe : nI c = nI core := by rw [q]
      rw [if_pos qe, if_pos hm1]
      exact ⟨⟨fun q2 => absurd q2 h0, fun _ => ⟨fun _ => ⟨fun _ => ⟨hmu, i1⟩, fun q2 => absurd hm1 q2⟩, fun q2 => absurd qe q2⟩⟩, i2⟩
    · have qe : ¬ nI c = nI core := fun q2 => q ((nI_eq (by omega) (by omega)).mp q2)
      rw [if_neg qe]
      rcases a2 with ⟨k, e, h1, h2, h3, h5, h6⟩ | ⟨h1, h2⟩
      · have hz := hh c (Nat.le_refl _) (by omega) e h1
        obtain ⟨-, -, -, t4, -, -, -⟩ := RL_at hR.2.1 (by omega) h2
        have hn : ¬ nI (64 * c + k) < 0 := nI_pos (by omega)
        have hw0 : y.2.1.2.2.1 (nI (64 * c + k)).toNatClampNeg = 0 := by rw [nI_clamp (by omega), t4, hz]
        rw [bnd_eq h5.symm, bnd_eq h5.symm, if_neg hn, if_pos hw0]
        exact ⟨⟨fun q2 => absurd q2 h0, fun _ => ⟨fun q2 => absurd q2 qe, fun _ => ⟨a1, fun q2 => absurd q2 hn, fun _ => ⟨vp_in_nI h6 (by decide), fun _ => ⟨hmu, i1⟩, fun q2 => absurd hw0 q2⟩⟩⟩⟩, i2⟩
      · rw [bnd_eq h2.symm, bnd_eq h2.symm, if_pos hm1]
        exact ⟨⟨fun q2 => absurd q2 h0, fun _ => ⟨fun q2 => absurd q2 qe, fun _ => ⟨a1, fun _ => ⟨hmu, i1⟩, fun q2 => absurd hm1 q2⟩⟩⟩, i2⟩
theorem M_hand (hP : okP P) (hI : AI P A) (hR : RM g y P A thr) (core : Nat) (hcore : core < P.1.1) (hno : q_look l (A.1 core) = none) : ∀ (n c fuel : Nat), c + n = P.1.1 → n < fuel →
    S_M_handOver_2 g (nI core) l fuel (nI c) y ∧ RM g (L_M_handOver_2 g (nI core) l fuel (nI c) y) P (a_hd P A l (a_wif A.1 l n c)) thr := by
  have h4 := hP.1.2
  have g1 := M_cores hR
  intro n
  induction n with
  | zero =>
    intro c fuel hc hf
    obtain ⟨m, rfl⟩ : ∃ m, fuel = m + 1 := ⟨fuel - 1, by omega⟩
    have h0 : nI P.1.1 ≤ nI c := nI_le (by omega) (by omega)
    rw [S_M_handOver_2_eq, L_M_handOver_2_eq, g1, if_pos h0]
    exact ⟨⟨fun _ => trivial, fun q => absurd h0 q⟩, hR⟩
  | succ n ih =>
    intro c fuel hc hf
    obtain ⟨m, rfl⟩ : ∃ m, fuel = m + 1 := ⟨fuel - 1, by omega⟩
    have h0 : ¬ nI P.1.1 ≤ nI c := nI_ge (by omega) (by omega)
    have hmu := nI_mu (a := c) (n := P.1.1) (by omega) (by omega)
    have hm1 : (-1 : Int32) < 0 := by decide
    obtain ⟨i1, i2⟩ := ih (c + 1) m (by omega) (by omega)
    obtain ⟨a1, a2⟩ := M_atc hI hR (c := c) (by omega) l
    rw [S_M_handOver_2_eq, L_M_handOver_2_eq, g1, if_neg h0, nI_1]
    unfold a_wif
    by_cases q : c = core
    · have qe : nI c = nI core := by rw [q]
      have hno2 : q_look l (A.1 c) = none := by rw [q]; exact hno
      rw [if_pos qe, if_pos hm1, hno2]
      exact ⟨⟨fun q2 => absurd q2 h0, fun _ => ⟨fun _ => ⟨fun _ => ⟨hmu, i1⟩, fun q2 => absurd hm1 q2⟩, fun q2 => absurd qe q2⟩⟩, i2⟩
    · have qe : ¬ nI c = nI core := fun q2 => q ((nI_eq (by omega) (by omega)).mp q2)
      rw [if_neg qe]
      rcases a2 with ⟨k, e, h1, h2, h3, h5, h6⟩ | ⟨h1, h2⟩
      · obtain ⟨-, -, -, t4, t5, -, t7⟩ := RL_at hR.2.1 (by omega) h2
        have hn : ¬ nI (64 * c + k) < 0 := nI_pos (by omega)
        have hp : vp_in (nI (64 * c + k)) 320 := vp_in_nI h6 (by decide)
        have hm := List.mem_of_getElem? h2
        rw [h1]
        simp only []
        rw [bnd_eq h5.symm, bnd_eq h5.symm, if_neg hn, nI_clamp (n := 64 * c + k) (by omega), t4, t5]
        by_cases hz : e.2.1 = 0
        · rw [if_pos hz, if_pos hz]
          exact ⟨⟨fun q2 => absurd q2 h0, fun _ => ⟨fun q2 => absurd q2 qe, fun _ => ⟨a1, fun q2 => absurd q2 hn, fun _ => ⟨hp, fun _ => ⟨hmu, i1⟩, fun q2 => absurd hz q2⟩⟩⟩⟩, i2⟩
        · have hw1 := t7.resolve_left hz
          have hk : knw A.2.1 l := by
            have h9 := hI.2.2.1 c e hm hw1
            rwa [h3] at h9
          rw [if_neg hz, if_neg hz, nar0]
          have hm2 := M_mark hR.2.1 (q_cl e) (by omega) h2 ((y.1.1, y.1.2.1, y.1.2.2.1, y.1.2.2.2.1, y.1.2.2.2.2.1, (y.1.2.2.2.2.2 + (1 : Int32))), (y.2.1.1, y.2.1.2.1, (upd y.2.1.2.2.1 (64 * c + k) 0), y.2.1.2.2.2.1, y.2.1.2.2.2.2), y.2.2.1, y.2.2.2.1, y.2.2.2.2) rfl rfl rfl (by
            show y.2.1.2.2.2.1 = upd y.2.1.2.2.2.1 (64 * c + k) e.2.2.1
            rw [← t5, upd_self]) rfl rfl rfl (Or.inl rfl)
          rw [q_sm (hI.1 c) q_cl h2, h3] at hm2
          have hI2 := K_clean (l := l) hP hI (c := c) (by omega) (A.2.2.1 + 1)
          have hR2 : RM g ((y.1.1, y.1.2.1, y.1.2.2.1, y.1.2.2.2.1, y.1.2.2.2.2.1, (y.1.2.2.2.2.2 + (1 : Int32))), (y.2.1.1, y.2.1.2.1, (upd y.2.1.2.2.1 (64 * c + k) 0), y.2.1.2.2.2.1, y.2.1.2.2.2.2), y.2.2.1, y.2.2.2.1, y.2.2.2.2) P (q_set A.1 c (q_md l q_cl (A.1 c)), A.2.1, A.2.2.1 + 1, A.2.2.2) thr := by
            obtain ⟨g0, b1, b2, r1, r2, r3, r4, r5⟩ := hR
            refine ⟨g0, hm2, b2, r1, r2, ?_, r4, r5⟩
            show y.1.2.2.2.2.2 + 1 = A.2.2.1 + 1
            rw [r3]
          obtain ⟨d1, d2⟩ := M_down (v := e.2.2.1) hP hI2 hR2 hk
          obtain ⟨k1, k2, -, -⟩ := K_down (l := l) (v := e.2.2.1) hP hI2 hk
          obtain ⟨j1, j2⟩ := M_idle (l := l) hP k1 d2 core hcore n (c + 1) m (by omega) (by omega) (fun d hd1 hd2 e2 he2 => by
            rw [k2 d (by omega)] at he2
            have he2 : q_look l (q_set A.1 c (q_md l q_cl (A.1 c)) d) = some e2 := he2
            rw [q_set_n (by omega)] at he2
            obtain ⟨u1, u2⟩ := q_look_some he2
            rcases hI.2.1 d e2 u1 with u3 | u3
            · exact u3
            · have u4 := hI.2.2.2.2.2.2.1 c d e hm e2 u1 (by omega) hd2 (by rw [h3, u2]) hw1 u3
              omega)
          rw [bnd_eq rfl, bnd_eq rfl]
          refine ⟨⟨fun q2 => absurd q2 h0, fun _ => ⟨fun q2 => absurd q2 qe, fun _ => ⟨a1, fun q2 => absurd q2 hn, fun _ => ⟨hp, fun q2 => absurd q2 hz, fun _ => ⟨hp, hp, d1, ?_⟩⟩⟩⟩⟩, ?_⟩
          · first
              | exact ⟨hmu, j1⟩
              | (rw [bnd_eq rfl]; exact ⟨hmu, j1⟩)
          · first
              | (rw [j2]; exact d2)
              | (rw [bnd_eq rfl, j2]; exact d2)
      · rw [bnd_eq h2.symm, bnd_eq h2.symm, if_pos hm1, h1]
        exact ⟨⟨fun q2 => absurd q2 h0, fun _ => ⟨fun q2 => absurd q2 qe, fun _ => ⟨a1, fun _ => ⟨hmu, i1⟩, fun q2 => absurd hm1 q2⟩⟩⟩, i2⟩
theorem M_hand0 (hP : okP P) (hI : AI P A) (hR : RM g y P A thr) (hc : c < P.1.1) (hno : q_look l (A.1 c) = none) : S_M_handOver g y (nI c) l ∧ RM g (M_M_handOver g y (nI c) l) P (a_hand P A l) thr := by
  have h4 := hP.1.2
  obtain ⟨h1, h2⟩ := M_hand hP hI hR c hc hno P.1.1 0 (P.1.1 + 1) (by omega) (by omega)
  unfold S_M_handOver M_M_handOver
  rw [M_cores hR, mu_nI0 (by omega), a_hd_eq]
  rw [nI_0] at h1 h2
  exact ⟨h1, h2⟩
theorem M_ol (hP : okP P) (core : Nat) (hcore : core < P.1.1) : ∀ (n c fuel : Nat) (A : Ab) (z : Ms), c + n = P.1.1 → n < fuel → AI P A → RM g z P A thr →
    S_M_othersLose_2 g (nI core) l fuel (nI c) z ∧ RM g (L_M_othersLose_2 g (nI core) l fuel (nI c) z) P (a_ex P (a_ol core l n c A) l) thr := by
  have h4 := hP.1.2
  have hm1 : (-1 : Int32) < 0 := by decide
  intro n
  induction n with
  | zero =>
    intro c fuel A z hc hf hI hR
    obtain ⟨m, rfl⟩ : ∃ m, fuel = m + 1 := ⟨fuel - 1, by omega⟩
    have h0 : nI P.1.1 ≤ nI c := nI_le (by omega) (by omega)
    rw [S_M_othersLose_2_eq, L_M_othersLose_2_eq, M_cores hR, if_pos h0]
    show _ ∧ RM g _ P (a_ex P A l) thr
    unfold a_ex S_M_othersLose_79 L_M_othersLose_79
    by_cases hk : P.2.1 = 2
    · have hkg : g.2.2.1 = (2 : Int32) := (M_keep hR).trans hk
      obtain ⟨a1, a2⟩ := M_at4 hI hR l
      rw [if_pos hkg, if_pos hk]
      rcases a2 with ⟨k, e, h1, h2, h3, h5, h6⟩ | ⟨h1, h2⟩
      · obtain ⟨s1, s2⟩ := M_take4 hI hR h2
        rw [h3] at s2
        have hn : ¬ nI (64 * 4 + k) < 0 := nI_pos (by omega)
        rw [bnd_eq h5.symm, bnd_eq h5.symm, if_neg hn]
        refine ⟨⟨fun _ => ⟨fun _ => ⟨a1, fun q => absurd q hn, fun _ => ⟨s1, ?_⟩⟩, fun q => absurd hkg q⟩, fun q => absurd h0 q⟩, ?_⟩
        · rw [bnd_eq rfl]; trivial
        · rw [bnd_eq (x := M_M_takeOut g z 4 (nI (64 * 4 + k))) rfl]; exact s2
      · rw [bnd_eq h2.symm, bnd_eq h2.symm, if_pos hm1]
        refine ⟨⟨fun _ => ⟨fun _ => ⟨a1, fun _ => trivial, fun q => absurd hm1 q⟩, fun q => absurd hkg q⟩, fun q => absurd h0 q⟩, ?_⟩
        rw [q_rm_id (q_look_none.mp h1)]
        obtain ⟨g0, b1, b2, r1, r2, r3, r4, r5⟩ := hR
        refine ⟨g0, RL_congr (fun d hd => ?_) b1, b2, r1, r2, r3, r4, r5⟩
        by_cases q : d = 4
        · subst q
          exact aset_s.symm
        · exact (aset_n q).symm
    · have hkg : ¬ g.2.2.1 = (2 : Int32) := fun q => hk ((M_keep hR).symm.trans q)
      rw [if_neg hkg, if_pos hm1, if_neg hk]
      exact ⟨⟨fun _ => ⟨fun q => absurd q hkg, fun _ => ⟨fun _ => trivial, fun q => absurd hm1 q⟩⟩, fun q => absurd h0 q⟩, hR⟩
  | succ n ih =>
    intro c fuel A z hc hf hI hR
    obtain ⟨m, rfl⟩ : ∃ m, fuel = m + 1 := ⟨fuel - 1, by omega⟩
    have h0 : ¬ nI P.1.1 ≤ nI c := nI_ge (by omega) (by omega)
    have hmu := nI_mu (a := c) (n := P.1.1) (by omega) (by omega)
    obtain ⟨a1, a2⟩ := M_atc hI hR (c := c) (by omega) l
    have e5 : ((7 : Int32) * nI c) + (5 : Int32) = nI (7 * c + 5) := e7n c 5
    have hin : vp_in (nI (7 * c + 5)) 28 := vp_in_nI (by omega) (by decide)
    rw [S_M_othersLose_2_eq, L_M_othersLose_2_eq, M_cores hR, if_neg h0, nI_1, e5, nI_clamp (n := 7 * c + 5) (by omega)]
    unfold a_ol
    by_cases q : c = core
    · have qe : nI c = nI core := by rw [q]
      obtain ⟨i1, i2⟩ := ih (c + 1) m A z (by omega) (by omega) hI hR
      rw [if_pos qe, if_pos hm1, if_pos q]
      exact ⟨⟨fun q2 => absurd q2 h0, fun _ => ⟨fun _ => ⟨fun _ => ⟨hmu, i1⟩, fun q2 => absurd hm1 q2⟩, fun q2 => absurd qe q2⟩⟩, i2⟩
    · have qe : ¬ nI c = nI core := fun q2 => q ((nI_eq (by omega) (by omega)).mp q2)
      rw [if_neg qe, if_neg q]
      rcases a2 with ⟨k, e, h1, h2, h3, h5, h6⟩ | ⟨h1, h2⟩
      · obtain ⟨s1, s2⟩ := M_take (AI_tal hI (7 * c + 5)) (M_tal hR (7 * c + 5)) (c := c) (by omega) h2
        rw [h3] at s2
        have hI2 : AI P (a_tal (a_setL A c (q_rm l (A.1 c))) (7 * c + 5)) := AI_tal (AI_rm hP hI l (Or.inl (by omega))) _
        have hn : ¬ nI (64 * c + k) < 0 := nI_pos (by omega)
        obtain ⟨i1, i2⟩ := ih (c + 1) m _ _ (by omega) (by omega) hI2 s2
        rw [bnd_eq h5.symm, bnd_eq h5.symm, if_neg hn, h1]
        simp only []
        refine ⟨⟨fun q2 => absurd q2 h0, fun _ => ⟨fun q2 => absurd q2 qe, fun _ => ⟨a1, fun q2 => absurd q2 hn, fun _ => ⟨hin, hin, s1, ?_⟩⟩⟩⟩, ?_⟩
        · rw [bnd_eq rfl]
          exact ⟨hmu, i1⟩
        · rw [bnd_eq rfl]
          exact i2
      · obtain ⟨i1, i2⟩ := ih (c + 1) m A z (by omega) (by omega) hI hR
        rw [bnd_eq h2.symm, bnd_eq h2.symm, if_pos hm1, h1]
        exact ⟨⟨fun q2 => absurd q2 h0, fun _ => ⟨fun q2 => absurd q2 qe, fun _ => ⟨a1, fun _ => ⟨hmu, i1⟩, fun q2 => absurd hm1 q2⟩⟩⟩, i2⟩
theorem M_ol0 (hP : okP P) (hI : AI P A) (hR : RM g y P A thr) (hc : c < P.1.1) : S_M_othersLose g y (nI c) l ∧ RM g (M_M_othersLose g y (nI c) l) P (a_ex P (a_ol c l P.1.1 0 A) l) thr := by
  have h4 := hP.1.2
  obtain ⟨h1, h2⟩ := M_ol (g := g) (l := l) hP c hc P.1.1 0 (P.1.1 + 1) A y (by omega) (by omega) hI hR
  unfold S_M_othersLose M_M_othersLose
  rw [M_cores hR, mu_nI0 (by omega)]
  rw [nI_0] at h1 h2
  exact ⟨h1, h2⟩
end ModRef3
