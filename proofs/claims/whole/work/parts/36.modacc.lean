section ModAcc
variable {g : GM} {y : Ms} {P : Pm} {A : Ab} {c : Nat} {l v w thr : Int32} {e : Ent}
theorem M_b152 (hP : okP P) (hI : AI P A) (hR : RM g y P A thr) (hc : c < P.1.1) (h1 : q_look l (A.1 c) = none) (hx : P.2.1 = 2 → q_look l (A.1 4) = none) : S_M_bring_152 g (nI c) l v y ∧ (L_M_bring_152 g (nI c) l v y).1 = nI 3 ∧ RM g (L_M_bring_152 g (nI c) l v y).2 P (a_in1 P A c l 0 v) thr := by
  obtain ⟨s1, s2⟩ := M_in1 (w := 0) (v := v) hP hI hR hc h1 (Or.inl rfl) (fun h => by cases h) (fun h => by cases h) hx
  unfold S_M_bring_152 L_M_bring_152
  rw [bnd_eq rfl, bnd_eq rfl]
  exact ⟨⟨s1, trivial⟩, rfl, s2⟩
theorem M_bring (hP : okP P) (hI : AI P A) (hR : RM g y P A thr) (hc : c < P.1.1) (h1 : q_look l (A.1 c) = none) : S_M_bring g y (nI c) l ∧ (M_M_bring g y (nI c) l).1 = nI (a_bring P A c l).1 ∧ RM g (M_M_bring g y (nI c) l).2 P (a_bring P A c l).2 thr := by
  have h4 := hP.1.2
  obtain ⟨d1, d2⟩ := M_hand0 hP hI hR hc h1
  obtain ⟨i1, i2, i3⟩ := K_hand (l := l) hP hI
  have hno := (i2 c l).mpr h1
  unfold S_M_bring M_M_bring a_bring a_bring2
  rw [bnd_eq (x := M_M_handOver g y (nI c) l) rfl, bnd_eq (x := M_M_handOver g y (nI c) l) rfl]
  generalize M_M_handOver g y (nI c) l = z at d2 ⊢
  generalize a_hand P A l = B at d2 i1 hno ⊢
  obtain ⟨a1, a2⟩ := M_at4 i1 d2 l
  have hm1 : (-1 : Int32) < 0 := by decide
  rcases a2 with ⟨k, e, k1, k2, k3, k5, k6⟩ | ⟨k1, k2⟩
  · obtain ⟨t1, t2, t3, t4, t5, t6, t7⟩ := RL_at d2.2.1 (by omega) k2
    have hn : ¬ nI (64 * 4 + k) < 0 := nI_pos (by omega)
    have hp : vp_in (nI (64 * 4 + k)) 320 := vp_in_nI k6 (by decide)
    have hm := List.mem_of_getElem? k2
    rw [bnd_eq k5.symm, bnd_eq k5.symm, if_neg hn, k1]
    simp only []
    unfold a_hit2
    by_cases hk : P.2.1 = 2
    · have hkg : g.2.2.1 = (2 : Int32) := (M_keep d2).trans hk
      obtain ⟨s1, s2⟩ := M_take4 i1 d2 k2
      rw [k3] at s2
      have hI2 := AI_rm hP i1 l (c := 4) (Or.inr rfl)
      have hx := i1.2.2.2.2.2.2.2.1 hk e hm
      rw [k3] at hx
      obtain ⟨u1, u2⟩ := M_in1 (w := e.2.1) (v := e.2.2.1) hP hI2 s2 hc (by rw [aset_n (by omega)]; exact hno) t7 (fun h => by have h6 := i1.2.2.1 4 e hm h; rwa [k3] at h6) (fun _ d hd => by rw [aset_n (by omega)]; exact hx d hd) (fun _ => by rw [aset_s]; exact q_look_rm)
      have core : ∀ b, b = e.2.1 → S_M_bring_41 g (nI c) l (nI (64 * 4 + k)) b z ∧ (L_M_bring_41 g (nI c) l (nI (64 * 4 + k)) b z).1 = nI 2 ∧ RM g (L_M_bring_41 g (nI c) l (nI (64 * 4 + k)) b z).2 P (a_in1 P (a_setL B 4 (q_rm l (B.1 4))) c l e.2.1 e.2.2.1) thr := fun b hb => by
        subst hb
        unfold S_M_bring_41 L_M_bring_41 S_M_bring_72 L_M_bring_72
        rw [if_pos hkg, nI_clamp (n := 64 * 4 + k) (by omega), t5]
        refine ⟨⟨hp, fun _ => ⟨s1, ?_⟩, fun q => absurd hkg q⟩, ?_⟩
        · rw [bnd_eq (x := M_M_takeOut g z 4 (nI (64 * 4 + k))) rfl, bnd_eq rfl]
          exact ⟨u1, trivial⟩
        · rw [bnd_eq (x := M_M_takeOut g z 4 (nI (64 * 4 + k))) rfl, bnd_eq rfl]
          exact ⟨rfl, u2⟩
      rw [if_pos hkg, nI_clamp (n := 64 * 4 + k) (by omega), t4, if_pos hk, if_pos hk]
      by_cases q : e.2.1 = 0
      · obtain ⟨x1, x2⟩ := core 0 q.symm
        rw [if_pos q]
        exact ⟨⟨d1, a1, fun q2 => absurd q2 hn, fun _ => ⟨fun _ => ⟨hp, fun _ => x1, fun q2 => absurd q q2⟩, fun q2 => absurd hkg q2⟩⟩, x2⟩
      · obtain ⟨x1, x2⟩ := core 1 (t7.resolve_left q).symm
        rw [if_neg q]
        exact ⟨⟨d1, a1, fun q2 => absurd q2 hn, fun _ => ⟨fun _ => ⟨hp, fun q2 => absurd q2 q, fun _ => x1⟩, fun q2 => absurd hkg q2⟩⟩, x2⟩
    · have hkg : ¬ g.2.2.1 = (2 : Int32) := fun q => hk ((M_keep d2).symm.trans q)
      have e4 : nI 4 = (4 : Int32) := by decide
      obtain ⟨s1, s2⟩ := M_usec i1 d2 (c := 4) (by omega) k2
      rw [e4] at s1 s2
      rw [k3] at s2
      have hI2 := K_use hP i1 (Or.inr rfl) hm
      rw [k3] at hI2
      obtain ⟨u1, u2⟩ := M_in1 (w := 0) (v := e.2.2.1) hP hI2 s2 hc (by rw [aset_n (by omega)]; exact hno) (Or.inl rfl) (fun h => by cases h) (fun h => by cases h) (fun q => absurd q hk)
      rw [if_neg hkg, if_neg hk, if_neg hk]
      unfold S_M_bring_41 L_M_bring_41 S_M_bring_72 L_M_bring_72
      rw [if_neg hkg, nI_clamp (n := 64 * 4 + k) (by omega), t5]
      refine ⟨⟨d1, a1, fun q2 => absurd q2 hn, fun _ => ⟨fun q2 => absurd q2 hkg, fun _ => ⟨hp, fun q2 => absurd q2 hkg, fun _ => ⟨s1, ?_⟩⟩⟩⟩, ?_⟩
      · rw [bnd_eq (x := M_M_use g z 4 (nI (64 * 4 + k))) rfl, bnd_eq rfl]
        exact ⟨u1, trivial⟩
      · rw [bnd_eq (x := M_M_use g z 4 (nI (64 * 4 + k))) rfl, bnd_eq rfl]
        exact ⟨rfl, u2⟩
  · obtain ⟨v1, v2⟩ := V_mem (g := g) (l := l) hP.2.2.2.2.1 d2.2.2.1
    rw [bnd_eq k2.symm, bnd_eq k2.symm, if_pos hm1, bnd_eq v2.symm, bnd_eq v2.symm, k1]
    simp only []
    unfold a_fetch
    obtain ⟨m1, m2, m3, m4, m5⟩ := K_mid hP i1 hc k1
    have hq := d2.2.2.2.2.2.2.1 c hc
    have hin : vp_in (nI c) 4 := vp_in_nI (by omega) (by decide)
    have hnm := q_sub_none (m2 c (by omega)) hno
    -- the last steps, without and with coming into the second cache
    have s138a : a_mid P B c l = B → S_M_bring_138 g (nI c) l (M_V_inMemory P.2.2.1 B.2.1 l) 0 z ∧ (L_M_bring_138 g (nI c) l (M_V_inMemory P.2.2.1 B.2.1 l) 0 z).1 = nI 3 ∧ RM g (L_M_bring_138 g (nI c) l (M_V_inMemory P.2.2.1 B.2.1 l) 0 z).2 P (a_in1 P (a_mid P B c l) c l 0 (M_V_inMemory P.2.2.1 B.2.1 l)) thr := fun he => by
      obtain ⟨u1, u2⟩ := M_b152 (v := M_V_inMemory P.2.2.1 B.2.1 l) hP i1 d2 hc hno (fun _ => k1)
      unfold S_M_bring_138 L_M_bring_138
      rw [if_pos rfl, he]
      exact ⟨⟨fun _ => u1, fun q => absurd rfl q⟩, u2⟩
    have s138b : ¬ P.2.1 = 2 → ¬ P.2.2.2.2 l = true → S_M_bring_138 g (nI c) l (M_V_inMemory P.2.2.1 B.2.1 l) 1 z ∧ (L_M_bring_138 g (nI c) l (M_V_inMemory P.2.2.1 B.2.1 l) 1 z).1 = nI 3 ∧ RM g (L_M_bring_138 g (nI c) l (M_V_inMemory P.2.2.1 B.2.1 l) 1 z).2 P (a_in1 P (a_mid P B c l) c l 0 (M_V_inMemory P.2.2.1 B.2.1 l)) thr := fun hk hp => by
      have he : a_mid P B c l = a_in2 P B c l 0 (M_V_inMemory P.2.2.1 B.2.1 l) := by
        unfold a_mid
        rw [if_neg (fun q => q.elim hk hp)]
      obtain ⟨w1, w2⟩ := M_in2 (w := 0) (v := M_V_inMemory P.2.2.1 B.2.1 l) hP i1 d2 hc k1 (Or.inl rfl) (fun h => by cases h) (fun q => absurd q hk)
      rw [← he] at w2
      obtain ⟨u1, u2⟩ := M_b152 (v := M_V_inMemory P.2.2.1 B.2.1 l) hP m1 w2 hc hnm (fun q => absurd q hk)
      unfold S_M_bring_138 L_M_bring_138
      rw [if_neg i10]
      refine ⟨⟨fun q => absurd q i10, fun _ => ⟨w1, ?_⟩⟩, ?_⟩
      · rw [bnd_eq rfl]; exact u1
      · rw [bnd_eq rfl]; exact u2
    unfold S_M_bring_114 L_M_bring_114
    rw [nI_clamp (n := c) (by omega), hq]
    by_cases hk : P.2.1 = 2
    · have hkg : g.2.2.1 = (2 : Int32) := (M_keep d2).trans hk
      have h2 : (2 : Int32) ≤ g.2.2.1 := by rw [hkg]; decide
      have hn1 : ¬ g.2.2.1 = (1 : Int32) := by rw [hkg]; decide
      have he : a_mid P B c l = B := by
        unfold a_mid
        rw [if_pos (Or.inl hk)]
      obtain ⟨u1, u2⟩ := s138a he
      rw [if_pos h2, if_neg hn1, if_neg (fun q => by rw [hk] at q; exact absurd q.1 (by decide))]
      exact ⟨⟨d1, a1, fun _ => ⟨v1, fun _ => ⟨fun q => absurd q hn1, fun _ => u1⟩, fun q => absurd h2 q⟩, fun q => absurd hm1 q⟩, u2⟩
    · have hkv := hP.2.2.2.1
      have h2 : ¬ (2 : Int32) ≤ g.2.2.1 := by
        rw [M_keep d2]
        rcases hkv with q | q | q
        · rw [q]; decide
        · rw [q]; decide
        · exact absurd q hk
      have ep := M_pass (l := l) d2
      rw [if_neg h2]
      by_cases hp : P.2.2.2.2 l = true
      · have he : a_mid P B c l = B := by
          unfold a_mid
          rw [if_pos (Or.inr hp)]
        obtain ⟨u1, u2⟩ := s138a he
        rw [if_pos hp] at ep
        rw [bnd_eq ep.symm, bnd_eq ep.symm, if_neg i10]
        by_cases hk1 : P.2.1 = 1
        · have hkg : g.2.2.1 = (1 : Int32) := (M_keep d2).trans hk1
          rw [if_pos hkg, if_pos rfl, if_pos ⟨hk1, Or.inl hp⟩]
          exact ⟨⟨d1, a1, fun _ => ⟨v1, fun q => absurd q h2, fun _ => ⟨fun q => absurd q i10, fun _ => ⟨fun _ => ⟨fun _ => trivial, fun q => absurd rfl q⟩, fun q => absurd hkg q⟩⟩⟩, fun q => absurd hm1 q⟩, rfl, d2⟩
        · have hkg : ¬ g.2.2.1 = (1 : Int32) := fun q => hk1 ((M_keep d2).symm.trans q)
          rw [if_neg hkg, if_neg (fun q => hk1 q.1)]
          exact ⟨⟨d1, a1, fun _ => ⟨v1, fun q => absurd q h2, fun _ => ⟨fun q => absurd q i10, fun _ => ⟨fun q => absurd q hkg, fun _ => u1⟩⟩⟩, fun q => absurd hm1 q⟩, u2⟩
      · obtain ⟨u1, u2⟩ := s138b hk hp
        rw [if_neg hp] at ep
        rw [bnd_eq ep.symm, bnd_eq ep.symm, if_pos rfl]
        by_cases hk1 : P.2.1 = 1
        · have hkg : g.2.2.1 = (1 : Int32) := (M_keep d2).trans hk1
          rw [if_pos hkg, if_neg i10]
          by_cases hq0 : P.2.2.2.1 c = 0
          · rw [if_pos hq0, if_pos ⟨hk1, Or.inr hq0⟩]
            exact ⟨⟨d1, a1, fun _ => ⟨v1, fun q => absurd q h2, fun _ => ⟨fun _ => ⟨fun _ => ⟨fun _ => trivial, fun _ => ⟨hin, fun _ => trivial, fun q => absurd hq0 q⟩⟩, fun q => absurd hkg q⟩, fun q => absurd rfl q⟩⟩, fun q => absurd hm1 q⟩, rfl, d2⟩
          · rw [if_neg hq0, if_neg (fun q => q.2.elim hp hq0)]
            exact ⟨⟨d1, a1, fun _ => ⟨v1, fun q => absurd q h2, fun _ => ⟨fun _ => ⟨fun _ => ⟨fun _ => trivial, fun _ => ⟨hin, fun q => absurd q hq0, fun _ => u1⟩⟩, fun q => absurd hkg q⟩, fun q => absurd rfl q⟩⟩, fun q => absurd hm1 q⟩, u2⟩
        · have hkg : ¬ g.2.2.1 = (1 : Int32) := fun q => hk1 ((M_keep d2).symm.trans q)
          rw [if_neg hkg, if_neg (fun q => hk1 q.1)]
          exact ⟨⟨d1, a1, fun _ => ⟨v1, fun q => absurd q h2, fun _ => ⟨fun _ => ⟨fun q => absurd q hkg, fun _ => u1⟩, fun q => absurd rfl q⟩⟩, fun q => absurd hm1 q⟩, u2⟩
end ModAcc
