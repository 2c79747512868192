theorem q_sel_own {S s c : Nat} {L : List Ent} (hc : c < 2 ^ 31) : L.filter (q_sel S s (nI c)) = (q_pl S L s).filter (q_own (nI c)) := by
  unfold q_pl
  rw [List.filter_filter]
  refine congrArg (fun f => L.filter f) (funext fun e => ?_)
  unfold q_sel q_own
  rw [Bool.eq_iff_iff]
  simp only [decide_eq_true_eq, Bool.and_eq_true]
  exact ⟨fun h => ⟨h.2.resolve_left (nI_pos hc), h.1⟩, fun h => ⟨h.2, Or.inr h.1⟩⟩
theorem q_sel_all {S s : Nat} {L : List Ent} : L.filter (q_sel S s (-1)) = q_pl S L s := by
  unfold q_pl
  refine congrArg (fun f => L.filter f) (funext fun e => ?_)
  unfold q_sel
  rw [Bool.eq_iff_iff]
  simp only [decide_eq_true_eq]
  exact ⟨fun h => h.1, fun h => ⟨h, Or.inl (by decide)⟩⟩
section ModRef2
variable {g : GM} {y : Ms} {P : Pm} {A : Ab} {c : Nat} {l v w thr : Int32} {e : Ent}
theorem M_in2 (hP : okP P) (hI : AI P A) (hR : RM g y P A thr) (hc : c < P.1.1) (h1 : q_look l (A.1 4) = none) (hw : w = 0 ∨ w = 1) (hk : w = 1 → knw A.2.1 l) (hx : P.2.1 = 2 → ∀ d, d < P.1.1 → q_look l (A.1 d) = none) : S_M_comeToSecond g y (nI c) l w v ∧ RM g (M_M_comeToSecond g y (nI c) l w v) P (a_in2 P A c l w v) thr := by
  have h4 := hP.1.2
  have hin : vp_in (nI c) 4 := vp_in_nI (by omega) (by decide)
  have e4 : nI 4 = (4 : Int32) := by decide
  obtain ⟨n1, -⟩ := K_in2 (v := v) hP hI hc h1 hw hk hx
  unfold S_M_comeToSecond M_M_comeToSecond
  rw [nI_clamp (by omega), hR.2.2.2.2.2.2.1 c hc]
  unfold a_in2 at n1 ⊢
  by_cases hq : P.2.2.2.1 c = 0
  · rw [if_pos hq] at n1
    rw [if_pos hq, if_pos hq]
    by_cases q : w = 0
    · rw [if_pos q, if_pos q]
      exact ⟨⟨hin, fun _ => ⟨fun _ => trivial, fun q2 => absurd q q2⟩, fun q2 => absurd hq q2⟩, hR⟩
    · obtain ⟨m1, m2⟩ := M_mem (v := v) hP hR (hk (hw.resolve_left q))
      rw [if_neg q, if_neg q]
      refine ⟨⟨hin, fun _ => ⟨fun q2 => absurd q2 q, fun _ => ⟨m1, ?_⟩⟩, fun q2 => absurd hq q2⟩, ?_⟩
      · rw [bnd_eq rfl]; trivial
      · rw [bnd_eq rfl]; exact m2
  · rw [if_neg hq] at n1
    rw [if_neg hq, if_neg hq]
    have hlen : ((a_free P A c l).1 4).length < 64 := by
      have h := AI_len hP n1 (c := 4) (by omega)
      rw [aset_s, List.length_cons] at h
      omega
    obtain ⟨z1, z2⟩ := M_setOf (y := y) hR.1 (c := 4) (by omega) l
    rw [e4] at z1 z2
    have es : q_ss P.1.2.1 P.1.2.2 4 = P.1.2.2 := rfl
    rw [es] at z2
    have hs : q_st P.1.2.2 l < 16 := Nat.lt_of_lt_of_le (q_st_lt hP.2.2.1.1 l) hP.2.2.1.2
    obtain ⟨o1, o2⟩ := M_oldest (g := g) hR.1 hR.2.1 (c := 4) (by omega) hs (nI c) (P.2.2.2.1 c)
    rw [e4, es, q_sel_own (by omega)] at o2
    rw [e4] at o1
    obtain ⟨p1, p2⟩ := M_oldest (g := g) hR.1 hR.2.1 (c := 4) (by omega) hs (-1) 4
    rw [e4, es, q_sel_all] at p2
    rw [e4] at p1
    have put : ∀ z, RM g z P (a_free P A c l) thr → S_M_comeToSecond_72 g (nI c) l w v z ∧ RM g (L_M_comeToSecond_72 g (nI c) l w v z) P (a_setL (a_free P A c l) 4 ((l, w, v, nI c) :: (a_free P A c l).1 4)) thr := fun z hz => by
      obtain ⟨s1, s2⟩ := M_put (g := g) (l := l) (v := v) (o := nI c) hz hw (c := 4) (by omega) hlen
      rw [e4] at s1 s2
      unfold S_M_comeToSecond_72 L_M_comeToSecond_72
      rw [bnd_eq rfl, bnd_eq rfl]
      exact ⟨⟨s1, trivial⟩, s2⟩
    have out : ∀ (k : Nat) (e : Ent), (A.1 4)[k]? = some e → a_vic P A c l = some e → S_M_comeToSecond_61 g (nI c) l w v (nI (q_st P.1.2.2 l)) (nI (64 * 4 + k)) y ∧ RM g (L_M_comeToSecond_61 g (nI c) l w v (nI (q_st P.1.2.2 l)) (nI (64 * 4 + k)) y) P (a_setL (a_free P A c l) 4 ((l, w, v, nI c) :: (a_free P A c l).1 4)) thr := fun k e he hv => by
      have hk5 := (RL_at hR.2.1 (by omega) he).2.1
      have hn : ¬ nI (64 * 4 + k) < 0 := nI_pos (by omega)
      obtain ⟨s1, s2⟩ := M_leave hP hI hR he
      have s3 : RM g (M_M_leaveSecond g y (nI (64 * 4 + k))) P (a_free P A c l) thr := by
        unfold a_free
        rw [hv]
        exact s2
      obtain ⟨t1, t2⟩ := put _ s3
      unfold S_M_comeToSecond_61 L_M_comeToSecond_61
      rw [if_neg hn, bnd_eq rfl, bnd_eq rfl]
      exact ⟨⟨fun q => absurd q hn, fun _ => ⟨s1, t1⟩⟩, t2⟩
    have noV : a_vic P A c l = none → S_M_comeToSecond_61 g (nI c) l w v (nI (q_st P.1.2.2 l)) (-1) y ∧ RM g (L_M_comeToSecond_61 g (nI c) l w v (nI (q_st P.1.2.2 l)) (-1) y) P (a_setL (a_free P A c l) 4 ((l, w, v, nI c) :: (a_free P A c l).1 4)) thr := fun hv => by
      have s3 : RM g y P (a_free P A c l) thr := by
        unfold a_free
        rw [hv]
        exact hR
      obtain ⟨t1, t2⟩ := put _ s3
      unfold S_M_comeToSecond_61 L_M_comeToSecond_61
      rw [if_pos (by decide)]
      exact ⟨⟨fun _ => t1, fun q => absurd (by decide) q⟩, t2⟩
    rw [bnd_eq z2.symm, bnd_eq z2.symm]
    have second : ¬ P.2.2.2.1 c ≤ nI ((q_pl P.1.2.2 (A.1 4) (q_st P.1.2.2 l)).filter (q_own (nI c))).length → ∃ r, M_M_oldest g y 4 (nI (q_st P.1.2.2 l)) (-1) 4 = r ∧ S_M_comeToSecond_61 g (nI c) l w v (nI (q_st P.1.2.2 l)) r y ∧ RM g (L_M_comeToSecond_61 g (nI c) l w v (nI (q_st P.1.2.2 l)) r y) P (a_setL (a_free P A c l) 4 ((l, w, v, nI c) :: (a_free P A c l).1 4)) thr := fun ho => by
      have hle := hI.2.2.2.2.2.1 (q_st P.1.2.2 l)
      have hcmp : (4 : Int32) ≤ nI (q_pl P.1.2.2 (A.1 4) (q_st P.1.2.2 l)).length ↔ 4 ≤ (q_pl P.1.2.2 (A.1 4) (q_st P.1.2.2 l)).length := by
        rw [← e4]
        exact nI_leI (by omega) (by omega)
      rcases p2 with ⟨c1, c2⟩ | ⟨c1, ⟨c2, -⟩ | ⟨k, e, c2, c3, c4⟩⟩
      · rw [hcmp] at c1
        have hv : a_vic P A c l = none := by
          unfold a_vic
          rw [if_neg ho, if_pos (by omega)]
        exact ⟨-1, c2, noV hv⟩
      · rw [hcmp, c2] at c1
        exact absurd c1 (by decide)
      · rw [hcmp] at c1
        have hv : a_vic P A c l = some e := by
          unfold a_vic
          rw [if_neg ho, if_neg (by omega), c3]
        exact ⟨_, c4, out k e c2 hv⟩
    rcases o2 with ⟨c1, c2⟩ | ⟨c1, ⟨c2, -⟩ | ⟨k, e, c2, c3, c4⟩⟩
    · obtain ⟨r, r1, r2, r3⟩ := second c1
      have hn : ¬ (0 : Int32) ≤ -1 := by decide
      rw [bnd_eq c2.symm, bnd_eq c2.symm, if_neg hn, bnd_eq r1.symm, bnd_eq r1.symm]
      exact ⟨⟨hin, fun q2 => absurd q2 hq, fun _ => ⟨z1, hin, o1, fun q => absurd q hn, fun _ => ⟨p1, r2⟩⟩⟩, r3⟩
    · exfalso
      rw [c2] at c1
      obtain ⟨n, hn, hn2⟩ := hP.2.2.2.2.2 c hc
      rw [hn2] at c1 hq
      have h0 : n ≤ 0 := (nI_leI (by omega) (by decide)).mp c1
      have h1 : n = 0 := by omega
      rw [h1] at hq
      exact hq nI_0
    · have hv : a_vic P A c l = some e := by
        unfold a_vic
        rw [if_pos c1, c3]
      obtain ⟨t1, t2⟩ := out k e c2 hv
      have hk5 := (RL_at hR.2.1 (by omega) c2).2.1
      have hn : (0 : Int32) ≤ nI (64 * 4 + k) := nI_pos' (by omega)
      rw [bnd_eq c4.symm, bnd_eq c4.symm, if_pos hn]
      exact ⟨⟨hin, fun q2 => absurd q2 hq, fun _ => ⟨z1, hin, o1, fun _ => t1, fun q => absurd hn q⟩⟩, t2⟩
theorem M_in1 (hP : okP P) (hI : AI P A) (hR : RM g y P A thr) (hc : c < P.1.1) (h1 : q_look l (A.1 c) = none) (hw : w = 0 ∨ w = 1) (hk : w = 1 → knw A.2.1 l) (ho : w = 1 → ∀ d, d < P.1.1 → q_look l (A.1 d) = none) (hx : P.2.1 = 2 → q_look l (A.1 4) = none) : S_M_comeToFirst g y (nI c) l w v ∧ RM g (M_M_comeToFirst g y (nI c) l w v) P (a_in1 P A c l w v) thr := by
  have h4 := hP.1.2
  have hc4 : ¬ c = 4 := by omega
  obtain ⟨n1, -⟩ := K_in1 (v := v) hP hI hc h1 hw hk ho hx
  have hlen : ((a_room P A c l).1 c).length < 64 := by
    have h := AI_len hP n1 (c := c) (by omega)
    unfold a_in1 at h
    rw [aset_s, List.length_cons] at h
    omega
  obtain ⟨z1, z2⟩ := M_setOf (y := y) hR.1 (c := c) (by omega) l
  have es : q_ss P.1.2.1 P.1.2.2 c = P.1.2.1 := if_neg hc4
  rw [es] at z2
  have hs : q_st P.1.2.1 l < 16 := by have h := q_st_lt hP.2.1.1 l; have h2 := hP.2.1.2; omega
  obtain ⟨p1, p2⟩ := M_oldest (g := g) hR.1 hR.2.1 (c := c) (by omega) hs (-1) 2
  rw [es, q_sel_all] at p2
  have put : ∀ z, RM g z P (a_room P A c l) thr → S_M_comeToFirst_108 g (nI c) l w v z ∧ RM g (L_M_comeToFirst_108 g (nI c) l w v z) P (a_in1 P A c l w v) thr := fun z hz => by
    obtain ⟨s1, s2⟩ := M_put (g := g) (l := l) (v := v) (o := nI c) hz hw (c := c) (by omega) hlen
    unfold S_M_comeToFirst_108 L_M_comeToFirst_108
    rw [bnd_eq rfl, bnd_eq rfl]
    exact ⟨⟨s1, trivial⟩, s2⟩
  have hle := hI.2.2.2.2.1 c hc (q_st P.1.2.1 l)
  have hcmp : (2 : Int32) ≤ nI (q_pl P.1.2.1 (A.1 c) (q_st P.1.2.1 l)).length ↔ 2 ≤ (q_pl P.1.2.1 (A.1 c) (q_st P.1.2.1 l)).length := by
    have e2 : (2 : Int32) = nI 2 := by decide
    rw [e2]
    exact nI_leI (by omega) (by omega)
  unfold S_M_comeToFirst M_M_comeToFirst
  rw [bnd_eq z2.symm, bnd_eq z2.symm]
  rcases p2 with ⟨c1, c2⟩ | ⟨c1, ⟨c2, -⟩ | ⟨k, e, c2, c3, c4⟩⟩
  · rw [hcmp] at c1
    have hv : a_out P A c l = none := by
      unfold a_out
      rw [if_pos (by omega)]
    have s3 : RM g y P (a_room P A c l) thr := by
      unfold a_room
      rw [hv]
      exact hR
    obtain ⟨t1, t2⟩ := put _ s3
    rw [bnd_eq c2.symm, bnd_eq c2.symm, if_pos (by decide)]
    exact ⟨⟨z1, p1, fun _ => t1, fun q => absurd (by decide) q⟩, t2⟩
  · rw [hcmp, c2] at c1
    exact absurd c1 (by decide)
  · rw [hcmp] at c1
    have hv : a_out P A c l = some e := by
      unfold a_out
      rw [if_neg (by omega), c3]
    obtain ⟨o1, o2, o3, o4, o5⟩ := K_out hP hI hc hv
    obtain ⟨t1, t2, t3, t4, t5, t6, t7⟩ := RL_at hR.2.1 (by omega) c2
    obtain ⟨s1, s2⟩ := M_take hI hR (c := c) (by omega) c2
    have hp : vp_in (nI (64 * c + k)) 320 := vp_in_nI t2 (by decide)
    have hn : ¬ nI (64 * c + k) < 0 := nI_pos (by omega)
    have er : a_room P A c l = a_gone P (a_setL A c (q_rm e.1 (A.1 c))) c e := by
      unfold a_room
      rw [hv]
    rw [bnd_eq c4.symm, bnd_eq c4.symm, if_neg hn, nI_clamp (n := 64 * c + k) (by omega), t3, t4, t5, bnd_eq (x := M_M_takeOut g y (nI c) (nI (64 * c + k))) rfl, bnd_eq (x := M_M_takeOut g y (nI c) (nI (64 * c + k))) rfl]
    have other : ¬ (P.2.1 = 2 ∧ P.2.2.2.2 e.1 = false ∧ a_one P.1.1 (a_setL A c (q_rm e.1 (A.1 c))).1 e.1 c = false) → S_M_comeToFirst_95 g (nI c) l w v e.1 e.2.1 e.2.2.1 (M_M_takeOut g y (nI c) (nI (64 * c + k))) ∧ RM g (L_M_comeToFirst_95 g (nI c) l w v e.1 e.2.1 e.2.2.1 (M_M_takeOut g y (nI c) (nI (64 * c + k)))) P (a_in1 P A c l w v) thr := fun hn => by
      unfold S_M_comeToFirst_95 L_M_comeToFirst_95
      unfold a_gone at er
      rw [if_neg hn] at er
      by_cases q : e.2.1 = 0
      · rw [if_pos q] at er
        obtain ⟨u1, u2⟩ := put _ (by rw [er]; exact s2)
        rw [if_pos q]
        exact ⟨⟨fun _ => u1, fun q2 => absurd q q2⟩, u2⟩
      · rw [if_neg q] at er
        obtain ⟨d1, d2⟩ := M_down (v := e.2.2.1) hP o1 s2 (o3 (t7.resolve_left q))
        obtain ⟨u1, u2⟩ := put _ (by rw [er]; exact d2)
        rw [if_neg q, bnd_eq rfl, bnd_eq rfl]
        exact ⟨⟨fun q2 => absurd q2 q, fun _ => ⟨d1, u1⟩⟩, u2⟩
    by_cases hkp : P.2.1 = 2
    · have hkg : g.2.2.1 = (2 : Int32) := (M_keep hR).trans hkp
      have ep := M_pass (l := e.1) s2
      rw [if_pos hkg]
      by_cases hps : P.2.2.2.2 e.1 = true
      · rw [if_pos hps] at ep
        obtain ⟨u1, u2⟩ := other (fun q => by rw [hps] at q; exact absurd q.2.1 (by decide))
        rw [bnd_eq ep.symm, bnd_eq ep.symm, if_neg i10]
        exact ⟨⟨z1, p1, fun q => absurd q hn, fun _ => ⟨hp, hp, hp, s1, fun _ => ⟨fun q => absurd q i10, fun _ => u1⟩, fun q => absurd hkg q⟩⟩, u2⟩
      · rw [if_neg hps] at ep
        obtain ⟨w1, w2⟩ := M_isone0 hP o1 s2 e.1 hc
        rw [bnd_eq ep.symm, bnd_eq ep.symm, if_pos rfl, bnd_eq (x := M_M_isOneOf g (M_M_takeOut g y (nI c) (nI (64 * c + k))) e.1 (nI c)) rfl, bnd_eq (x := M_M_isOneOf g (M_M_takeOut g y (nI c) (nI (64 * c + k))) e.1 (nI c)) rfl]
        by_cases hone : a_one P.1.1 (a_setL A c (q_rm e.1 (A.1 c))).1 e.1 c = false
        · have hz := w2.mpr hone
          obtain ⟨u1, u2⟩ := M_in2 (v := e.2.2.1) hP o1 s2 hc (o5 hkp) o2 o3 (fun _ d hd => by
            by_cases q : d = c
            · rw [q]; exact o4
            · exact a_one_iff.mp hone d hd q)
          unfold a_gone at er
          rw [if_pos ⟨hkp, by simpa using hps, hone⟩] at er
          obtain ⟨x1, x2⟩ := put _ (by rw [er]; exact u2)
          rw [if_pos hz, bnd_eq rfl, bnd_eq rfl]
          exact ⟨⟨z1, p1, fun q => absurd q hn, fun _ => ⟨hp, hp, hp, s1, fun _ => ⟨fun _ => ⟨w1, fun _ => ⟨u1, x1⟩, fun q => absurd hz q⟩, fun q => absurd rfl q⟩, fun q => absurd hkg q⟩⟩, x2⟩
        · have hz : ¬ M_M_isOneOf g (M_M_takeOut g y (nI c) (nI (64 * c + k))) e.1 (nI c) = 0 := fun q => hone (w2.mp q)
          obtain ⟨u1, u2⟩ := other (fun q => hone q.2.2)
          rw [if_neg hz]
          exact ⟨⟨z1, p1, fun q => absurd q hn, fun _ => ⟨hp, hp, hp, s1, fun _ => ⟨fun _ => ⟨w1, fun q => absurd q hz, fun _ => u1⟩, fun q => absurd rfl q⟩, fun q => absurd hkg q⟩⟩, u2⟩
    · have hkg : ¬ g.2.2.1 = (2 : Int32) := fun q => hkp ((M_keep hR).symm.trans q)
      obtain ⟨u1, u2⟩ := other (fun q => hkp q.1)
      rw [if_neg hkg]
      exact ⟨⟨z1, p1, fun q => absurd q hn, fun _ => ⟨hp, hp, hp, s1, fun q => absurd q hkg, fun _ => u1⟩⟩, u2⟩
end ModRef2
