section ModAcc2
variable {g : GM} {y : Ms} {P : Pm} {A : Ab} {c : Nat} {l v w thr : Int32} {e : Ent}
theorem M_thr (hR : RM g y P A thr) (t : Int32) : RM g ((t, y.1.2.1, y.1.2.2.1, y.1.2.2.2.1, y.1.2.2.2.2.1, y.1.2.2.2.2.2), y.2.1, y.2.2.1, y.2.2.2.1, y.2.2.2.2) P A t := by
  obtain ⟨g0, b1, b2, r1, r2, r3, r4, r5⟩ := hR
  exact ⟨g0, b1, b2, rfl, r2, r3, r4, r5⟩
theorem nI_h4 {h : Nat} (hh : h < 5) : nI h = (4 : Int32) ↔ h = 4 := by
  have e4 : (4 : Int32) = nI 4 := by decide
  rw [e4]
  exact nI_eq (by omega) (by omega)
theorem M_a196 {h : Nat} (hh : h < 5) {kind : Int32} {z : Ms} : S_M_access_196 g (nI c) l kind (nI h) z ∧ L_M_access_196 g (nI c) l kind (nI h) z = (nI (a_h h), z) := by
  unfold S_M_access_196 L_M_access_196 a_h
  refine ⟨⟨fun _ => trivial, fun _ => trivial⟩, ?_⟩
  by_cases q : h = 4
  · rw [if_pos ((nI_h4 hh).mpr q), if_pos q]
    rfl
  · rw [if_neg (fun q2 => q ((nI_h4 hh).mp q2)), if_neg q]
theorem M_new (hP : okP P) (hI : AI P A) (hR : RM g y P A thr) (hc : c < P.1.1) (hs : A.2.1.2.1.val < 512) (ho : ∀ d, d < P.1.1 → ¬ d = c → q_look l (A.1 d) = none) {h : Nat} (hh : h < 5) (h1 : (h = 4 ∧ q_look l (A.1 c) = none) ∨ (¬ h = 4 ∧ ¬ q_look l (A.1 c) = none)) (kind : Int32) :
    S_M_learn g y l ∧ ∃ (r : Int32) (u : Ms), M_M_learn g y l = (r, u) ∧ vp_in r 600 ∧ (h = 4 → S_M_toMemory g (u.1, u.2.1, u.2.2.1, (u.2.2.2.1.1, (upd u.2.2.2.1.2.1 r.toNatClampNeg ((u.2.2.2.1.2.1 r.toNatClampNeg) + (1 : Int32))), u.2.2.2.1.2.2), u.2.2.2.2) l ((upd u.2.2.2.1.2.1 r.toNatClampNeg ((u.2.2.2.1.2.1 r.toNatClampNeg) + (1 : Int32))) r.toNatClampNeg) ∧ RM g (M_M_toMemory g (u.1, u.2.1, u.2.2.1, (u.2.2.2.1.1, (upd u.2.2.2.1.2.1 r.toNatClampNeg ((u.2.2.2.1.2.1 r.toNatClampNeg) + (1 : Int32))), u.2.2.2.1.2.2), u.2.2.2.2) l ((upd u.2.2.2.1.2.1 r.toNatClampNeg ((u.2.2.2.1.2.1 r.toNatClampNeg) + (1 : Int32))) r.toNatClampNeg)) P (a_new P A c l h) thr) ∧ (¬ h = 4 → S_M_at g (u.1, u.2.1, u.2.2.1, (u.2.2.2.1.1, (upd u.2.2.2.1.2.1 r.toNatClampNeg ((u.2.2.2.1.2.1 r.toNatClampNeg) + (1 : Int32))), u.2.2.2.1.2.2), u.2.2.2.2) (nI c) l ∧ ∃ i : Int32, M_M_at g (u.1, u.2.1, u.2.2.1, (u.2.2.2.1.1, (upd u.2.2.2.1.2.1 r.toNatClampNeg ((u.2.2.2.1.2.1 r.toNatClampNeg) + (1 : Int32))), u.2.2.2.1.2.2), u.2.2.2.2) (nI c) l = i ∧ vp_in i 320 ∧ RM g (u.1, (u.2.1.1, u.2.1.2.1, (upd u.2.1.2.2.1 i.toNatClampNeg (vp_nar .boolean (1 : Int32))), (upd u.2.1.2.2.2.1 i.toNatClampNeg ((upd u.2.2.2.1.2.1 r.toNatClampNeg ((u.2.2.2.1.2.1 r.toNatClampNeg) + (1 : Int32))) r.toNatClampNeg)), u.2.1.2.2.2.2), u.2.2.1, (u.2.2.2.1.1, (upd u.2.2.2.1.2.1 r.toNatClampNeg ((u.2.2.2.1.2.1 r.toNatClampNeg) + (1 : Int32))), u.2.2.2.1.2.2), u.2.2.2.2) P (a_new P A c l h) thr) := by
  have h4 := hP.1.2
  obtain ⟨g0, b1, b2, r1, r2, r3, r4, r5⟩ := hR
  obtain ⟨l1, j, u, W, l2, l3, l4, l5, l6, l7, l8, l9, l10, l11, l12, l13, l14, l15, l16, l17, l18, l19, l20⟩ := M_learn (g := g) (l := l) hP.2.2.2.2.1 b2 hI.2.2.2.2.2.2.2.2 hs
  refine ⟨l1, nI j, u, l3, vp_in_nI (by omega) (by decide), ?_⟩
  rw [nI_clamp (n := j) (by omega), pk_us]
  have eW : u.2.2.2.1.2.1 = W.2.2.2.1 := congrArg (fun q : Fn × Fn × Fn => q.2.1) l11.2.2
  have eW1 : u.2.2.2.1.1 = W.2.2.1 := congrArg (fun q : Fn × Fn × Fn => q.1) l11.2.2
  have eW2 : u.2.2.2.1.2.2 = W.2.2.2.2 := congrArg (fun q : Fn × Fn × Fn => q.2.2) l11.2.2
  have en1 : (M_V_makeNext P.2.2.1 A.2.1 l).1 = W.2.2.2.1 j + 1 := by rw [l14]
  have en2 : (M_V_makeNext P.2.2.1 A.2.1 l).2 = (W.1, W.2.1, W.2.2.1, upd W.2.2.2.1 j (W.2.2.2.1 j + 1), W.2.2.2.2) := by rw [l14]
  rw [eW, eW1, eW2]
  obtain ⟨n1, n2, n3, n4⟩ := K_next (l := l) hP hI.2.2.2.2.2.2.2.2 hs
  have hI2 : AI P (A.1, (M_V_makeNext P.2.2.1 A.2.1 l).2, A.2.2) := AI_rest hI rfl n3 n1
  have hR2 : RM g (u.1, u.2.1, u.2.2.1, (W.2.2.1, (upd W.2.2.2.1 j (W.2.2.2.1 j + 1)), W.2.2.2.2), u.2.2.2.2) P (A.1, (M_V_makeNext P.2.2.1 A.2.1 l).2, A.2.2) thr := by
    refine ⟨g0, RL_same l4 b1, ?_, l7.trans r1, ?_, l10.trans r3, ?_, l6.trans r5⟩
    · show RV (u.1, u.2.1, u.2.2.1, (W.2.2.1, (upd W.2.2.2.1 j (W.2.2.2.1 j + 1)), W.2.2.2.2), u.2.2.2.2) (M_V_makeNext P.2.2.1 A.2.1 l).2
      rw [en2]
      exact ⟨l11.1, l11.2.1, rfl⟩
    · show psOf u.1.2.1 u.1.2.2.1 = _
      rw [l8, l9]
      exact r2
    · show ∀ c, c < P.1.1 → u.2.2.1 c = P.2.2.2.1 c
      rw [l5]
      exact r4
  refine ⟨fun q => ?_, fun q => ?_⟩
  · obtain ⟨m1, m2⟩ := M_mem (l := l) (v := W.2.2.2.1 j + 1) hP hR2 n2
    refine ⟨m1, ?_⟩
    unfold a_new
    rw [if_pos q, en1]
    exact m2
  · have hlk : ¬ q_look l (A.1 c) = none := by
      rcases h1 with ⟨q2, -⟩ | ⟨-, q2⟩
      · exact absurd q2 q
      · exact q2
    obtain ⟨a1, a2⟩ := M_atc hI2 hR2 (c := c) (by omega) l
    rcases a2 with ⟨k, e, k1, k2, k3, k5, k6⟩ | ⟨k1, -⟩
    · refine ⟨a1, nI (64 * c + k), k5, vp_in_nI k6 (by decide), ?_⟩
      rw [nI_clamp (n := 64 * c + k) (by omega), nar1]
      have hm := M_mark hR2.2.1 (q_wr (W.2.2.2.1 j + 1) e) (by omega) k2 (u.1, (u.2.1.1, u.2.1.2.1, (upd u.2.1.2.2.1 (64 * c + k) 1), (upd u.2.1.2.2.2.1 (64 * c + k) (W.2.2.2.1 j + 1)), u.2.1.2.2.2.2), u.2.2.1, (W.2.2.1, (upd W.2.2.2.1 j (W.2.2.2.1 j + 1)), W.2.2.2.2), u.2.2.2.2) rfl rfl rfl rfl rfl rfl rfl (Or.inr rfl)
      rw [q_sm (hI2.1 c) (q_wr (W.2.2.2.1 j + 1)) k2, k3] at hm
      unfold a_new
      rw [if_neg q, en1]
      exact M_set hR2 hm rfl rfl
    · exact absurd k1 hlk
theorem M_a101 (hP : okP P) (hI : AI P A) (hR : RM g y P A thr) (hc : c < P.1.1) (hs : A.2.1.2.1.val < 512) {h : Nat} (hh : h < 5) (h1 : (h = 4 ∧ q_look l (A.1 c) = none) ∨ (¬ h = 4 ∧ ¬ q_look l (A.1 c) = none)) (kind : Int32) :
    S_M_access_101 g (nI c) l kind (nI h) y ∧ (L_M_access_101 g (nI c) l kind (nI h) y).1 = nI (a_h h) ∧ RM g (L_M_access_101 g (nI c) l kind (nI h) y).2 P (if kind = 1 then a_write P A c l h else A) thr := by
  have h4 := hP.1.2
  have e4 : ((7 : Int32) * nI c) + (4 : Int32) = nI (7 * c + 4) := e7n c 4
  have hin : vp_in (nI (7 * c + 4)) 28 := vp_in_nI (by omega) (by decide)
  unfold S_M_access_101 L_M_access_101
  rw [e4, nI_clamp (n := 7 * c + 4) (by omega)]
  by_cases q : kind = 1
  · rw [if_pos q, if_pos q]
    have hR1 := M_tal hR (7 * c + 4)
    have hI1 := AI_tal hI (7 * c + 4)
    obtain ⟨o1, o2⟩ := M_ol0 (l := l) hP hI1 hR1 hc
    obtain ⟨k1, k2, k3, k4⟩ := K_pre (l := l) hP hI hc
    obtain ⟨n1, r, u, n2, n3, n4, n5⟩ := M_new (l := l) hP k1 o2 hc (by rw [k2]; exact hs) k3 hh (by rw [k4]; exact h1) kind
    refine ⟨⟨fun _ => ⟨hin, hin, o1, ?_⟩, fun q2 => absurd q q2⟩, ?_⟩
    · rw [bnd_eq rfl]
      refine ⟨n1, ?_⟩
      rw [bnd2_eq n2.symm]
      refine ⟨n3, n3, fun q2 => ⟨n3, (n4 ((nI_h4 hh).mp q2)).1, ?_⟩, fun q2 => ?_⟩
      · rw [bnd_eq rfl]
        exact (M_a196 hh).1
      · obtain ⟨x1, i, x2, x3, x4⟩ := n5 (fun q3 => q2 ((nI_h4 hh).mpr q3))
        refine ⟨x1, ?_⟩
        rw [bnd_eq x2.symm]
        exact ⟨x3, n3, x3, (M_a196 hh).1⟩
    · rw [bnd_eq rfl, bnd2_eq n2.symm]
      by_cases q2 : h = 4
      · rw [if_pos ((nI_h4 hh).mpr q2), bnd_eq rfl, (M_a196 hh).2]
        exact ⟨rfl, (n4 q2).2⟩
      · obtain ⟨x1, i, x2, x3, x4⟩ := n5 q2
        rw [if_neg (fun q3 => q2 ((nI_h4 hh).mp q3)), bnd_eq x2.symm, (M_a196 hh).2]
        exact ⟨rfl, x4⟩
  · rw [if_neg q, if_neg q, (M_a196 hh).2]
    exact ⟨⟨fun q2 => absurd q2 q, fun _ => (M_a196 hh).1⟩, rfl, hR⟩
theorem M_a75 (hP : okP P) (hI : AI P A) (hR : RM g y P A thr) (hc : c < P.1.1) (hs : A.2.1.2.1.val < 512) {h : Nat} (hh : h < 5) (h1 : (h = 4 ∧ q_look l (A.1 c) = none) ∨ (¬ h = 4 ∧ ¬ q_look l (A.1 c) = none)) (kind : Int32) :
    S_M_access_75 g (nI c) l kind (nI h) y ∧ (L_M_access_75 g (nI c) l kind (nI h) y).1 = nI (a_h h) ∧ RM g (L_M_access_75 g (nI c) l kind (nI h) y).2 P (if kind = 1 then a_write P (a_tal A (7 * c + a_h h)) c l h else a_tal A (7 * c + a_h h)) thr := by
  have h4 := hP.1.2
  have e3 : ((7 : Int32) * nI c) + (3 : Int32) = nI (7 * c + 3) := e7n c 3
  have hin3 : vp_in (nI (7 * c + 3)) 28 := vp_in_nI (by omega) (by decide)
  have hinh : vp_in (nI (7 * c + h)) 28 := vp_in_nI (by omega) (by decide)
  obtain ⟨s1, s2, s3⟩ := M_a101 (l := l) hP (AI_tal hI (7 * c + a_h h)) (M_tal hR (7 * c + a_h h)) hc hs hh h1 kind
  unfold S_M_access_75 L_M_access_75
  rw [e3, e7n c h, nI_clamp (n := 7 * c + 3) (by omega), nI_clamp (n := 7 * c + h) (by omega)]
  unfold a_h at s1 s2 s3 ⊢
  by_cases q : h = 4
  · rw [if_pos ((nI_h4 hh).mpr q)]
    rw [if_pos q] at s1 s2 s3 ⊢
    exact ⟨⟨fun _ => ⟨hin3, hin3, s1⟩, fun q2 => absurd ((nI_h4 hh).mpr q) q2⟩, s2, s3⟩
  · rw [if_neg (fun q3 => q ((nI_h4 hh).mp q3))]
    rw [if_neg q] at s1 s2 s3 ⊢
    exact ⟨⟨fun q2 => absurd ((nI_h4 hh).mp q2) q, fun _ => ⟨hinh, hinh, s1⟩⟩, s2, s3⟩
theorem M_within {p : Int32} {n : Nat} (hn : 0 < n) (hn2 : n < 2 ^ 31) : M_M_within p 0 (nI n - 1) = if ¬ p < 0 ∧ p < nI n then 1 else 0 := by
  obtain ⟨m, rfl⟩ : ∃ m, n = m + 1 := ⟨n - 1, by omega⟩
  rw [nI_pred]
  unfold M_M_within
  by_cases h1 : p < 0
  · rw [if_pos h1, if_neg (fun q => q.1 h1)]
  · rw [if_neg h1]
    obtain ⟨j, hj, rfl⟩ := nI_of h1
    by_cases h2 : nI m < nI j
    · rw [if_pos h2, if_neg (fun q => by have a := (nI_ltI (by omega) (by omega)).mp h2; have b := (nI_ltI (by omega) (by omega)).mp q.2; omega)]
    · rw [if_neg h2, if_pos ⟨h1, nI_lt (by
        rcases Nat.lt_or_ge m j with q | q
        · exact absurd (nI_lt q (by omega)) h2
        · omega) (by omega)⟩]
theorem M_isCore_y (hP : okP P) (hR : RM g y P A thr) {p : Int32} (h : ¬ p < 0 ∧ p < nI P.1.1) : M_M_isCore g y p = (1, ((0, y.1.2.1, y.1.2.2.1, y.1.2.2.2.1, y.1.2.2.2.2.1, y.1.2.2.2.2.2), y.2.1, y.2.2.1, y.2.2.2.1, y.2.2.2.2)) := by
  have h4 := hP.1
  have hw := M_within (p := p) h4.1 (by omega)
  rw [if_pos h] at hw
  unfold M_M_isCore
  rw [M_cores hR, bnd_eq hw.symm, if_neg i10]
  unfold L_M_isCore_23
  rw [if_pos rfl]
theorem M_isCore_n (hP : okP P) (hR : RM g y P A thr) {p : Int32} (h : ¬ (¬ p < 0 ∧ p < nI P.1.1)) : M_M_isCore g y p = (0, ((1, y.1.2.1, y.1.2.2.1, y.1.2.2.2.1, y.1.2.2.2.2.1, y.1.2.2.2.2.2), y.2.1, y.2.2.1, y.2.2.2.1, y.2.2.2.2)) := by
  have h4 := hP.1
  have hw := M_within (p := p) h4.1 (by omega)
  rw [if_neg h] at hw
  unfold M_M_isCore
  rw [M_cores hR, bnd_eq hw.symm, if_pos rfl]
  unfold L_M_isCore_23
  rw [if_neg i10]
theorem M_core_lt (hP : okP P) (hc : c < P.1.1) : ¬ nI c < 0 ∧ nI c < nI P.1.1 := ⟨nI_pos (by have := hP.1.2; omega), nI_lt hc (by have := hP.1.2; omega)⟩
theorem M_access (hP : okP P) (hI : AI P A) (hR : RM g y P A thr) (hc : c < P.1.1) (hs : A.2.1.2.1.val < 512) {kind : Int32} (hkd : kind = 0 ∨ kind = 1) : S_M_access g y (nI c) l kind ∧ (M_M_access g y (nI c) l kind).1 = nI (a_access P A c l kind).1 ∧ RM g (M_M_access g y (nI c) l kind).2 P (a_access P A c l kind).2 0 := by
  have h4 := hP.1.2
  have ec := M_isCore_y hP hR (M_core_lt hP hc)
  have e0 : ((7 : Int32) * nI c) = nI (7 * c) := by
    have h := e7n c 0
    rw [nI_0, Int32.add_zero] at h
    exact h
  have hw : M_M_within kind 0 1 = 1 := by rcases hkd with rfl | rfl <;> decide
  have hin : vp_in (nI (7 * c)) 28 := vp_in_nI (by omega) (by decide)
  have hR0 := M_tal (M_thr hR 0) (7 * c)
  have hI0 := AI_tal hI (7 * c)
  obtain ⟨k1, k2, k3⟩ := K_get (l := l) hP hI0 hc
  have hs2 : (a_get P (a_tal A (7 * c)) c l).2.2.1.2.1.val < 512 := by rw [k2.1]; exact hs
  have hh5 : (a_get P (a_tal A (7 * c)) c l).1 < 5 := by
    rcases k3 with ⟨q, -⟩ | ⟨q, -⟩ <;> omega
  have h1 : ((a_get P (a_tal A (7 * c)) c l).1 = 4 ∧ q_look l ((a_get P (a_tal A (7 * c)) c l).2.1 c) = none) ∨ (¬ (a_get P (a_tal A (7 * c)) c l).1 = 4 ∧ ¬ q_look l ((a_get P (a_tal A (7 * c)) c l).2.1 c) = none) := by
    rcases k3 with ⟨q1, q2⟩ | ⟨q1, q2⟩
    · exact Or.inl ⟨q1, q2⟩
    · exact Or.inr ⟨by omega, q2⟩
  have fin : ∀ z, RM g z P (a_get P (a_tal A (7 * c)) c l).2 0 → S_M_access_75 g (nI c) l kind (nI (a_get P (a_tal A (7 * c)) c l).1) z ∧ (L_M_access_75 g (nI c) l kind (nI (a_get P (a_tal A (7 * c)) c l).1) z).1 = nI (a_access P A c l kind).1 ∧ RM g (L_M_access_75 g (nI c) l kind (nI (a_get P (a_tal A (7 * c)) c l).1) z).2 P (a_access P A c l kind).2 0 := fun z hz => by
    unfold a_access
    exact M_a75 hP k1 hz hc hs2 hh5 h1 kind
  obtain ⟨a1, a2⟩ := M_atc hI0 hR0 (c := c) (by omega) l
  unfold S_M_access M_M_access
  rw [bnd2_eq ec.symm, bnd2_eq ec.symm, if_neg i10, bnd_eq hw.symm, bnd_eq hw.symm, if_neg i10, e0, nI_clamp (n := 7 * c) (by omega)]
  unfold S_M_access_63 L_M_access_63
  rcases a2 with ⟨k, e, f1, f2, f3, f5, f6⟩ | ⟨f1, f2⟩
  · have hn : ¬ nI (64 * c + k) < 0 := nI_pos (by omega)
    obtain ⟨s1, s2⟩ := M_usec hI0 hR0 (c := c) (by omega) f2
    rw [f3] at s2
    have eg : a_get P (a_tal A (7 * c)) c l = (1, a_setL (a_tal A (7 * c)) c (e :: q_rm l ((a_tal A (7 * c)).1 c))) := by
      unfold a_get
      rw [f1]
    rw [eg] at fin
    obtain ⟨x1, x2⟩ := fin _ s2
    have e1 : nI 1 = (1 : Int32) := by decide
    rw [e1] at x1 x2
    rw [bnd_eq f5.symm, bnd_eq f5.symm, if_neg hn, if_neg hn, bnd_eq rfl]
    refine ⟨⟨fun q => absurd q i10, fun _ => ⟨fun q => absurd q i10, fun _ => ⟨hin, hin, a1, fun q => absurd q hn, fun _ => ⟨fun q => absurd q hn, fun _ => ⟨s1, ?_⟩⟩⟩⟩⟩, ?_⟩
    · first
        | exact x1
        | (rw [bnd_eq rfl]; exact x1)
    · first
        | exact x2
        | (rw [bnd_eq rfl]; exact x2)
  · have hm1 : (-1 : Int32) < 0 := by decide
    obtain ⟨s1, s2, s3⟩ := M_bring hP hI0 hR0 hc f1
    have eg : a_get P (a_tal A (7 * c)) c l = a_bring P (a_tal A (7 * c)) c l := by
      unfold a_get
      rw [f1]
    rw [eg] at fin
    obtain ⟨x1, x2⟩ := fin _ s3
    rw [← s2] at x1 x2
    rw [bnd_eq f2.symm, bnd_eq f2.symm, if_pos hm1]
    refine ⟨⟨fun q => absurd q i10, fun _ => ⟨fun q => absurd q i10, fun _ => ⟨hin, hin, a1, fun _ => ⟨s1, ?_⟩, fun q => absurd hm1 q⟩⟩⟩, ?_⟩
    · rw [bnd2_eq rfl]
      exact ⟨fun _ => x1, fun q => absurd hm1 q⟩
    · rw [bnd2_eq rfl, if_pos hm1]
      exact x2
end ModAcc2
