-- the calls that only look, and the small ones
def INV (n : Nat) (g : GC) (gm : GM) (x : Cs) (y : Ms) : Prop := ∃ (P : Pm) (A : Ab) (thr : Int32), okP P ∧ AI P A ∧ RC g x P A ∧ RM gm y P A thr ∧ A.2.1.2.1.val ≤ n
theorem INV_le {n m : Nat} {g : GC} {gm : GM} {x : Cs} {y : Ms} (h : n ≤ m) (hI : INV n g gm x y) : INV m g gm x y := by
  obtain ⟨P, A, thr, h1, h2, h3, h4, h5⟩ := hI
  exact ⟨P, A, thr, h1, h2, h3, h4, by omega⟩
section Query
variable {n : Nat} {g : GC} {gm : GM} {x : Cs} {y : Ms} {P : Pm} {A : Ab} {thr : Int32} {c : Nat} {l : Int32}
theorem core_bad (hP : okP P) (hR : RC g x P A) {p : Int32} (h : ¬ (¬ p < 0 ∧ p < nI P.1.1)) : p < 0 ∨ ¬ p < g.2.1.1 := by
  rw [hR.1.1]
  by_cases q : p < 0
  · exact Or.inl q
  · exact Or.inr (fun q2 => h ⟨q, q2⟩)
theorem core_ok (hP : okP P) (hR : RC g x P A) {p : Int32} (h : ¬ p < 0 ∧ p < nI P.1.1) : ¬ p < 0 ∧ p < g.2.1.1 ∧ ∃ c, c < P.1.1 ∧ p = nI c := by
  have h4 := hP.1.2
  obtain ⟨j, hj, rfl⟩ := nI_of h.1
  exact ⟨h.1, by rw [hR.1.1]; exact h.2, j, (nI_ltI hj (by omega)).mp h.2, rfl⟩
theorem I_access (hn : n < 512) (hI : INV n g gm x y) (p0 p1 p2 : Int32) : S_M_access gm y p0 p1 p2 ∧ (((p0 < 0 ∨ ¬ p0 < g.2.1.1) ∧ (M_M_access gm y p0 p1 p2).2.1.1 = 1 ∧ INV n g gm x (M_M_access gm y p0 p1 p2).2) ∨ ((¬ p0 < 0 ∧ p0 < g.2.1.1 ∧ ¬ p2 = 0 ∧ ¬ p2 = 1) ∧ (M_M_access gm y p0 p1 p2).2.1.1 = 2 ∧ INV n g gm x (M_M_access gm y p0 p1 p2).2) ∨ ((¬ p0 < 0 ∧ p0 < g.2.1.1 ∧ (p2 = 0 ∨ p2 = 1)) ∧ (M_M_access gm y p0 p1 p2).2.1.1 = 0 ∧ (M_C_access g x p0 p1 p2).1 = (M_M_access gm y p0 p1 p2).1 ∧ INV (n + 1) g gm (M_C_access g x p0 p1 p2).2 (M_M_access gm y p0 p1 p2).2)) := by
  obtain ⟨P, A, thr, hP, hA, hC, hM, hs⟩ := hI
  by_cases hc : ¬ p0 < 0 ∧ p0 < nI P.1.1
  · obtain ⟨c1, c2, c, c3, rfl⟩ := core_ok hP hC hc
    by_cases hk : p2 = 0 ∨ p2 = 1
    · obtain ⟨m1, m2, m3⟩ := M_access (l := p1) hP hA hM c3 (by omega) hk
      obtain ⟨k1, k2⟩ := C_access (l := p1) hP hA hC c3 p2
      obtain ⟨j1, j2⟩ := K_access (l := p1) hP hA c3 p2 (by omega)
      exact ⟨m1, Or.inr (Or.inr ⟨⟨c1, c2, hk⟩, m3.2.2.2.1, by rw [k1, m2], P, _, 0, hP, j1, k2, m3, by omega⟩)⟩
    · have hk0 : ¬ p2 = 0 := fun q => hk (Or.inl q)
      have hk1 : ¬ p2 = 1 := fun q => hk (Or.inr q)
      have ec := M_isCore_y hP hM hc
      have hw : M_M_within p2 0 1 = 0 := by
        unfold M_M_within
        by_cases q1 : p2 < 0
        · rw [if_pos q1]
        · rw [if_neg q1]
          by_cases q2 : 1 < p2
          · rw [if_pos q2]
          · exfalso
            obtain ⟨j, hj, rfl⟩ := nI_of q1
            have e1 : (1 : Int32) = nI 1 := by decide
            rw [e1] at q2 hk1
            rcases Nat.lt_or_ge 1 j with q3 | q3
            · exact q2 (nI_lt q3 hj)
            · have h01 : j = 0 ∨ j = 1 := by omega
              rcases h01 with rfl | rfl
              · exact hk0 nI_0
              · exact hk1 rfl
      have em : M_M_access gm y (nI c) p1 p2 = (0, ((2, y.1.2.1, y.1.2.2.1, y.1.2.2.2.1, y.1.2.2.2.2.1, y.1.2.2.2.2.2), y.2.1, y.2.2.1, y.2.2.2.1, y.2.2.2.2)) := by
        unfold M_M_access
        rw [bnd2_eq ec.symm, if_neg i10, bnd_eq hw.symm, if_pos rfl]
        rfl
      have es : S_M_access gm y (nI c) p1 p2 := by
        unfold S_M_access
        rw [bnd2_eq ec.symm, bnd_eq hw.symm]
        exact ⟨fun q => absurd q i10, fun _ => ⟨fun _ => trivial, fun q => absurd rfl q⟩⟩
      rw [em]
      exact ⟨es, Or.inr (Or.inl ⟨⟨c1, c2, hk0, hk1⟩, rfl, P, A, 2, hP, hA, hC, M_thr hM 2, hs⟩)⟩
  · have ec := M_isCore_n hP hM hc
    have em : M_M_access gm y p0 p1 p2 = (0, ((1, y.1.2.1, y.1.2.2.1, y.1.2.2.2.1, y.1.2.2.2.2.1, y.1.2.2.2.2.2), y.2.1, y.2.2.1, y.2.2.2.1, y.2.2.2.2)) := by
      unfold M_M_access
      rw [bnd2_eq ec.symm, if_pos rfl]
    have es : S_M_access gm y p0 p1 p2 := by
      unfold S_M_access
      rw [bnd2_eq ec.symm]
      exact ⟨fun _ => trivial, fun q => absurd rfl q⟩
    rw [em]
    exact ⟨es, Or.inl ⟨core_bad hP hC hc, rfl, P, A, 1, hP, hA, hC, M_thr hM 1, hs⟩⟩
theorem I_quota (hI : INV n g gm x y) (p0 p1 : Int32) : S_M_quota gm y p0 p1 ∧ (((p0 < 0 ∨ ¬ p0 < g.2.1.1) ∧ (M_M_quota gm y p0 p1).2.1.1 = 1 ∧ INV n g gm x (M_M_quota gm y p0 p1).2) ∨ ((¬ p0 < 0 ∧ p0 < g.2.1.1 ∧ (p1 < 0 ∨ ¬ p1 ≤ 4)) ∧ (M_M_quota gm y p0 p1).2.1.1 = 2 ∧ INV n g gm x (M_M_quota gm y p0 p1).2) ∨ ((¬ p0 < 0 ∧ p0 < g.2.1.1 ∧ ¬ p1 < 0 ∧ p1 ≤ 4) ∧ (M_M_quota gm y p0 p1).2.1.1 = 0 ∧ (M_C_quota g x p0 p1).1 = (M_M_quota gm y p0 p1).1 ∧ INV n g gm (M_C_quota g x p0 p1).2 (M_M_quota gm y p0 p1).2)) := by
  obtain ⟨P, A, thr, hP, hA, hC, hM, hs⟩ := hI
  by_cases hc : ¬ p0 < 0 ∧ p0 < nI P.1.1
  · obtain ⟨c1, c2, c, c3, rfl⟩ := core_ok hP hC hc
    have h4 := hP.1.2
    have ec := M_isCore_y hP hM hc
    have hin : vp_in (nI c) 4 := vp_in_nI (by omega) (by decide)
    by_cases hk : ¬ p1 < 0 ∧ p1 ≤ 4
    · have hw : M_M_within p1 0 4 = 1 := by
        unfold M_M_within
        rw [if_neg hk.1, if_neg (fun q => by have a := Int32.lt_iff_toInt_lt.mp q; have b := Int32.le_iff_toInt_le.mp hk.2; omega)]
      have em : M_M_quota gm y (nI c) p1 = (y.2.2.1 c, ((0, y.1.2.1, y.1.2.2.1, y.1.2.2.2.1, y.1.2.2.2.2.1, y.1.2.2.2.2.2), y.2.1, upd y.2.2.1 c p1, y.2.2.2.1, y.2.2.2.2)) := by
        unfold M_M_quota
        rw [bnd2_eq ec.symm, if_neg i10, bnd_eq hw.symm, if_neg i10, nI_clamp (by omega)]
      have es : S_M_quota gm y (nI c) p1 := by
        unfold S_M_quota
        rw [bnd2_eq ec.symm, bnd_eq hw.symm]
        exact ⟨fun q => absurd q i10, fun _ => ⟨fun q => absurd q i10, fun _ => ⟨hin, hin, trivial⟩⟩⟩
      have ex : M_C_quota g x (nI c) p1 = (x.2.2.2.2.1 c, (x.1, x.2.1, x.2.2.1, x.2.2.2.1, upd x.2.2.2.2.1 c p1, x.2.2.2.2.2)) := by
        unfold M_C_quota
        rw [nI_clamp (by omega)]
      rw [em, ex]
      refine ⟨es, Or.inr (Or.inr ⟨⟨c1, c2, hk.1, hk.2⟩, rfl, ?_, (P.1, P.2.1, P.2.2.1, upd P.2.2.2.1 c p1, P.2.2.2.2), A, 0, ?_, hA, ?_, ?_, hs⟩)⟩
      · show x.2.2.2.2.1 c = y.2.2.1 c
        rw [hC.2.2.2.2.2.2.1 c c3, hM.2.2.2.2.2.2.1 c c3]
      · obtain ⟨o1, o2, o3, o4, o5, o6⟩ := hP
        refine ⟨o1, o2, o3, o4, o5, fun d hd => ?_⟩
        show ∃ n, n ≤ 4 ∧ upd P.2.2.2.1 c p1 d = nI n
        by_cases q : d = c
        · subst q
          rw [pk_us]
          obtain ⟨j, hj, rfl⟩ := nI_of hk.1
          have e4 : (4 : Int32) = nI 4 := by decide
          rw [e4] at hk
          exact ⟨j, (nI_leI hj (by decide)).mp hk.2, rfl⟩
        · rw [pk_un q]
          exact o6 d hd
      · obtain ⟨g0, b1, b2, r1, r2, r3, r4, r5⟩ := hC
        refine ⟨g0, b1, b2, r1, r2, r3, fun d hd => ?_, r5⟩
        show upd x.2.2.2.2.1 c p1 d = upd P.2.2.2.1 c p1 d
        by_cases q : d = c
        · subst q
          rw [pk_us, pk_us]
        · rw [pk_un q, pk_un q]
          exact r4 d hd
      · obtain ⟨g0, b1, b2, r1, r2, r3, r4, r5⟩ := hM
        refine ⟨g0, b1, b2, rfl, r2, r3, fun d hd => ?_, r5⟩
        show upd y.2.2.1 c p1 d = upd P.2.2.2.1 c p1 d
        by_cases q : d = c
        · subst q
          rw [pk_us, pk_us]
        · rw [pk_un q, pk_un q]
          exact r4 d hd
    · have hw : M_M_within p1 0 4 = 0 := by
        unfold M_M_within
        by_cases q1 : p1 < 0
        · rw [if_pos q1]
        · rw [if_neg q1, if_pos]
          exact Int32.not_le.mp (fun q => hk ⟨q1, q⟩)
      have em : M_M_quota gm y (nI c) p1 = (0, ((2, y.1.2.1, y.1.2.2.1, y.1.2.2.2.1, y.1.2.2.2.2.1, y.1.2.2.2.2.2), y.2.1, y.2.2.1, y.2.2.2.1, y.2.2.2.2)) := by
        unfold M_M_quota
        rw [bnd2_eq ec.symm, if_neg i10, bnd_eq hw.symm, if_pos rfl]
        rfl
      have es : S_M_quota gm y (nI c) p1 := by
        unfold S_M_quota
        rw [bnd2_eq ec.symm, bnd_eq hw.symm]
        exact ⟨fun q => absurd q i10, fun _ => ⟨fun _ => trivial, fun q => absurd rfl q⟩⟩
      rw [em]
      refine ⟨es, Or.inr (Or.inl ⟨⟨c1, c2, ?_⟩, rfl, P, A, 2, hP, hA, hC, M_thr hM 2, hs⟩)⟩
      by_cases q1 : p1 < 0
      · exact Or.inl q1
      · exact Or.inr (fun q => hk ⟨q1, q⟩)
  · have ec := M_isCore_n hP hM hc
    have em : M_M_quota gm y p0 p1 = (0, ((1, y.1.2.1, y.1.2.2.1, y.1.2.2.2.1, y.1.2.2.2.2.1, y.1.2.2.2.2.2), y.2.1, y.2.2.1, y.2.2.2.1, y.2.2.2.2)) := by
      unfold M_M_quota
      rw [bnd2_eq ec.symm, if_pos rfl]
    have es : S_M_quota gm y p0 p1 := by
      unfold S_M_quota
      rw [bnd2_eq ec.symm]
      exact ⟨fun _ => trivial, fun q => absurd rfl q⟩
    rw [em]
    exact ⟨es, Or.inl ⟨core_bad hP hC hc, rfl, P, A, 1, hP, hA, hC, M_thr hM 1, hs⟩⟩
theorem psOf_lt {a b a2 b2 : Int32} (h : psOf a b = psOf a2 b2) : b < a ↔ b2 < a2 := by
  have key : ∀ a b : Int32, b < a ↔ ∀ l, psOf a b l = false := fun a b => by
    constructor
    · intro h l
      refine decide_eq_false (fun q => ?_)
      have h1 := Int32.lt_iff_toInt_lt.mp h
      have h2 : ¬ l.toInt < a.toInt := fun q2 => q.1 (Int32.lt_iff_toInt_lt.mpr q2)
      have h3 : ¬ b.toInt < l.toInt := fun q2 => q.2 (Int32.lt_iff_toInt_lt.mpr q2)
      omega
    · intro h
      have h1 := of_decide_eq_false (h a)
      by_cases q : b < a
      · exact q
      · exact absurd ⟨fun q2 => by have := Int32.lt_iff_toInt_lt.mp q2; omega, q⟩ h1
  rw [key a b, key a2 b2, h]
theorem I_bypass (hI : INV n g gm x y) (p0 p1 : Int32) : (M_C_bypass g x p0 p1).1 = (M_M_bypass gm y p0 p1).1 ∧ INV n g gm (M_C_bypass g x p0 p1).2 (M_M_bypass gm y p0 p1).2 := by
  obtain ⟨P, A, thr, hP, hA, hC, hM, hs⟩ := hI
  have hlt := psOf_lt (hC.2.2.2.1.trans hM.2.2.2.2.1.symm)
  have hC2 : RC g ((p0, p1, x.1.2.2), x.2.1, x.2.2.1, x.2.2.2.1, x.2.2.2.2.1, x.2.2.2.2.2) (P.1, P.2.1, P.2.2.1, P.2.2.2.1, psOf p0 p1) A := by
    obtain ⟨g0, b1, b2, r1, r2, r3, r4, r5⟩ := hC
    exact ⟨g0, b1, b2, rfl, r2, r3, r4, r5⟩
  have hM2 : RM gm ((0, p0, p1, y.1.2.2.2.1, y.1.2.2.2.2.1, y.1.2.2.2.2.2), y.2.1, y.2.2.1, y.2.2.2.1, y.2.2.2.2) (P.1, P.2.1, P.2.2.1, P.2.2.2.1, psOf p0 p1) A 0 := by
    obtain ⟨g0, b1, b2, r1, r2, r3, r4, r5⟩ := hM
    exact ⟨g0, b1, b2, rfl, rfl, r3, r4, r5⟩
  unfold M_C_bypass M_M_bypass
  by_cases q : x.1.2.1 < x.1.1
  · rw [if_pos q, if_pos (hlt.mp q)]
    exact ⟨rfl, (P.1, P.2.1, P.2.2.1, P.2.2.2.1, psOf p0 p1), A, 0, hP, hA, hC2, hM2, hs⟩
  · rw [if_neg q, if_neg (fun q2 => q (hlt.mpr q2))]
    exact ⟨rfl, (P.1, P.2.1, P.2.2.1, P.2.2.2.1, psOf p0 p1), A, 0, hP, hA, hC2, hM2, hs⟩
theorem I_flush (hI : INV n g gm x y) : S_M_flush gm y ∧ (M_C_flush g x).1 = (M_M_flush gm y).1 ∧ INV n g gm (M_C_flush g x).2 (M_M_flush gm y).2 := by
  obtain ⟨P, A, thr, hP, hA, hC, hM, hs⟩ := hI
  obtain ⟨m1, m2, m3⟩ := M_flush hP hA hM
  obtain ⟨c1, c2⟩ := C_flush hP hA hC
  obtain ⟨a1, a2⟩ := AI_flush hP hA
  exact ⟨m1, by rw [c1, m2], P, _, 0, hP, a1, c2, m3, by rw [a2]; exact hs⟩
theorem I_memory (hI : INV n g gm x y) (p0 : Int32) : S_M_memory gm y p0 ∧ M_C_memory g x p0 = (M_M_memory gm y p0).1 ∧ INV n g gm x (M_M_memory gm y p0).2 := by
  obtain ⟨P, A, thr, hP, hA, hC, hM, hs⟩ := hI
  have hM0 := M_thr hM 0
  obtain ⟨v1, v2⟩ := V_mem (g := gm) (l := p0) hP.2.2.2.2.1 hM0.2.2.1
  unfold S_M_memory M_M_memory M_C_memory
  rw [bnd_eq v2.symm, bnd_eq v2.symm, bnd_eq rfl, hC.1.2.2.2, hC.2.2.2.2.2.1]
  exact ⟨⟨v1, trivial⟩, rfl, P, A, 0, hP, hA, hC, hM0, hs⟩
theorem I_owner (hI : INV n g gm x y) (p0 : Int32) : S_M_owner gm y p0 ∧ M_C_owner g x p0 = (M_M_owner gm y p0).1 ∧ INV n g gm x (M_M_owner gm y p0).2 := by
  obtain ⟨P, A, thr, hP, hA, hC, hM, hs⟩ := hI
  have hM0 := M_thr hM 0
  obtain ⟨a1, a2⟩ := M_at4 hA hM0 p0
  unfold S_M_owner M_M_owner M_C_owner
  rcases a2 with ⟨k, e, h1, h2, h3, h5, h6⟩ | ⟨h1, h2⟩
  · obtain ⟨t1, t2, t3, t4, t5, t6, t7⟩ := RL_at hM0.2.1 (by omega) h2
    have hn : (0 : Int32) ≤ nI (64 * 4 + k) := nI_pos' (by omega)
    have t6 : y.2.1.2.2.2.2 (64 * 4 + k) = e.2.2.2 := t6
    rw [bnd_eq h5.symm, bnd_eq h5.symm, if_pos hn, nI_clamp (n := 64 * 4 + k) (by omega), t6]
    rcases C_find2 hA hC p0 with ⟨e2, k1, k2, k3⟩ | ⟨k1, k2⟩
    · obtain ⟨-, -, -, s4, s5, -⟩ := SB_val hC.2.2.1 (by omega) k3
      rw [bnd_eq rfl, if_neg s5, bnd_eq s4.symm]
      rw [h1] at k1
      cases k1
      exact ⟨⟨a1, fun _ => ⟨vp_in_nI h6 (by decide), trivial⟩, fun _ => trivial⟩, rfl, P, A, 0, hP, hA, hC, hM0, hs⟩
    · rw [h1] at k1
      cases k1
  · rw [bnd_eq h2.symm, bnd_eq h2.symm, if_neg (by decide)]
    rcases C_find2 hA hC p0 with ⟨e2, k1, k2, k3⟩ | ⟨k1, k2⟩
    · rw [h1] at k1
      cases k1
    · rw [bnd_eq k2.symm, if_pos rfl]
      exact ⟨⟨a1, fun q => absurd q (by decide), fun _ => trivial⟩, rfl, P, A, 0, hP, hA, hC, hM0, hs⟩
theorem M_dir (hP : okP P) (hI : AI P A) (hR : RM gm y P A thr) (l : Int32) : ∀ (n c fuel : Nat) (b : Int32), c + n = P.1.1 → n < fuel → S_M_directory_9 gm l fuel b (nI c) y ∧ L_M_directory_9 gm l fuel b (nI c) y = (a_dir A.1 l n c b, y) := by
  have h4 := hP.1.2
  have g1 := M_cores hR
  intro n
  induction n with
  | zero =>
    intro c fuel b hc hf
    obtain ⟨m, rfl⟩ : ∃ m, fuel = m + 1 := ⟨fuel - 1, by omega⟩
    have h0 : nI P.1.1 ≤ nI c := nI_le (by omega) (by omega)
    rw [S_M_directory_9_eq, L_M_directory_9_eq, g1, if_pos h0]
    exact ⟨⟨fun _ => trivial, fun q => absurd h0 q⟩, rfl⟩
  | succ n ih =>
    intro c fuel b hc hf
    obtain ⟨m, rfl⟩ : ∃ m, fuel = m + 1 := ⟨fuel - 1, by omega⟩
    have h0 : ¬ nI P.1.1 ≤ nI c := nI_ge (by omega) (by omega)
    have hmu := nI_mu (a := c) (n := P.1.1) (by omega) (by omega)
    obtain ⟨a1, a2⟩ := M_atc hI hR (c := c) (by omega) l
    rw [S_M_directory_9_eq, L_M_directory_9_eq, g1, if_neg h0, nI_1]
    unfold a_dir
    rcases a2 with ⟨k, e, h1, h2, h3, h5, h6⟩ | ⟨h1, h2⟩
    · have hn : ¬ nI (64 * c + k) < 0 := nI_pos (by omega)
      obtain ⟨i1, i2⟩ := ih (c + 1) m (b ||| ((1 : Int32) <<< (nI c &&& 31))) (by omega) (by omega)
      rw [bnd_eq h5.symm, bnd_eq h5.symm, if_neg hn, if_neg (by rw [h1]; exact fun q => by cases q)]
      exact ⟨⟨fun q => absurd q h0, fun _ => ⟨a1, fun q => absurd q hn, fun _ => ⟨hmu, i1⟩⟩⟩, i2⟩
    · have hm1 : (-1 : Int32) < 0 := by decide
      obtain ⟨i1, i2⟩ := ih (c + 1) m b (by omega) (by omega)
      rw [bnd_eq h2.symm, bnd_eq h2.symm, if_pos hm1, if_pos h1]
      exact ⟨⟨fun q => absurd q h0, fun _ => ⟨a1, fun _ => ⟨hmu, i1⟩, fun q => absurd hm1 q⟩⟩, i2⟩
theorem I_directory (hI : INV n g gm x y) (p0 : Int32) : S_M_directory gm y p0 ∧ M_C_directory g x p0 = (M_M_directory gm y p0).1 ∧ INV n g gm x (M_M_directory gm y p0).2 := by
  obtain ⟨P, A, thr, hP, hA, hC, hM, hs⟩ := hI
  have h4 := hP.1.2
  have hM0 := M_thr hM 0
  obtain ⟨d1, d2⟩ := M_dir hP hA hM0 p0 P.1.1 0 (P.1.1 + 1) 0 (by omega) (by omega)
  rw [nI_0] at d1 d2
  unfold S_M_directory M_M_directory
  rw [M_cores hM, mu_nI0 (by omega), C_dir0 hP hA hC, d2]
  exact ⟨d1, rfl, P, A, 0, hP, hA, hC, hM0, hs⟩
end Query
