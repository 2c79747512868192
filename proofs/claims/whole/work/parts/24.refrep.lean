-- what the reference holds: a list a cache
def EM (y : Ms) (j : Nat) : Ent := (y.2.1.2.1 j, y.2.1.2.2.1 j, y.2.1.2.2.2.1 j, y.2.1.2.2.2.2 j)
def gM (g : GM) (N : Nat) (kp : Int32) (S1 S2 : Nat) : Prop := g.2.1 = nI N ∧ g.2.2.1 = kp ∧ g.2.2.2.1 = nI S1 ∧ g.2.2.2.2 = nI S2 ∧ 0 < N ∧ N ≤ 4 ∧ 0 < S1 ∧ S1 ≤ 8 ∧ 0 < S2 ∧ S2 ≤ 16
def q_ss (S1 S2 c : Nat) : Nat := if c = 4 then S2 else S1
def RL (y : Ms) (L : Nat → List Ent) : Prop := w01 y.2.1.2.2.1 ∧ ∀ c, c < 5 → (L c).length ≤ 64 ∧ y.2.1.1 c = nI (L c).length ∧ ∀ k e, (L c)[k]? = some e → EM y (64 * c + k) = e
theorem RL_congr {y : Ms} {L K : Nat → List Ent} (h : ∀ c, c < 5 → L c = K c) (hR : RL y L) : RL y K := ⟨hR.1, fun c hc => by rw [← h c hc]; exact hR.2 c hc⟩
theorem RL_same {y z : Ms} {L : Nat → List Ent} (h : z.2.1 = y.2.1) (hR : RL y L) : RL z L := by
  unfold RL EM at hR ⊢
  rw [h]
  exact hR
theorem RL_upd {y z : Ms} {L : Nat → List Ent} (hR : RL y L) {c : Nat} (K : List Ent) (h1 : w01 z.2.1.2.2.1) (h2 : K.length ≤ 64) (h3 : z.2.1.1 c = nI K.length) (h3' : ∀ q, ¬ q = c → z.2.1.1 q = y.2.1.1 q) (h4 : ∀ k e, K[k]? = some e → EM z (64 * c + k) = e) (h6 : ∀ j, (j < 64 * c ∨ 64 * c + 64 ≤ j) → EM z j = EM y j) : RL z (q_set L c K) := by
  refine ⟨h1, fun q hq => ?_⟩
  by_cases h : q = c
  · subst h
    rw [q_set_s]
    exact ⟨h2, h3, h4⟩
  · rw [q_set_n h]
    obtain ⟨a1, a2, a3⟩ := hR.2 q hq
    refine ⟨a1, by rw [h3' q h]; exact a2, fun k e he => ?_⟩
    have hk := q_idx he
    rw [h6 _ (by omega)]
    exact a3 k e he
theorem e64 (c : Nat) : (64 : Int32) * nI c = nI (64 * c) := by
  have e : (64 : Int32) = nI 64 := by decide
  rw [e, pk_mul]
section RefRows
variable {g : GM} {y : Ms} {L : Nat → List Ent} {N S1 S2 : Nat} {kp : Int32}
theorem RL_at (hR : RL y L) {c k : Nat} {e : Ent} (hc : c < 5) (h : (L c)[k]? = some e) : k < 64 ∧ 64 * c + k < 320 ∧ y.2.1.2.1 (64 * c + k) = e.1 ∧ y.2.1.2.2.1 (64 * c + k) = e.2.1 ∧ y.2.1.2.2.2.1 (64 * c + k) = e.2.2.1 ∧ y.2.1.2.2.2.2 (64 * c + k) = e.2.2.2 ∧ (e.2.1 = 0 ∨ e.2.1 = 1) := by
  obtain ⟨a1, a2, a3⟩ := hR.2 c hc
  have h1 := q_idx h
  have h2 := a3 k e h
  subst h2
  exact ⟨by omega, by omega, rfl, rfl, rfl, rfl, hR.1 _⟩
theorem RL_end (hR : RL y L) {c : Nat} (hc : c < 5) : ((64 : Int32) * nI c) + y.2.1.1 (nI c).toNatClampNeg = nI (64 * c + (L c).length) := by
  rw [e64, nI_clamp (by omega), (hR.2 c hc).2.1, nI_add]
theorem M_at_loop (hR : RL y L) {c : Nat} (hc : c < 5) (l : Int32) : ∀ (d k fuel : Nat), (L c).length = k + d → d < fuel →
    S_M_at_5 g y (nI c) l fuel (nI (64 * c + k)) ∧ ((∃ k2 e, k ≤ k2 ∧ (L c)[k2]? = some e ∧ e.1 = l ∧ L_M_at_5 g y (nI c) l fuel (nI (64 * c + k)) = nI (64 * c + k2)) ∨ ((∀ k2 e, k ≤ k2 → (L c)[k2]? = some e → ¬ e.1 = l) ∧ L_M_at_5 g y (nI c) l fuel (nI (64 * c + k)) = -1)) := by
  have hle := (hR.2 c hc).1
  intro d
  induction d with
  | zero =>
    intro k fuel hk hf
    obtain ⟨n, rfl⟩ : ∃ n, fuel = n + 1 := ⟨fuel - 1, by omega⟩
    have hb : ((64 : Int32) * nI c) + y.2.1.1 (nI c).toNatClampNeg ≤ nI (64 * c + k) := by rw [RL_end hR hc]; exact nI_le (by omega) (by omega)
    rw [S_M_at_5_eq, L_M_at_5_eq, if_pos hb]
    exact ⟨⟨vp_in_nI hc (by decide), fun _ => trivial, fun q => absurd hb q⟩, Or.inr ⟨fun k2 e h2 he => absurd (q_idx he) (by omega), rfl⟩⟩
  | succ d ih =>
    intro k fuel hk hf
    obtain ⟨n, rfl⟩ : ∃ n, fuel = n + 1 := ⟨fuel - 1, by omega⟩
    obtain ⟨e, he⟩ := q_get (L := L c) (k := k) (by omega)
    obtain ⟨b1, b2, b3, -⟩ := RL_at hR hc he
    have hb : ¬ ((64 : Int32) * nI c) + y.2.1.1 (nI c).toNatClampNeg ≤ nI (64 * c + k) := by rw [RL_end hR hc]; exact nI_ge (by omega) (by omega)
    obtain ⟨i1, i2⟩ := ih (k + 1) n (by omega) (by omega)
    rw [S_M_at_5_eq, L_M_at_5_eq, if_neg hb, nI_clamp (n := 64 * c + k) (by omega), b3, nI_1]
    refine ⟨⟨vp_in_nI hc (by decide), fun q => absurd q hb, fun _ => ⟨vp_in_nI b2 (by decide), fun _ => trivial, fun _ => ⟨?_, i1⟩⟩⟩, ?_⟩
    · have h := mu_dec hb
      rwa [nI_1] at h
    · by_cases hl : e.1 = l
      · rw [if_pos hl]
        exact Or.inl ⟨k, e, Nat.le_refl _, he, hl, rfl⟩
      · rw [if_neg hl]
        rcases i2 with ⟨k2, e2, c1, c2⟩ | ⟨c1, c2⟩
        · exact Or.inl ⟨k2, e2, by omega, c2⟩
        · refine Or.inr ⟨fun k2 e2 h2 he2 => ?_, c2⟩
          rcases Nat.eq_or_lt_of_le h2 with q | q
          · subst q
            rw [he] at he2
            cases he2
            exact hl
          · exact c1 k2 e2 (by omega) he2
theorem RL_fuel (hR : RL y L) {c : Nat} (hc : c < 5) : mu ((64 : Int32) * nI c) (((64 : Int32) * nI c) + y.2.1.1 (nI c).toNatClampNeg) = (L c).length := by
  have hle := (hR.2 c hc).1
  rw [RL_end hR hc, e64, mu_nI (by omega) (by omega)]
  omega
theorem M_at (hR : RL y L) {c : Nat} (hc : c < 5) (nd : q_nd (L c)) (l : Int32) :
    S_M_at g y (nI c) l ∧ ((∃ k e, q_look l (L c) = some e ∧ (L c)[k]? = some e ∧ e.1 = l ∧ M_M_at g y (nI c) l = nI (64 * c + k) ∧ 64 * c + k < 320) ∨ (q_look l (L c) = none ∧ M_M_at g y (nI c) l = -1)) := by
  have hle := (hR.2 c hc).1
  obtain ⟨h1, h2⟩ := M_at_loop (g := g) hR hc l (L c).length 0 ((L c).length + 1) (by omega) (by omega)
  unfold S_M_at M_M_at
  rw [RL_fuel hR hc, e64]
  refine ⟨h1, ?_⟩
  rcases h2 with ⟨k, e, -, c1, c2, c3⟩ | ⟨c1, c2⟩
  · have hk := q_idx c1
    refine Or.inl ⟨k, e, ?_, c1, c2, c3, by omega⟩
    rw [← c2]
    exact q_look_of nd (List.mem_of_getElem? c1)
  · refine Or.inr ⟨q_look_none.mpr (fun e he => ?_), c2⟩
    obtain ⟨k, hk⟩ := List.mem_iff_getElem?.mp he
    exact c1 k e (Nat.zero_le _) hk
theorem M_copy (hw : w01 y.2.1.2.2.1) {a b : Nat} (ha : a < 320) (hb : b < 320) : S_M_copy g y (nI a) (nI b) ∧ (M_M_copy g y (nI a) (nI b)).1 = y.1 ∧ (M_M_copy g y (nI a) (nI b)).2.2 = y.2.2 ∧ (M_M_copy g y (nI a) (nI b)).2.1.1 = y.2.1.1 ∧ w01 (M_M_copy g y (nI a) (nI b)).2.1.2.2.1 ∧ ∀ j, EM (M_M_copy g y (nI a) (nI b)) j = if j = a then EM y b else EM y j := by
  have h1 := vp_in_nI ha (by decide)
  have h2 := vp_in_nI hb (by decide)
  refine ⟨⟨h2, h1, h2, h1, h2, h1, h2, h1, trivial⟩, rfl, rfl, rfl, ?_, fun j => ?_⟩
  · show w01 (upd y.2.1.2.2.1 (nI a).toNatClampNeg (vp_nar .boolean (y.2.1.2.2.1 (nI b).toNatClampNeg)))
    rw [nar01 (hw _)]
    exact w01_upd hw (hw _)
  · unfold M_M_copy EM
    rw [nI_clamp (by omega), nI_clamp (by omega), nar01 (hw _)]
    unfold upd
    by_cases c : j = a
    · simp only [if_pos c]
    · simp only [if_neg c]
theorem M_take_loop {c m : Nat} (hc : c < 5) (hm : m < 64) (p1 : Int32) : ∀ (d i fuel : Nat) (z : Ms), 64 * c + m = i + d → d < fuel → w01 z.2.1.2.2.1 → z.2.1.1 c = nI m →
    S_M_takeOut_12 g (nI c) p1 fuel (nI i) z ∧ (L_M_takeOut_12 g (nI c) p1 fuel (nI i) z).1 = z.1 ∧ (L_M_takeOut_12 g (nI c) p1 fuel (nI i) z).2.2 = z.2.2 ∧ (L_M_takeOut_12 g (nI c) p1 fuel (nI i) z).2.1.1 = z.2.1.1 ∧ w01 (L_M_takeOut_12 g (nI c) p1 fuel (nI i) z).2.1.2.2.1 ∧ ∀ j, EM (L_M_takeOut_12 g (nI c) p1 fuel (nI i) z) j = if i ≤ j ∧ j < 64 * c + m then EM z (j + 1) else EM z j := by
  intro d
  induction d with
  | zero =>
    intro i fuel z hi hf hw hz
    obtain ⟨n, rfl⟩ : ∃ n, fuel = n + 1 := ⟨fuel - 1, by omega⟩
    have hb : ((64 : Int32) * nI c) + z.2.1.1 (nI c).toNatClampNeg ≤ nI i := by rw [e64, nI_clamp (by omega), hz, nI_add]; exact nI_le (by omega) (by omega)
    rw [S_M_takeOut_12_eq, L_M_takeOut_12_eq, if_pos hb]
    exact ⟨⟨vp_in_nI hc (by decide), fun _ => trivial, fun q => absurd hb q⟩, rfl, rfl, rfl, hw, fun j => by rw [if_neg (by omega)]⟩
  | succ d ih =>
    intro i fuel z hi hf hw hz
    obtain ⟨n, rfl⟩ : ∃ n, fuel = n + 1 := ⟨fuel - 1, by omega⟩
    have hb : ¬ ((64 : Int32) * nI c) + z.2.1.1 (nI c).toNatClampNeg ≤ nI i := by rw [e64, nI_clamp (by omega), hz, nI_add]; exact nI_ge (by omega) (by omega)
    obtain ⟨s1, s2, s3, s4, s5, s6⟩ := M_copy (g := g) hw (a := i) (b := i + 1) (by omega) (by omega)
    rw [S_M_takeOut_12_eq, L_M_takeOut_12_eq, if_neg hb]
    simp only [bnd]
    rw [nI_1]
    obtain ⟨t1, t2, t3, t4, t5, t6⟩ := ih (i + 1) n (M_M_copy g z (nI i) (nI (i + 1))) (by omega) (by omega) s5 (by rw [s4]; exact hz)
    refine ⟨⟨vp_in_nI hc (by decide), fun q => absurd q hb, fun _ => ⟨s1, ?_, t1⟩⟩, t2.trans s2, t3.trans s3, t4.trans s4, t5, fun j => ?_⟩
    · have h := mu_dec hb
      rw [nI_1] at h
      rw [s4]
      exact h
    · rw [t6]
      by_cases h1 : i + 1 ≤ j ∧ j < 64 * c + m
      · rw [if_pos h1, if_pos (by omega), s6, if_neg (by omega)]
      · rw [if_neg h1, s6]
        by_cases h2 : j = i
        · rw [if_pos h2, if_pos (by omega), h2]
        · rw [if_neg h2, if_neg (by omega)]
theorem M_takeOut (hR : RL y L) {c k : Nat} {e : Ent} (hc : c < 5) (he : (L c)[k]? = some e) :
    S_M_takeOut g y (nI c) (nI (64 * c + k)) ∧ RL (M_M_takeOut g y (nI c) (nI (64 * c + k))) (q_set L c ((L c).eraseIdx k)) ∧ (M_M_takeOut g y (nI c) (nI (64 * c + k))).1 = y.1 ∧ (M_M_takeOut g y (nI c) (nI (64 * c + k))).2.2 = y.2.2 := by
  obtain ⟨a1, a2, a3⟩ := hR.2 c hc
  have hk := q_idx he
  obtain ⟨n, hn⟩ : ∃ n, (L c).length = n + 1 := ⟨(L c).length - 1, by omega⟩
  obtain ⟨d, hd⟩ : ∃ d, n = k + d := ⟨n - k, by omega⟩
  have e5 : y.2.1.1 c - 1 = nI n := by rw [a2, hn, nI_pred]
  obtain ⟨t1, t2, t3, t4, t5, t6⟩ := M_take_loop (g := g) hc (m := n) (by omega) (nI (64 * c + k)) d (64 * c + k) (d + 1) (y.1, ((upd y.2.1.1 c (nI n)), y.2.1.2.1, y.2.1.2.2.1, y.2.1.2.2.2.1, y.2.1.2.2.2.2), y.2.2.1, y.2.2.2.1, y.2.2.2.2) (by omega) (by omega) hR.1 pk_us
  have ef : mu (nI (64 * c + k)) (((64 : Int32) * nI c) + (y.1, ((upd y.2.1.1 (nI c).toNatClampNeg ((y.2.1.1 (nI c).toNatClampNeg) - (1 : Int32))), y.2.1.2.1, y.2.1.2.2.1, y.2.1.2.2.2.1, y.2.1.2.2.2.2), y.2.2.1, y.2.2.2.1, y.2.2.2.2).2.1.1 (nI c).toNatClampNeg) = d := by
    show mu (nI (64 * c + k)) (((64 : Int32) * nI c) + upd y.2.1.1 (nI c).toNatClampNeg ((y.2.1.1 (nI c).toNatClampNeg) - (1 : Int32)) (nI c).toNatClampNeg) = d
    rw [pk_us, nI_clamp (by omega), e5, e64, nI_add, mu_nI (by omega) (by omega)]
    omega
  have e1 : M_M_takeOut g y (nI c) (nI (64 * c + k)) = L_M_takeOut_12 g (nI c) (nI (64 * c + k)) (d + 1) (nI (64 * c + k)) (y.1, ((upd y.2.1.1 c (nI n)), y.2.1.2.1, y.2.1.2.2.1, y.2.1.2.2.2.1, y.2.1.2.2.2.2), y.2.2.1, y.2.2.2.1, y.2.2.2.2) := by
    unfold M_M_takeOut
    rw [ef, nI_clamp (n := c) (by omega), e5]
  rw [e1]
  have hlen : ((L c).eraseIdx k).length = n := by
    rw [List.length_eraseIdx_of_lt hk]
    omega
  refine ⟨?_, ?_, t2, t3⟩
  · unfold S_M_takeOut
    rw [ef, nI_clamp (n := c) (by omega), e5]
    exact ⟨vp_in_nI hc (by decide), vp_in_nI hc (by decide), t1⟩
  · refine RL_upd hR _ t5 (by omega) (by rw [t4, hlen]; exact pk_us) (fun q hq => by rw [t4]; exact pk_un hq) (fun k2 e2 h2 => ?_) (fun j hj => ?_)
    · have h5 := q_idx h2
      rw [hlen] at h5
      rw [List.getElem?_eraseIdx] at h2
      rw [t6]
      by_cases q : k2 < k
      · rw [if_pos q] at h2
        rw [if_neg (by omega)]
        exact a3 k2 e2 h2
      · rw [if_neg q] at h2
        rw [if_pos (by omega)]
        exact a3 (k2 + 1) e2 h2
    · rw [t6, if_neg (by omega)]
      rfl
theorem M_put_loop {c : Nat} (hc : c < 5) (l b v o : Int32) (hb : b = 0 ∨ b = 1) : ∀ (d fuel : Nat) (z : Ms), d < 64 → d < fuel → w01 z.2.1.2.2.1 →
    S_M_putFirst_13 g (nI c) l b v o fuel (nI (64 * c + d)) z ∧ (L_M_putFirst_13 g (nI c) l b v o fuel (nI (64 * c + d)) z).1 = z.1 ∧ (L_M_putFirst_13 g (nI c) l b v o fuel (nI (64 * c + d)) z).2.2 = z.2.2 ∧ (L_M_putFirst_13 g (nI c) l b v o fuel (nI (64 * c + d)) z).2.1.1 = upd z.2.1.1 c (z.2.1.1 c + 1) ∧ w01 (L_M_putFirst_13 g (nI c) l b v o fuel (nI (64 * c + d)) z).2.1.2.2.1 ∧ ∀ j, EM (L_M_putFirst_13 g (nI c) l b v o fuel (nI (64 * c + d)) z) j = if j = 64 * c then (l, b, v, o) else if 64 * c < j ∧ j ≤ 64 * c + d then EM z (j - 1) else EM z j := by
  intro d
  induction d with
  | zero =>
    intro fuel z hd hf hw
    obtain ⟨n, rfl⟩ : ∃ n, fuel = n + 1 := ⟨fuel - 1, by omega⟩
    have h0 : nI (64 * c + 0) ≤ (64 : Int32) * nI c := by rw [e64]; exact nI_le (by omega) (by omega)
    have h1 := vp_in_nI hc (by decide)
    have h2 : vp_in ((64 : Int32) * nI c) 320 := by rw [e64]; exact vp_in_nI (by omega) (by decide)
    rw [S_M_putFirst_13_eq, L_M_putFirst_13_eq, if_pos h0]
    refine ⟨⟨fun _ => ⟨h1, h1, h2, h2, h2, h2, trivial⟩, fun q => absurd h0 q⟩, rfl, rfl, ?_, ?_, fun j => ?_⟩
    · rw [nI_clamp (by omega)]
    · rw [nar01 hb]
      exact w01_upd hw hb
    · unfold EM
      rw [e64, nI_clamp (by omega), nI_clamp (by omega), nar01 hb]
      unfold upd
      by_cases q : j = 64 * c
      · simp only [if_pos q]
      · simp only [if_neg q]
        rw [if_neg (by omega)]
  | succ d ih =>
    intro fuel z hd hf hw
    obtain ⟨n, rfl⟩ : ∃ n, fuel = n + 1 := ⟨fuel - 1, by omega⟩
    have h0 : ¬ nI (64 * c + (d + 1)) ≤ (64 : Int32) * nI c := by rw [e64]; exact nI_ge (by omega) (by omega)
    obtain ⟨s1, s2, s3, s4, s5, s6⟩ := M_copy (g := g) hw (a := 64 * c + d + 1) (b := 64 * c + d) (by omega) (by omega)
    have e1 : nI (64 * c + (d + 1)) - 1 = nI (64 * c + d) := nI_pred _
    have e2 : nI (64 * c + (d + 1)) + (-1) = nI (64 * c + d) := pk_m1 _
    obtain ⟨t1, t2, t3, t4, t5, t6⟩ := ih n (M_M_copy g z (nI (64 * c + (d + 1))) (nI (64 * c + d))) (by omega) (by omega) s5
    rw [S_M_putFirst_13_eq, L_M_putFirst_13_eq, if_neg h0]
    simp only [bnd]
    rw [e1, e2]
    refine ⟨⟨fun q => absurd q h0, fun _ => ⟨s1, ?_, t1⟩⟩, t2.trans s2, t3.trans s3, ?_, t5, fun j => ?_⟩
    · rw [e64, mu_nI (by omega) (by omega), mu_nI (by omega) (by omega)]
      omega
    · rw [t4]
      rfl
    · rw [t6]
      by_cases q : j = 64 * c
      · rw [if_pos q, if_pos q]
      · rw [if_neg q, if_neg q]
        by_cases h1 : 64 * c < j ∧ j ≤ 64 * c + d
        · rw [if_pos h1, if_pos (by omega)]
          refine (s6 (j - 1)).trans ?_
          rw [if_neg (by omega)]
        · rw [if_neg h1]
          refine (s6 j).trans ?_
          by_cases h2 : j = 64 * c + d + 1
          · rw [if_pos h2, if_pos (by omega), h2]
            rfl
          · rw [if_neg h2, if_neg (by omega)]
theorem M_putFirst (hR : RL y L) {c : Nat} {l b v o : Int32} (hb : b = 0 ∨ b = 1) (hc : c < 5) (hl : (L c).length < 64) :
    S_M_putFirst g y (nI c) l b v o ∧ RL (M_M_putFirst g y (nI c) l b v o) (q_set L c ((l, b, v, o) :: L c)) ∧ (M_M_putFirst g y (nI c) l b v o).1 = y.1 ∧ (M_M_putFirst g y (nI c) l b v o).2.2 = y.2.2 := by
  obtain ⟨a1, a2, a3⟩ := hR.2 c hc
  obtain ⟨t1, t2, t3, t4, t5, t6⟩ := M_put_loop (g := g) hc l b v o hb (L c).length ((L c).length + 1) y hl (by omega) hR.1
  unfold S_M_putFirst M_M_putFirst
  rw [RL_fuel hR hc, RL_end hR hc]
  refine ⟨⟨vp_in_nI hc (by decide), t1⟩, ?_, t2, t3⟩
  refine RL_upd hR _ t5 (by rw [List.length_cons]; omega) (by rw [t4, pk_us, a2, nI_1, List.length_cons]) (fun q hq => by rw [t4, pk_un hq]) (fun k2 e2 h2 => ?_) (fun j hj => ?_)
  · rw [t6]
    have h5 := q_idx h2
    rw [List.length_cons] at h5
    cases k2 with
    | zero =>
      rw [if_pos (Nat.add_zero _)]
      exact Option.some.inj (by simpa using h2)
    | succ k2 =>
      have h2 : (L c)[k2]? = some e2 := by simpa using h2
      rw [if_neg (by omega), if_pos (by omega)]
      exact a3 k2 e2 h2
  · rw [t6, if_neg (by omega), if_neg (by omega)]
theorem M_use (hR : RL y L) {c k : Nat} {e : Ent} (hc : c < 5) (he : (L c)[k]? = some e) :
    S_M_use g y (nI c) (nI (64 * c + k)) ∧ RL (M_M_use g y (nI c) (nI (64 * c + k))) (q_set L c (e :: (L c).eraseIdx k)) ∧ (M_M_use g y (nI c) (nI (64 * c + k))).1 = y.1 ∧ (M_M_use g y (nI c) (nI (64 * c + k))).2.2 = y.2.2 := by
  obtain ⟨b1, b2, b3, b4, b5, b6, b7⟩ := RL_at hR hc he
  obtain ⟨s1, s2, s3, s4⟩ := M_takeOut (g := g) hR hc he
  have hk := q_idx he
  have hle := (hR.2 c hc).1
  obtain ⟨t1, t2, t3, t4⟩ := M_putFirst (g := g) (l := e.1) (v := e.2.2.1) (o := e.2.2.2) s2 b7 hc (by rw [q_set_s, List.length_eraseIdx_of_lt hk]; omega)
  have h1 := vp_in_nI b2 (by decide)
  unfold S_M_use M_M_use
  simp only [bnd]
  rw [nI_clamp (n := 64 * c + k) (by omega), b3, b4, b5, b6]
  refine ⟨⟨h1, h1, h1, h1, s1, t1, trivial⟩, RL_congr (fun q hq => ?_) t2, t3.trans s3, t4.trans s4⟩
  by_cases q2 : q = c
  · subst q2
    rw [q_set_s, q_set_s, q_set_s]
  · rw [q_set_n q2, q_set_n q2, q_set_n q2]
/-- a line's marks change where it stands -/
theorem M_mark (hR : RL y L) {c k : Nat} {e : Ent} (e2 : Ent) (hc : c < 5) (he : (L c)[k]? = some e) (z : Ms) (h1 : z.2.1.1 = y.2.1.1) (h2 : z.2.1.2.1 = y.2.1.2.1) (h3 : z.2.1.2.2.1 = upd y.2.1.2.2.1 (64 * c + k) e2.2.1) (h4 : z.2.1.2.2.2.1 = upd y.2.1.2.2.2.1 (64 * c + k) e2.2.2.1) (h5 : z.2.1.2.2.2.2 = y.2.1.2.2.2.2) (h6 : e2.1 = e.1) (h7 : e2.2.2.2 = e.2.2.2) (h8 : e2.2.1 = 0 ∨ e2.2.1 = 1) : RL z (q_set L c ((L c).set k e2)) := by
  obtain ⟨a1, a2, a3⟩ := hR.2 c hc
  obtain ⟨b1, b2, b3, b4, b5, b6, b7⟩ := RL_at hR hc he
  have hk := q_idx he
  have key : ∀ j, EM z j = if j = 64 * c + k then e2 else EM y j := fun j => by
    unfold EM
    rw [h2, h3, h4, h5]
    by_cases q : j = 64 * c + k
    · rw [q, if_pos rfl, pk_us, pk_us, b3, b6, ← h6, ← h7]
    · rw [if_neg q, pk_un q, pk_un q]
  refine RL_upd hR _ (by rw [h3]; exact w01_upd hR.1 h8) (by rw [List.length_set]; exact a1) (by rw [h1, List.length_set]; exact a2) (fun q hq => by rw [h1]) (fun k2 e3 h => ?_) (fun j hj => ?_)
  · rw [key]
    rw [List.getElem?_set] at h
    by_cases q : k = k2
    · subst q
      rw [if_pos rfl, if_pos hk] at h
      rw [if_pos rfl]
      exact Option.some.inj h
    · rw [if_neg q] at h
      rw [if_neg (by omega)]
      exact a3 k2 e3 h
  · rw [key, if_neg (by omega)]
end RefRows
