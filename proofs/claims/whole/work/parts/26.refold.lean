-- a line's next version; the line used longest ago
section LearnRows
variable {g : GM} {gV : GV} {y : Ms} {V : Vs} {l : Int32}
theorem M_learn (hg : gVl gV) (hR : RV y V) (hI : VI V) (hs : V.2.1.val < 512) : S_M_learn g y l ∧ ∃ (j : Nat) (u : Ms) (W : Vs), j < 512 ∧ M_M_learn g y l = (nI j, u) ∧ u.2.1 = y.2.1 ∧ u.2.2.1 = y.2.2.1 ∧ u.2.2.2.2 = y.2.2.2.2 ∧ u.1.1 = y.1.1 ∧ u.1.2.1 = y.1.2.1 ∧ u.1.2.2.1 = y.1.2.2.1 ∧ u.1.2.2.2.2.2 = y.1.2.2.2.2.2 ∧ RV u W ∧ W.1 = V.1 ∧ W.2.2.2.2 = V.2.2.2.2 ∧ M_V_makeNext gV V l = (W.2.2.2.1 j + 1, (W.1, W.2.1, W.2.2.1, upd W.2.2.2.1 j (W.2.2.2.1 j + 1), W.2.2.2.2)) ∧ VI W ∧ j < W.2.1.val ∧ W.2.2.1 j = l ∧ (∀ l2, knw V l2 → knw W l2) ∧ V.2.1.val ≤ W.2.1.val ∧ W.2.1.val ≤ V.2.1.val + 1 := by
  have hV := V.2.1.isLt
  obtain ⟨h1, h2⟩ := M_find (g := g) (l := l) hg hR
  have h512 : gV.2.1 = 512 := congrArg (fun q : Nat × Nat × Nat => q.1) hg
  have h512b : gV.2.2.1 = 512 := congrArg (fun q : Nat × Nat × Nat => q.2.1) hg
  have nx : ∀ (j : Nat) (W : Vs), j < 512 → L_V_makeNext_45 gV l (nI j) W = (W.2.2.2.1 j + 1, (W.1, W.2.1, W.2.2.1, upd W.2.2.2.1 j (W.2.2.2.1 j + 1), W.2.2.2.2)) := fun j W hj => by
    unfold L_V_makeNext_45
    rw [if_neg (nI_pos (by omega)), h512b, if_pos (nI_lt hj (by omega)), nI_clamp (by omega), pk_us]
  rcases V_idx (V := V) (l := l) hg with ⟨j, a1, a2, a3⟩ | ⟨a1, a3⟩
  · have el : M_M_learn g y l = (nI j, y) := by
      unfold M_M_learn
      rw [bnd_eq (h2.trans a3).symm, if_neg (nI_pos (by omega))]
    have es : S_M_learn g y l := by
      unfold S_M_learn
      rw [bnd_eq (h2.trans a3).symm]
      exact ⟨h1, fun q => absurd q (nI_pos (by omega)), fun _ => trivial⟩
    refine ⟨es, j, y, V, by omega, el, rfl, rfl, rfl, rfl, rfl, rfl, rfl, hR, rfl, rfl, ?_, hI, a1, a2, fun _ h => h, Nat.le_refl _, by omega⟩
    unfold M_V_makeNext
    rw [bnd_eq a3.symm, if_neg (nI_n1 (by omega)), nx j V (by omega)]
  · have ek : y.1.2.2.2.1 = nI V.2.1.val := hR.1
    have el : M_M_learn g y l = (nI V.2.1.val, ((y.1.1, y.1.2.1, y.1.2.2.1, nI (V.2.1.val + 1), y.1.2.2.2.2.1, y.1.2.2.2.2.2), y.2.1, y.2.2.1, ((upd y.2.2.2.1.1 V.2.1.val l), (upd y.2.2.2.1.2.1 V.2.1.val 0), (upd y.2.2.2.1.2.2 V.2.1.val 0)), y.2.2.2.2)) := by
      unfold M_M_learn
      rw [bnd_eq (h2.trans a3).symm, if_pos (by decide), ek, nI_clamp (by omega), nI_1, nI_pred]
    have es : S_M_learn g y l := by
      unfold S_M_learn
      rw [bnd_eq (h2.trans a3).symm, ek]
      have h3 : vp_in (nI V.2.1.val) 600 := vp_in_nI (by omega) (by decide)
      exact ⟨h1, fun _ => ⟨h3, h3, h3, trivial⟩, fun _ => trivial⟩
    have ef : (fsucc V.2.1).val = V.2.1.val + 1 := by
      unfold fsucc
      rw [dif_pos hs]
    have z0 := hI V.2.1.val (Nat.le_refl _)
    have u0 : ∀ (f : Fn) (k : Nat), f k = 0 → upd f k 0 = f := fun f k h => by
      funext j
      unfold upd
      by_cases c : j = k
      · rw [if_pos c, c, h]
      · rw [if_neg c]
    refine ⟨es, V.2.1.val, _, (V.1, fsucc V.2.1, upd V.2.2.1 V.2.1.val l, V.2.2.2.1, V.2.2.2.2), hs, el, rfl, rfl, rfl, rfl, rfl, rfl, rfl, ⟨?_, hR.2.1, ?_⟩, rfl, rfl, ?_, ?_, ?_, pk_us, ?_, ?_, ?_⟩
    · show nI (V.2.1.val + 1) = nI (fsucc V.2.1).val
      rw [ef]
    · show (upd y.2.2.2.1.1 V.2.1.val l, upd y.2.2.2.1.2.1 V.2.1.val 0, upd y.2.2.2.1.2.2 V.2.1.val 0) = (upd V.2.2.1 V.2.1.val l, V.2.2.2.1, V.2.2.2.2)
      rw [hR.2.2]
      show (upd V.2.2.1 V.2.1.val l, upd V.2.2.2.1 V.2.1.val 0, upd V.2.2.2.2 V.2.1.val 0) = _
      rw [u0 _ _ z0.1, u0 _ _ z0.2]
    · unfold M_V_makeNext
      rw [bnd_eq a3.symm, if_pos rfl, h512, if_neg (nI_ge (by omega) (by omega)), nx _ _ hs, nI_clamp (by omega)]
    · intro j hj
      have hj : (fsucc V.2.1).val ≤ j := hj
      exact hI j (by omega)
    · show V.2.1.val < (fsucc V.2.1).val
      omega
    · rintro l2 ⟨j, b1, b2⟩
      refine ⟨j, ?_, ?_⟩
      · show j < (fsucc V.2.1).val
        omega
      · show upd V.2.2.1 V.2.1.val l j = l2
        rw [pk_un (by omega)]
        exact b2
    · show V.2.1.val ≤ (fsucc V.2.1).val
      omega
    · show (fsucc V.2.1).val ≤ V.2.1.val + 1
      omega
end LearnRows
section OldRows
variable {g : GM} {y : Ms} {L : Nat → List Ent} {N S1 S2 : Nat} {kp : Int32}
theorem gM_ss (hg : gM g N kp S1 S2) {c : Nat} (hc : c < 5) : M_M_sets g y (nI c) = nI (q_ss S1 S2 c) ∧ 0 < q_ss S1 S2 c ∧ q_ss S1 S2 c ≤ 16 := by
  obtain ⟨h1, h2, h3, h4, h5, h6, h7, h8, h9, h10⟩ := hg
  unfold M_M_sets q_ss
  have e4 : (4 : Int32) = nI 4 := by decide
  by_cases h : c = 4
  · rw [if_pos h, if_pos (by rw [h]; decide), h4]
    exact ⟨rfl, h9, h10⟩
  · rw [if_neg h, if_neg (fun q => h ((nI_eq (by omega) (by omega)).mp (q.trans e4))), h3]
    exact ⟨rfl, h7, by omega⟩
theorem M_setOf (hg : gM g N kp S1 S2) {c : Nat} (hc : c < 5) (l : Int32) : S_M_setOf g y (nI c) l ∧ M_M_setOf g y (nI c) l = nI (q_st (q_ss S1 S2 c) l) := by
  obtain ⟨h1, h2, h3⟩ := gM_ss (y := y) hg hc
  have hn : ¬ nI (q_ss S1 S2 c) = 0 := nI_ne0 h2 (by omega)
  unfold S_M_setOf M_M_setOf
  simp only [bnd]
  rw [h1, q_modu h2 h3]
  exact ⟨⟨⟨hn, hn, trivial⟩, trivial⟩, rfl⟩
def q_sel (S s : Nat) (b : Int32) (e : Ent) : Bool := decide (q_st S e.1 = s ∧ (b < 0 ∨ e.2.2.2 = b))
theorem M_old_loop (hg : gM g N kp S1 S2) (hR : RL y L) {c s : Nat} (hc : c < 5) (hs : s < 16) (b many : Int32) : ∀ (d k a fuel : Nat) (r : Int32), (L c).length = k + d → d < fuel →
    S_M_oldest_12 g y (nI c) (nI s) b many fuel (nI a) r (nI (64 * c + k)) ∧ ∃ r2, L_M_oldest_12 g y (nI c) (nI s) b many fuel (nI a) r (nI (64 * c + k)) = (if many ≤ nI (a + (((L c).drop k).filter (q_sel (q_ss S1 S2 c) s b)).length) then r2 else -1) ∧ ((((L c).drop k).filter (q_sel (q_ss S1 S2 c) s b) = [] ∧ r2 = r) ∨ ∃ k2 e, (L c)[k2]? = some e ∧ (((L c).drop k).filter (q_sel (q_ss S1 S2 c) s b)).getLast? = some e ∧ r2 = nI (64 * c + k2)) := by
  have hle := (hR.2 c hc).1
  intro d
  induction d with
  | zero =>
    intro k a fuel r hk hf
    obtain ⟨n, rfl⟩ : ∃ n, fuel = n + 1 := ⟨fuel - 1, by omega⟩
    have hb : ((64 : Int32) * nI c) + y.2.1.1 (nI c).toNatClampNeg ≤ nI (64 * c + k) := by rw [RL_end hR hc]; exact nI_le (by omega) (by omega)
    rw [S_M_oldest_12_eq, L_M_oldest_12_eq, if_pos hb, List.drop_eq_nil_of_le (by omega)]
    exact ⟨⟨vp_in_nI hc (by decide), fun _ => ⟨fun _ => trivial, fun _ => trivial⟩, fun q => absurd hb q⟩, r, rfl, Or.inl ⟨rfl, rfl⟩⟩
  | succ d ih =>
    intro k a fuel r hk hf
    obtain ⟨n, rfl⟩ : ∃ n, fuel = n + 1 := ⟨fuel - 1, by omega⟩
    obtain ⟨e, he⟩ := q_get (L := L c) (k := k) (by omega)
    obtain ⟨b1, b2, b3, -, -, b6, -⟩ := RL_at hR hc he
    have hb : ¬ ((64 : Int32) * nI c) + y.2.1.1 (nI c).toNatClampNeg ≤ nI (64 * c + k) := by rw [RL_end hR hc]; exact nI_ge (by omega) (by omega)
    have hmu : mu (nI (64 * c + (k + 1))) (((64 : Int32) * nI c) + y.2.1.1 (nI c).toNatClampNeg) < mu (nI (64 * c + k)) (((64 : Int32) * nI c) + y.2.1.1 (nI c).toNatClampNeg) := by
      have h := mu_dec hb
      rwa [nI_1] at h
    obtain ⟨w1, w2⟩ := M_setOf (y := y) hg hc e.1
    have hq := q_st_lt (gM_ss (y := y) hg hc).2.1 e.1
    have hq2 := (gM_ss (y := y) hg hc).2.2
    have hin : vp_in (nI (64 * c + k)) 320 := vp_in_nI b2 (by decide)
    rw [S_M_oldest_12_eq, L_M_oldest_12_eq, if_neg hb]
    simp only [bnd]
    rw [nI_clamp (n := 64 * c + k) (by omega), b3, w2, b6, nI_1, nI_1, q_drop_cons he, List.filter_cons]
    have e9 : 64 * c + k + 1 = 64 * c + (k + 1) := by omega
    rw [e9]
    obtain ⟨i1, r2, i2, i3⟩ := ih (k + 1) (a + 1) n (nI (64 * c + k)) (by omega) (by omega)
    obtain ⟨j1, r3, j2, j3⟩ := ih (k + 1) a n r (by omega) (by omega)
    refine ⟨⟨vp_in_nI hc (by decide), fun q => absurd q hb, fun _ => ⟨hin, w1, fun _ => ⟨fun _ => ⟨hmu, i1⟩, fun _ => ⟨hin, fun _ => ⟨hmu, i1⟩, fun _ => ⟨hmu, j1⟩⟩⟩, fun _ => ⟨hmu, j1⟩⟩⟩, ?_⟩
    have take : q_sel (q_ss S1 S2 c) s b e = true → ∃ r4, L_M_oldest_12 g y (nI c) (nI s) b many n (nI (a + 1)) (nI (64 * c + k)) (nI (64 * c + (k + 1))) = (if many ≤ nI (a + (e :: ((L c).drop (k + 1)).filter (q_sel (q_ss S1 S2 c) s b)).length) then r4 else -1) ∧ (((e :: ((L c).drop (k + 1)).filter (q_sel (q_ss S1 S2 c) s b)) = [] ∧ r4 = r) ∨ ∃ k2 e2, (L c)[k2]? = some e2 ∧ (e :: ((L c).drop (k + 1)).filter (q_sel (q_ss S1 S2 c) s b)).getLast? = some e2 ∧ r4 = nI (64 * c + k2)) := by
      intro hsel
      refine ⟨r2, ?_, ?_⟩
      · rw [i2, List.length_cons]
        have e8 : a + 1 + (((L c).drop (k + 1)).filter (q_sel (q_ss S1 S2 c) s b)).length = a + ((((L c).drop (k + 1)).filter (q_sel (q_ss S1 S2 c) s b)).length + 1) := by omega
        rw [e8]
      · refine Or.inr ?_
        rcases i3 with ⟨c1, c2⟩ | ⟨k2, e2, c1, c2, c3⟩
        · exact ⟨k, e, he, by rw [c1]; rfl, c2⟩
        · refine ⟨k2, e2, c1, ?_, c3⟩
          rw [List.getLast?_cons, c2]
          rfl
    by_cases h1 : q_st (q_ss S1 S2 c) e.1 = s
    · rw [if_pos (by rw [h1])]
      by_cases h2 : b < 0
      · have hsel : q_sel (q_ss S1 S2 c) s b e = true := decide_eq_true ⟨h1, Or.inl h2⟩
        rw [if_pos h2, if_pos hsel]
        exact take hsel
      · rw [if_neg h2]
        by_cases h3 : e.2.2.2 = b
        · have hsel : q_sel (q_ss S1 S2 c) s b e = true := decide_eq_true ⟨h1, Or.inr h3⟩
          rw [if_pos h3, if_pos hsel]
          exact take hsel
        · have hsel : ¬ q_sel (q_ss S1 S2 c) s b e = true := fun q => (of_decide_eq_true q).2.elim h2 h3
          rw [if_neg h3, if_neg hsel]
          exact ⟨r3, j2, j3⟩
    · have hsel : ¬ q_sel (q_ss S1 S2 c) s b e = true := fun q => h1 (of_decide_eq_true q).1
      rw [if_neg (fun q => h1 ((nI_eq (by omega) (by omega)).mp q)), if_neg hsel]
      exact ⟨r3, j2, j3⟩
theorem M_oldest (hg : gM g N kp S1 S2) (hR : RL y L) {c s : Nat} (hc : c < 5) (hs : s < 16) (b many : Int32) :
    S_M_oldest g y (nI c) (nI s) b many ∧ ((¬ many ≤ nI ((L c).filter (q_sel (q_ss S1 S2 c) s b)).length ∧ M_M_oldest g y (nI c) (nI s) b many = -1) ∨ (many ≤ nI ((L c).filter (q_sel (q_ss S1 S2 c) s b)).length ∧ (((L c).filter (q_sel (q_ss S1 S2 c) s b) = [] ∧ M_M_oldest g y (nI c) (nI s) b many = -1) ∨ ∃ k e, (L c)[k]? = some e ∧ ((L c).filter (q_sel (q_ss S1 S2 c) s b)).getLast? = some e ∧ M_M_oldest g y (nI c) (nI s) b many = nI (64 * c + k)))) := by
  have hle := (hR.2 c hc).1
  obtain ⟨h1, r2, h2, h3⟩ := M_old_loop (g := g) hg hR hc hs b many (L c).length 0 0 ((L c).length + 1) (-1) (by omega) (by omega)
  unfold S_M_oldest M_M_oldest
  rw [RL_fuel hR hc, e64]
  rw [nI_0] at h1 h2
  rw [List.drop_zero, Nat.zero_add] at h2
  rw [List.drop_zero] at h3
  refine ⟨h1, ?_⟩
  have e0 : 64 * c + 0 = 64 * c := rfl
  rw [e0] at h2
  rw [h2]
  by_cases hm : many ≤ nI ((L c).filter (q_sel (q_ss S1 S2 c) s b)).length
  · rw [if_pos hm]
    refine Or.inr ⟨hm, ?_⟩
    rcases h3 with ⟨c1, c2⟩ | ⟨k, e, c1, c2, c3⟩
    · exact Or.inl ⟨c1, c2⟩
    · exact Or.inr ⟨k, e, c1, c2, c3⟩
  · rw [if_neg hm]
    exact Or.inl ⟨hm, rfl⟩
end OldRows
