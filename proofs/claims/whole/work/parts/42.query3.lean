section Query3
variable {n : Nat} {g : GC} {gm : GM} {x : Cs} {y : Ms} {P : Pm} {A : Ab} {thr : Int32} {c : Nat} {l : Int32}
theorem M_line_loop (hP : okP P) (hA : AI P A) (hR : RM gm y P A thr) (hc : c < 5) {s : Nat} (hs : s < 16) (p0 p2 : Int32) : ∀ (d j a fuel : Nat), (A.1 c).length = j + d → a ≤ j → d < fuel →
    S_M_line_46 gm p0 (nI s) p2 fuel (nI c) (nI a) (nI (64 * c + j)) y ∧ ((∃ i e, (q_pl (q_ss P.1.2.1 P.1.2.2 c) ((A.1 c).drop j) s)[i]? = some e ∧ p2 = nI (a + i) ∧ L_M_line_46 gm p0 (nI s) p2 fuel (nI c) (nI a) (nI (64 * c + j)) y = (e.1, y)) ∨ ((∀ i, i < (q_pl (q_ss P.1.2.1 P.1.2.2 c) ((A.1 c).drop j) s).length → ¬ p2 = nI (a + i)) ∧ L_M_line_46 gm p0 (nI s) p2 fuel (nI c) (nI a) (nI (64 * c + j)) y = (0, ((1, y.1.2.1, y.1.2.2.1, y.1.2.2.2.1, y.1.2.2.2.2.1, y.1.2.2.2.2.2), y.2.1, y.2.2.1, y.2.2.2.1, y.2.2.2.2)))) := by
  have hle := AI_len hP hA hc
  intro d
  induction d with
  | zero =>
    intro j a fuel hj ha hf
    obtain ⟨m, rfl⟩ : ∃ m, fuel = m + 1 := ⟨fuel - 1, by omega⟩
    have hb : ((64 : Int32) * nI c) + y.2.1.1 (nI c).toNatClampNeg ≤ nI (64 * c + j) := by rw [RL_end hR.2.1 hc]; exact nI_le (by omega) (by omega)
    rw [S_M_line_46_eq, L_M_line_46_eq, if_pos hb, List.drop_eq_nil_of_le (by omega)]
    refine ⟨⟨vp_in_nI hc (by decide), fun _ => trivial, fun q => absurd hb q⟩, Or.inr ⟨fun i hi => absurd hi (Nat.not_lt_zero _), rfl⟩⟩
  | succ d ih =>
    intro j a fuel hj ha hf
    obtain ⟨m, rfl⟩ : ∃ m, fuel = m + 1 := ⟨fuel - 1, by omega⟩
    obtain ⟨e, he⟩ := q_get (L := A.1 c) (k := j) (by omega)
    obtain ⟨b1, b2, b3, -, -, -, -⟩ := RL_at hR.2.1 hc he
    have hb : ¬ ((64 : Int32) * nI c) + y.2.1.1 (nI c).toNatClampNeg ≤ nI (64 * c + j) := by rw [RL_end hR.2.1 hc]; exact nI_ge (by omega) (by omega)
    have hmu : mu (nI (64 * c + (j + 1))) (((64 : Int32) * nI c) + y.2.1.1 (nI c).toNatClampNeg) < mu (nI (64 * c + j)) (((64 : Int32) * nI c) + y.2.1.1 (nI c).toNatClampNeg) := by
      have h := mu_dec hb
      rwa [nI_1] at h
    have e9 : 64 * c + j + 1 = 64 * c + (j + 1) := by omega
    have hin : vp_in (nI (64 * c + j)) 320 := vp_in_nI b2 (by decide)
    obtain ⟨w1, w2⟩ := M_setOf (y := y) hR.1 hc e.1
    have hq := q_st_lt (gM_ss (y := y) hR.1 hc).2.1 e.1
    have hq2 := (gM_ss (y := y) hR.1 hc).2.2
    obtain ⟨i1, i2⟩ := ih (j + 1) (a + 1) m (by omega) (by omega) (by omega)
    obtain ⟨k1, k2⟩ := ih (j + 1) a m (by omega) (by omega) (by omega)
    rw [S_M_line_46_eq, L_M_line_46_eq, if_neg hb, nI_clamp (n := 64 * c + j) (by omega), b3, bnd_eq w2.symm, bnd_eq w2.symm, nI_1 a, nI_1 (64 * c + j), e9, q_drop_cons he, q_pl_cons]
    refine ⟨⟨vp_in_nI hc (by decide), fun q => absurd q hb, fun _ => ⟨hin, w1, fun _ => ⟨fun _ => ⟨hin, trivial⟩, fun _ => ⟨hmu, i1⟩⟩, fun _ => ⟨hmu, k1⟩⟩⟩, ?_⟩
    by_cases h1 : q_st (q_ss P.1.2.1 P.1.2.2 c) e.1 = s
    · have h1n : nI (q_st (q_ss P.1.2.1 P.1.2.2 c) e.1) = nI s := by rw [h1]
      rw [if_pos h1n, if_pos h1]
      by_cases h2 : nI a = p2
      · rw [if_pos h2]
        exact Or.inl ⟨0, e, rfl, h2.symm, rfl⟩
      · rw [if_neg h2]
        rcases i2 with ⟨i, e2, c1, c2, c3⟩ | ⟨c1, c2⟩
        · refine Or.inl ⟨i + 1, e2, c1, ?_, c3⟩
          rw [c2]
          exact congrArg nI (by omega)
        · refine Or.inr ⟨fun i hi => ?_, c2⟩
          rw [List.length_cons] at hi
          cases i with
          | zero => exact fun q => h2 q.symm
          | succ i =>
            have h3 := c1 i (by omega)
            have e8 : a + (i + 1) = a + 1 + i := by omega
            rw [e8]
            exact h3
    · rw [if_neg (fun q => h1 ((nI_eq (by omega) (by omega)).mp q)), if_neg h1]
      exact k2
theorem M_line0 (hP : okP P) (hA : AI P A) (hR : RM gm y P A thr) (hc : c < 5) {s : Nat} (hs : s < 16) (p0 p2 : Int32) :
    S_M_line_46 gm p0 (nI s) p2 ((A.1 c).length + 1) (nI c) 0 (nI (64 * c)) y ∧ ((∃ i e, (q_pl (q_ss P.1.2.1 P.1.2.2 c) (A.1 c) s)[i]? = some e ∧ p2 = nI i ∧ L_M_line_46 gm p0 (nI s) p2 ((A.1 c).length + 1) (nI c) 0 (nI (64 * c)) y = (e.1, y)) ∨ ((p2 < 0 ∨ ¬ p2 < nI (q_pl (q_ss P.1.2.1 P.1.2.2 c) (A.1 c) s).length) ∧ L_M_line_46 gm p0 (nI s) p2 ((A.1 c).length + 1) (nI c) 0 (nI (64 * c)) y = (0, ((1, y.1.2.1, y.1.2.2.1, y.1.2.2.2.1, y.1.2.2.2.2.1, y.1.2.2.2.2.2), y.2.1, y.2.2.1, y.2.2.2.1, y.2.2.2.2)))) := by
  have hle := AI_len hP hA hc
  obtain ⟨h1, h2⟩ := M_line_loop hP hA hR hc hs p0 p2 (A.1 c).length 0 0 ((A.1 c).length + 1) (by omega) (by omega) (by omega)
  rw [nI_0] at h1 h2
  rw [List.drop_zero] at h2
  refine ⟨h1, ?_⟩
  rcases h2 with ⟨i, e, c1, c2, c3⟩ | ⟨c1, c2⟩
  · exact Or.inl ⟨i, e, c1, by rw [c2, Nat.zero_add], c3⟩
  · refine Or.inr ⟨?_, c2⟩
    by_cases q : p2 < 0
    · exact Or.inl q
    · refine Or.inr (fun q2 => ?_)
      obtain ⟨j, hj, rfl⟩ := nI_of q
      have hl : (q_pl (q_ss P.1.2.1 P.1.2.2 c) (A.1 c) s).length ≤ (A.1 c).length := List.length_filter_le _ _
      have h3 := (nI_ltI hj (by omega)).mp q2
      exact c1 j h3 (by rw [Nat.zero_add])
theorem RB_line {g : GB} {x : Bk} {G S w : Nat} {Lf : Nat → List Ent} (hB : RB g x G S w Lf) (hc : c < G) {s : Nat} (hs : s < S) {k : Nat} {e : Ent} (he : (q_pl S (Lf c) s)[k]? = some e) : M_B_lineAt g x (((nI c * g.2.1.1 + nI s) * g.2.1.2) + nI k) = e.1 := by
  obtain ⟨b1, b2, b3, -⟩ := RP_at hB.2 (q_pos hc hs) (k := k) (e := e) (by rw [q_pp_at hs]; exact he)
  rw [hB.1.1, pk_mul, nI_add, B_slot hB.1, B_lineAt hB.1 b2, b3]
theorem RB_sz {g : GB} {x : Bk} {G S w : Nat} {Lf : Nat → List Ent} (hB : RB g x G S w Lf) (hc : c < G) {s : Nat} (hs : s < S) : M_B_size g x (nI c * g.2.1.1 + nI s) = nI (q_pl S (Lf c) s).length := by
  rw [hB.1.1, pk_mul, nI_add]
  exact RB_size hB hc hs
theorem I_line (hI : INV n g gm x y) (p0 p1 p2 : Int32) : S_M_line gm y p0 p1 p2 ∧ (
    (((p0 < 0 ∨ ¬ p0 < g.2.1.1) ∧ ¬ p0 = -1) ∧ (M_M_line gm y p0 p1 p2).2.1.1 = 1 ∧ INV n g gm x (M_M_line gm y p0 p1 p2).2) ∨
    ((p0 = -1 ∧ (p1 < 0 ∨ ¬ p1 < g.2.2.2.2.1.2.1.1)) ∧ (M_M_line gm y p0 p1 p2).2.1.1 = 1 ∧ INV n g gm x (M_M_line gm y p0 p1 p2).2) ∨
    ((p0 = -1 ∧ ¬ p1 < 0 ∧ p1 < g.2.2.2.2.1.2.1.1 ∧ (p2 < 0 ∨ ¬ p2 < M_B_size g.2.2.2.2.1 x.2.2.1 ((M_C_groupOf p0 * g.2.2.2.2.1.2.1.1) + p1))) ∧ (M_M_line gm y p0 p1 p2).2.1.1 = 1 ∧ INV n g gm x (M_M_line gm y p0 p1 p2).2) ∨
    ((p0 = -1 ∧ ¬ p1 < 0 ∧ p1 < g.2.2.2.2.1.2.1.1 ∧ ¬ p2 < 0 ∧ p2 < M_B_size g.2.2.2.2.1 x.2.2.1 ((M_C_groupOf p0 * g.2.2.2.2.1.2.1.1) + p1)) ∧ (M_M_line gm y p0 p1 p2).2.1.1 = 0 ∧ M_C_line_n g x p0 p1 p2 = (M_M_line gm y p0 p1 p2).1 ∧ INV n g gm x (M_M_line gm y p0 p1 p2).2) ∨
    ((¬ p0 < 0 ∧ p0 < g.2.1.1 ∧ ¬ p0 = -1 ∧ (p1 < 0 ∨ ¬ p1 < g.2.2.2.1.2.1.1)) ∧ (M_M_line gm y p0 p1 p2).2.1.1 = 1 ∧ INV n g gm x (M_M_line gm y p0 p1 p2).2) ∨
    ((¬ p0 < 0 ∧ p0 < g.2.1.1 ∧ ¬ p0 = -1 ∧ ¬ p1 < 0 ∧ p1 < g.2.2.2.1.2.1.1 ∧ (p2 < 0 ∨ ¬ p2 < M_B_size g.2.2.2.1 x.2.1 ((M_C_groupOf p0 * g.2.2.2.1.2.1.1) + p1))) ∧ (M_M_line gm y p0 p1 p2).2.1.1 = 1 ∧ INV n g gm x (M_M_line gm y p0 p1 p2).2) ∨
    ((¬ p0 < 0 ∧ p0 < g.2.1.1 ∧ ¬ p0 = -1 ∧ ¬ p1 < 0 ∧ p1 < g.2.2.2.1.2.1.1 ∧ ¬ p2 < 0 ∧ p2 < M_B_size g.2.2.2.1 x.2.1 ((M_C_groupOf p0 * g.2.2.2.1.2.1.1) + p1)) ∧ (M_M_line gm y p0 p1 p2).2.1.1 = 0 ∧ M_C_line_c g x p0 p1 p2 = (M_M_line gm y p0 p1 p2).1 ∧ INV n g gm x (M_M_line gm y p0 p1 p2).2)) := by
  obtain ⟨P, A, thr, hP, hA, hC, hM, hs⟩ := hI
  have h4 := hP.1.2
  have hM0 := M_thr hM 0
  have inv1 : INV n g gm x ((1, y.1.2.1, y.1.2.2.1, y.1.2.2.2.1, y.1.2.2.2.2.1, y.1.2.2.2.2.2), y.2.1, y.2.2.1, y.2.2.2.1, y.2.2.2.2) := ⟨P, A, 1, hP, hA, hC, M_thr hM 1, hs⟩
  have inv0 : INV n g gm x ((0, y.1.2.1, y.1.2.2.1, y.1.2.2.2.1, y.1.2.2.2.2.1, y.1.2.2.2.2.2), y.2.1, y.2.2.1, y.2.2.2.1, y.2.2.2.2) := ⟨P, A, 0, hP, hA, hC, hM0, hs⟩
  -- the part that both kinds of cache share
  have common : ∀ (c : Nat) (q : Int32), c < 5 → M_M_cacheOf gm y p0 = (nI c, ((0, y.1.2.1, y.1.2.2.1, y.1.2.2.2.1, y.1.2.2.2.2.1, y.1.2.2.2.2.2), y.2.1, y.2.2.1, y.2.2.2.1, y.2.2.2.2)) → S_M_line gm y p0 p1 p2 ∧ (((p1 < 0 ∨ ¬ p1 < nI (q_ss P.1.2.1 P.1.2.2 c)) ∧ M_M_line gm y p0 p1 p2 = (0, ((1, y.1.2.1, y.1.2.2.1, y.1.2.2.2.1, y.1.2.2.2.2.1, y.1.2.2.2.2.2), y.2.1, y.2.2.1, y.2.2.2.1, y.2.2.2.2))) ∨ ∃ s, s < q_ss P.1.2.1 P.1.2.2 c ∧ p1 = nI s ∧ ((∃ i e, (q_pl (q_ss P.1.2.1 P.1.2.2 c) (A.1 c) s)[i]? = some e ∧ p2 = nI i ∧ M_M_line gm y p0 p1 p2 = (e.1, ((0, y.1.2.1, y.1.2.2.1, y.1.2.2.2.1, y.1.2.2.2.2.1, y.1.2.2.2.2.2), y.2.1, y.2.2.1, y.2.2.2.1, y.2.2.2.2))) ∨ ((p2 < 0 ∨ ¬ p2 < nI (q_pl (q_ss P.1.2.1 P.1.2.2 c) (A.1 c) s).length) ∧ M_M_line gm y p0 p1 p2 = (0, ((1, y.1.2.1, y.1.2.2.1, y.1.2.2.2.1, y.1.2.2.2.2.1, y.1.2.2.2.2.2), y.2.1, y.2.2.1, y.2.2.2.1, y.2.2.2.2))))) := fun c q hc5 ec => by
    obtain ⟨s1, s2, s3⟩ := gM_ss (y := ((0, y.1.2.1, y.1.2.2.1, y.1.2.2.2.1, y.1.2.2.2.2.1, y.1.2.2.2.2.2), y.2.1, y.2.2.1, y.2.2.2.1, y.2.2.2.2)) hM.1 hc5
    have hn : (0 : Int32) ≤ nI c := nI_pos' (by omega)
    have hw := M_within (p := p1) s2 (by omega)
    by_cases hset : ¬ p1 < 0 ∧ p1 < nI (q_ss P.1.2.1 P.1.2.2 c)
    · rw [if_pos hset] at hw
      obtain ⟨s, hs9, rfl⟩ := nI_of hset.1
      have hsl := (nI_ltI hs9 (by omega)).mp hset.2
      obtain ⟨k1, k2⟩ := M_line0 hP hA hM0 hc5 (s := s) (by omega) p0 p2
      have em : M_M_line gm y p0 (nI s) p2 = L_M_line_46 gm p0 (nI s) p2 ((A.1 c).length + 1) (nI c) 0 (nI (64 * c)) ((0, y.1.2.1, y.1.2.2.1, y.1.2.2.2.1, y.1.2.2.2.2.1, y.1.2.2.2.2.2), y.2.1, y.2.2.1, y.2.2.2.1, y.2.2.2.2) := by
        unfold M_M_line
        rw [bnd2_eq ec.symm, if_pos hn, bnd_eq s1.symm, bnd_eq hw.symm, if_neg i10, RL_fuel hM0.2.1 hc5, e64]
      have es : S_M_line gm y p0 (nI s) p2 := by
        unfold S_M_line
        rw [bnd2_eq ec.symm, bnd_eq s1.symm, bnd_eq hw.symm, RL_fuel hM0.2.1 hc5, e64]
        exact ⟨fun _ => ⟨fun q => absurd q i10, fun _ => k1⟩, fun q => absurd hn q⟩
      rw [em]
      exact ⟨es, Or.inr ⟨s, hsl, rfl, k2⟩⟩
    · rw [if_neg hset] at hw
      have em : M_M_line gm y p0 p1 p2 = (0, ((1, y.1.2.1, y.1.2.2.1, y.1.2.2.2.1, y.1.2.2.2.2.1, y.1.2.2.2.2.2), y.2.1, y.2.2.1, y.2.2.2.1, y.2.2.2.2)) := by
        unfold M_M_line
        rw [bnd2_eq ec.symm, if_pos hn, bnd_eq s1.symm, bnd_eq hw.symm, if_pos rfl]
        rfl
      have es : S_M_line gm y p0 p1 p2 := by
        unfold S_M_line
        rw [bnd2_eq ec.symm, bnd_eq s1.symm, bnd_eq hw.symm]
        exact ⟨fun _ => ⟨fun _ => trivial, fun q => absurd rfl q⟩, fun q => absurd hn q⟩
      refine ⟨es, Or.inl ⟨?_, em⟩⟩
      by_cases q : p1 < 0
      · exact Or.inl q
      · exact Or.inr (fun q2 => hset ⟨q, q2⟩)
  by_cases hq : p0 = -1
  · obtain ⟨es, cs⟩ := common 4 0 (by omega) (by rw [hq]; exact M_cacheOf_n)
    have ess : q_ss P.1.2.1 P.1.2.2 4 = P.1.2.2 := rfl
    rw [ess] at cs
    have eg : M_C_groupOf p0 = nI 0 := by rw [hq]; decide
    have egs : g.2.2.2.2.1.2.1.1 = nI P.1.2.2 := hC.2.2.1.1.1
    refine ⟨es, ?_⟩
    rcases cs with ⟨b1, b2⟩ | ⟨s, b1, rfl, b3⟩
    · rw [b2]
      exact Or.inr (Or.inl ⟨⟨hq, by rw [egs]; exact b1⟩, rfl, inv1⟩)
    · have p3 := hP.2.2.1
      have hs0 : ¬ nI s < 0 := nI_pos (by omega)
      have hs1 : nI s < g.2.2.2.2.1.2.1.1 := by rw [egs]; exact nI_lt b1 (by omega)
      have esz := RB_sz (c := 0) hC.2.2.1 (by omega) b1
      have hle := RB_le (c := 0) hC.2.2.1 (by omega) b1
      rcases b3 with ⟨i, e, d1, rfl, d3⟩ | ⟨d1, d2⟩
      · have hi := q_idx d1
        have hle : (q_pl P.1.2.2 (A.1 4) s).length ≤ 4 := hle
        rw [d3]
        refine Or.inr (Or.inr (Or.inr (Or.inl ⟨⟨hq, hs0, hs1, nI_pos (by omega), ?_⟩, rfl, ?_, inv0⟩)))
        · rw [eg, esz]
          exact nI_lt hi (by show (q_pl P.1.2.2 (A.1 4) s).length < _; omega)
        · unfold M_C_line_n
          rw [bnd_eq eg.symm, bnd_eq rfl, bnd_eq rfl]
          exact RB_line (c := 0) hC.2.2.1 (by omega) b1 d1
      · rw [d2]
        refine Or.inr (Or.inr (Or.inl ⟨⟨hq, hs0, hs1, ?_⟩, rfl, inv1⟩))
        rw [eg, esz]
        exact d1
  · by_cases hc : ¬ p0 < 0 ∧ p0 < nI P.1.1
    · obtain ⟨c1, c2, c, c3, rfl⟩ := core_ok hP hC hc
      obtain ⟨es, cs⟩ := common c 0 (by omega) (M_cacheOf_c hP hM c3)
      have ess : q_ss P.1.2.1 P.1.2.2 c = P.1.2.1 := if_neg (by omega)
      rw [ess] at cs
      have eg : M_C_groupOf (nI c) = nI c := by
        unfold M_C_groupOf
        rw [if_neg hq]
      have egs : g.2.2.2.1.2.1.1 = nI P.1.2.1 := hC.2.1.1.1
      refine ⟨es, Or.inr (Or.inr (Or.inr (Or.inr ?_)))⟩
      rcases cs with ⟨b1, b2⟩ | ⟨s, b1, rfl, b3⟩
      · rw [b2]
        exact Or.inl ⟨⟨c1, c2, hq, by rw [egs]; exact b1⟩, rfl, inv1⟩
      · have p3 := hP.2.1
        have hs0 : ¬ nI s < 0 := nI_pos (by omega)
        have hs1 : nI s < g.2.2.2.1.2.1.1 := by rw [egs]; exact nI_lt b1 (by omega)
        have esz := RB_sz hC.2.1 c3 b1
        have hle := RB_le hC.2.1 c3 b1
        rcases b3 with ⟨i, e, d1, rfl, d3⟩ | ⟨d1, d2⟩
        · have hi := q_idx d1
          rw [d3]
          refine Or.inr (Or.inr ⟨⟨c1, c2, hq, hs0, hs1, nI_pos (by omega), ?_⟩, rfl, ?_, inv0⟩)
          · rw [eg, esz]
            exact nI_lt hi (by omega)
          · unfold M_C_line_c
            rw [bnd_eq eg.symm, bnd_eq rfl, bnd_eq rfl]
            exact RB_line hC.2.1 c3 b1 d1
        · rw [d2]
          refine Or.inr (Or.inl ⟨⟨c1, c2, hq, hs0, hs1, ?_⟩, rfl, inv1⟩)
          rw [eg, esz]
          exact d1
    · have ec := M_cacheOf_x hP hM hc hq
      have hn : ¬ (0 : Int32) ≤ -2 := by decide
      have em : M_M_line gm y p0 p1 p2 = (0, ((1, y.1.2.1, y.1.2.2.1, y.1.2.2.2.1, y.1.2.2.2.2.1, y.1.2.2.2.2.2), y.2.1, y.2.2.1, y.2.2.2.1, y.2.2.2.2)) := by
        unfold M_M_line
        rw [bnd2_eq ec.symm, if_neg hn]
      have es : S_M_line gm y p0 p1 p2 := by
        unfold S_M_line
        rw [bnd2_eq ec.symm]
        exact ⟨fun q => absurd q hn, fun _ => trivial⟩
      rw [em]
      exact ⟨es, Or.inl ⟨⟨core_bad hP hC hc, hq⟩, rfl, inv1⟩⟩
theorem M_core_loop (hP : okP P) (hA : AI P A) (hR : RM gm y P A thr) (o p1 : Int32) : ∀ (d k a fuel : Nat), (A.1 4).length = k + d → d < fuel →
    S_M_core_51 gm o p1 fuel (nI a) (nI (64 * 4 + k)) y ∧ L_M_core_51 gm o p1 fuel (nI a) (nI (64 * 4 + k)) y = (nI (a + (((A.1 4).drop k).filter (q_own o)).length), y) := by
  have hle := AI_len hP hA (c := 4) (by omega)
  have e4 : nI 4 = (4 : Int32) := by decide
  have e256 : (64 : Int32) * 4 = 256 := by decide
  have hin4 : vp_in (4 : Int32) 5 := by rw [← e4]; exact vp_in_nI (by omega) (by decide)
  have hend := RL_end hR.2.1 (c := 4) (by omega)
  rw [e4, e256] at hend
  intro d
  induction d with
  | zero =>
    intro k a fuel hk hf
    obtain ⟨m, rfl⟩ : ∃ m, fuel = m + 1 := ⟨fuel - 1, by omega⟩
    have hb : (256 : Int32) + y.2.1.1 (4 : Int32).toNatClampNeg ≤ nI (64 * 4 + k) := by rw [hend]; exact nI_le (by omega) (by omega)
    rw [S_M_core_51_eq, L_M_core_51_eq, if_pos hb, List.drop_eq_nil_of_le (by omega)]
    exact ⟨⟨hin4, fun _ => trivial, fun q => absurd hb q⟩, rfl⟩
  | succ d ih =>
    intro k a fuel hk hf
    obtain ⟨m, rfl⟩ : ∃ m, fuel = m + 1 := ⟨fuel - 1, by omega⟩
    obtain ⟨e, he⟩ := q_get (L := A.1 4) (k := k) (by omega)
    obtain ⟨b1, b2, b3, -, -, b6, -⟩ := RL_at hR.2.1 (by omega) he
    have hb : ¬ (256 : Int32) + y.2.1.1 (4 : Int32).toNatClampNeg ≤ nI (64 * 4 + k) := by rw [hend]; exact nI_ge (by omega) (by omega)
    have hmu : mu (nI (64 * 4 + (k + 1))) ((256 : Int32) + y.2.1.1 (4 : Int32).toNatClampNeg) < mu (nI (64 * 4 + k)) ((256 : Int32) + y.2.1.1 (4 : Int32).toNatClampNeg) := by
      have h := mu_dec hb
      rwa [nI_1] at h
    have e9 : 64 * 4 + k + 1 = 64 * 4 + (k + 1) := by omega
    obtain ⟨i1, i2⟩ := ih (k + 1) (a + 1) m (by omega) (by omega)
    obtain ⟨j1, j2⟩ := ih (k + 1) a m (by omega) (by omega)
    rw [S_M_core_51_eq, L_M_core_51_eq, if_neg hb, nI_clamp (n := 64 * 4 + k) (by omega), b6, nI_1 a, nI_1 (64 * 4 + k), e9, Int32.add_zero, q_drop_cons he, List.filter_cons]
    refine ⟨⟨hin4, fun q => absurd q hb, fun _ => ⟨vp_in_nI b2 (by decide), fun _ => ⟨hmu, i1⟩, fun _ => ⟨hmu, j1⟩⟩⟩, ?_⟩
    by_cases q : e.2.2.2 = o
    · have q2 : q_own o e = true := decide_eq_true q
      rw [if_pos q, if_pos q2, i2, List.length_cons]
      have e8 : a + 1 + (((A.1 4).drop (k + 1)).filter (q_own o)).length = a + ((((A.1 4).drop (k + 1)).filter (q_own o)).length + 1) := by omega
      rw [e8]
    · have q2 : ¬ q_own o e = true := fun h => q (of_decide_eq_true h)
      rw [if_neg q, if_neg q2]
      exact j2
theorem I_core (hI : INV n g gm x y) (p0 p1 : Int32) : S_M_core gm y p0 p1 ∧ (((p0 < 0 ∨ ¬ p0 < g.2.1.1) ∧ (M_M_core gm y p0 p1).2.1.1 = 1 ∧ INV n g gm x (M_M_core gm y p0 p1).2) ∨ ((¬ p0 < 0 ∧ p0 < g.2.1.1 ∧ (p1 < 0 ∨ ¬ p1 ≤ 7)) ∧ (M_M_core gm y p0 p1).2.1.1 = 1 ∧ INV n g gm x (M_M_core gm y p0 p1).2) ∨ ((¬ p0 < 0 ∧ p0 < g.2.1.1 ∧ ¬ p1 < 0 ∧ p1 ≤ 7) ∧ (M_M_core gm y p0 p1).2.1.1 = 0 ∧ M_C_core g x p0 p1 = (M_M_core gm y p0 p1).1 ∧ INV n g gm x (M_M_core gm y p0 p1).2)) := by
  obtain ⟨P, A, thr, hP, hA, hC, hM, hs⟩ := hI
  have h4 := hP.1.2
  have hM0 := M_thr hM 0
  have inv1 : INV n g gm x ((1, y.1.2.1, y.1.2.2.1, y.1.2.2.2.1, y.1.2.2.2.2.1, y.1.2.2.2.2.2), y.2.1, y.2.2.1, y.2.2.2.1, y.2.2.2.2) := ⟨P, A, 1, hP, hA, hC, M_thr hM 1, hs⟩
  by_cases hc : ¬ p0 < 0 ∧ p0 < nI P.1.1
  · obtain ⟨c1, c2, c, c3, rfl⟩ := core_ok hP hC hc
    have ec := M_isCore_y hP hM hc
    have e8 : (7 : Int32) = nI 8 - 1 := by decide
    have hw := M_within (p := p1) (n := 8) (by omega) (by omega)
    rw [← e8] at hw
    by_cases hk : ¬ p1 < 0 ∧ p1 < nI 8
    · rw [if_pos hk] at hw
      obtain ⟨k, hk9, rfl⟩ := nI_of hk.1
      have hk8 := (nI_ltI hk9 (by omega)).mp hk.2
      have e7 : (7 : Int32) = nI 7 := by decide
      have hle : nI k ≤ 7 := by rw [e7]; exact nI_le (by omega) (by omega)
      unfold S_M_core M_M_core M_C_core
      rw [bnd2_eq ec.symm, bnd2_eq ec.symm, if_neg i10, bnd_eq hw.symm, bnd_eq hw.symm, if_neg i10]
      by_cases q : k = 7
      · subst q
        have q7 : (7 : Int32) ≤ nI 7 := by decide
        have e4 : nI 4 = (4 : Int32) := by decide
        have e256 : (64 : Int32) * 4 = 256 := by decide
        have e256n : nI (64 * 4 + 0) = (256 : Int32) := by decide
        have hfu := RL_fuel hM0.2.1 (c := 4) (by omega)
        rw [e4, e256] at hfu
        obtain ⟨k1, k2⟩ := M_core_loop hP hA hM0 (nI c) (nI 7) (A.1 4).length 0 0 ((A.1 4).length + 1) (by omega) (by omega)
        rw [e256n, nI_0] at k1 k2
        rw [if_pos q7, hfu, k2, if_pos (by decide), bnd_eq rfl]
        refine ⟨⟨fun q => absurd q i10, fun _ => ⟨fun q => absurd q i10, fun _ => ⟨fun _ => k1, fun q => absurd q7 q⟩⟩⟩, Or.inr (Or.inr ⟨⟨c1, c2, hk.1, hle⟩, rfl, ?_, P, A, 0, hP, hA, hC, hM0, hs⟩)⟩
        rw [RB_ownedBy hC.2.2.1]
        have e3 : (List.range 1).flatMap (fun _ => A.1 4) = A.1 4 := by simp [List.range_succ]
        rw [e3, List.drop_zero, Nat.zero_add]
      · have q7 : ¬ (7 : Int32) ≤ nI k := by rw [e7]; exact nI_ge (by omega) (by omega)
        have q8 : ¬ nI k = (7 : Int32) := fun q2 => q ((nI_eq hk9 (by omega)).mp (q2.trans e7))
        have ei : ((7 : Int32) * nI c) + nI k = nI (7 * c + k) := e7n c k
        have ei2 : (nI c * (7 : Int32)) + nI k = nI (7 * c + k) := by rw [e7, pk_mul, nI_add, Nat.mul_comm]
        rw [if_neg q7, if_neg q8, ei, ei2, nI_clamp (n := 7 * c + k) (by omega)]
        refine ⟨⟨fun q => absurd q i10, fun _ => ⟨fun q => absurd q i10, fun _ => ⟨fun q2 => absurd q2 q7, fun _ => ⟨vp_in_nI (by omega) (by decide), trivial⟩⟩⟩⟩, Or.inr (Or.inr ⟨⟨c1, c2, hk.1, hle⟩, rfl, ?_, P, A, 0, hP, hA, hC, hM0, hs⟩)⟩
        show x.2.2.2.2.2 (7 * c + k) = y.2.2.2.2 (7 * c + k)
        rw [hC.2.2.2.2.2.2.2, hM.2.2.2.2.2.2.2]
    · rw [if_neg hk] at hw
      have em : M_M_core gm y (nI c) p1 = (0, ((1, y.1.2.1, y.1.2.2.1, y.1.2.2.2.1, y.1.2.2.2.2.1, y.1.2.2.2.2.2), y.2.1, y.2.2.1, y.2.2.2.1, y.2.2.2.2)) := by
        unfold M_M_core
        rw [bnd2_eq ec.symm, if_neg i10, bnd_eq hw.symm, if_pos rfl]
        rfl
      have es : S_M_core gm y (nI c) p1 := by
        unfold S_M_core
        rw [bnd2_eq ec.symm, bnd_eq hw.symm]
        exact ⟨fun q => absurd q i10, fun _ => ⟨fun _ => trivial, fun q => absurd rfl q⟩⟩
      rw [em]
      refine ⟨es, Or.inr (Or.inl ⟨⟨c1, c2, ?_⟩, rfl, inv1⟩)⟩
      by_cases q : p1 < 0
      · exact Or.inl q
      · refine Or.inr (fun q2 => hk ⟨q, ?_⟩)
        have a := Int32.le_iff_toInt_le.mp q2
        rw [Int32.lt_iff_toInt_lt, nI_toInt (by omega)]
        have e7 : (7 : Int32).toInt = 7 := by decide
        omega
  · have ec := M_isCore_n hP hM hc
    have em : M_M_core gm y p0 p1 = (0, ((1, y.1.2.1, y.1.2.2.1, y.1.2.2.2.1, y.1.2.2.2.2.1, y.1.2.2.2.2.2), y.2.1, y.2.2.1, y.2.2.2.1, y.2.2.2.2)) := by
      unfold M_M_core
      rw [bnd2_eq ec.symm, if_pos rfl]
    have es : S_M_core gm y p0 p1 := by
      unfold S_M_core
      rw [bnd2_eq ec.symm]
      exact ⟨fun _ => trivial, fun q => absurd rfl q⟩
    rw [em]
    exact ⟨es, Or.inl ⟨core_bad hP hC hc, rfl, inv1⟩⟩
end Query3
