section Start
variable {n : Nat} {g : GC} {gm : GM} {x : Cs} {y : Ms} {P : Pm} {A : Ab} {thr : Int32}
theorem q_sum4 {L : Nat → List Ent} {N : Nat} (hN : N ≤ 4) (h0 : ∀ c, N ≤ c → ¬ c = 4 → L c = []) : ((List.range N).flatMap L).length = (L 0).length + (L 1).length + (L 2).length + (L 3).length := by
  have e : ∀ c, N ≤ c → ¬ c = 4 → (L c).length = 0 := fun c h1 h2 => by rw [h0 c h1 h2]; rfl
  have h : N = 0 ∨ N = 1 ∨ N = 2 ∨ N = 3 ∨ N = 4 := by omega
  rcases h with rfl | rfl | rfl | rfl | rfl
  · have a0 := e 0 (by omega) (by omega)
    have a1 := e 1 (by omega) (by omega)
    have a2 := e 2 (by omega) (by omega)
    have a3 := e 3 (by omega) (by omega)
    simp
    omega
  · have a1 := e 1 (by omega) (by omega)
    have a2 := e 2 (by omega) (by omega)
    have a3 := e 3 (by omega) (by omega)
    simp [List.range_succ]
    omega
  · have a2 := e 2 (by omega) (by omega)
    have a3 := e 3 (by omega) (by omega)
    simp [List.range_succ]
    omega
  · have a3 := e 3 (by omega) (by omega)
    simp [List.range_succ]
    omega
  · simp [List.range_succ]
    omega
theorem I_count (hI : INV n g gm x y) (p0 : Int32) : S_M_count gm y p0 ∧ M_C_count g x p0 = (M_M_count gm y p0).1 ∧ INV n g gm x (M_M_count gm y p0).2 := by
  obtain ⟨P, A, thr, hP, hA, hC, hM, hs⟩ := hI
  have inv0 : INV n g gm x ((0, y.1.2.1, y.1.2.2.1, y.1.2.2.2.1, y.1.2.2.2.2.1, y.1.2.2.2.2.2), y.2.1, y.2.2.1, y.2.2.2.1, y.2.2.2.2) := ⟨P, A, 0, hP, hA, hC, M_thr hM 0, hs⟩
  have h05 : vp_in (0 : Int32) 5 := by rw [← nI_0]; exact vp_in_nI (by omega) (by decide)
  have h15 : vp_in (1 : Int32) 5 := vp_in_nI (n := 1) (by omega) (by decide)
  have h25 : vp_in (2 : Int32) 5 := vp_in_nI (n := 2) (by omega) (by decide)
  have h35 : vp_in (3 : Int32) 5 := vp_in_nI (n := 3) (by omega) (by decide)
  have h45 : vp_in (4 : Int32) 5 := vp_in_nI (n := 4) (by omega) (by decide)
  refine ⟨⟨fun _ => trivial, fun _ => ⟨fun _ => trivial, fun _ => ⟨fun _ => ⟨h05, h15, h25, h35, trivial⟩, fun _ => ⟨fun _ => ⟨h45, trivial⟩, fun _ => ⟨fun _ => trivial, fun _ => ⟨fun _ => trivial, fun _ => ⟨fun _ => trivial, fun _ => ⟨fun _ => trivial, fun _ => trivial⟩⟩⟩⟩⟩⟩⟩⟩, ?_⟩
  have sz : ∀ c, c < 5 → y.2.1.1 c = nI (A.1 c).length := fun c hc => (hM.2.1.2 c hc).2.1
  unfold M_C_count M_M_count
  by_cases q0 : p0 = 0
  · rw [if_pos q0, if_pos q0]
    refine ⟨?_, inv0⟩
    show x.2.2.2.1.1 = y.1.2.2.2.2.1
    rw [hC.2.2.2.2.2.1, hM.2.2.1.2.1]
  · rw [if_neg q0, if_neg q0]
    by_cases q1 : p0 = 1
    · rw [if_pos q1, if_pos q1]
      refine ⟨?_, inv0⟩
      show x.1.2.2 = y.1.2.2.2.2.2
      rw [hC.2.2.2.2.1, hM.2.2.2.2.2.1]
    · rw [if_neg q1, if_neg q1]
      by_cases q2 : p0 = 2
      · rw [if_pos q2, if_pos q2, bnd_eq rfl]
        refine ⟨?_, inv0⟩
        show M_B_total g.2.2.2.1 x.2.1 = y.2.1.1 0 + y.2.1.1 1 + y.2.1.1 2 + y.2.1.1 3
        rw [sz 0 (by omega), sz 1 (by omega), sz 2 (by omega), sz 3 (by omega), nI_add, nI_add, nI_add, RB_total hC.2.1, q_sum4 hP.1.2 hA.2.2.2.1]
      · rw [if_neg q2, if_neg q2]
        by_cases q3 : p0 = 3
        · rw [if_pos q3, if_pos q3, bnd_eq rfl]
          refine ⟨?_, inv0⟩
          show M_B_total g.2.2.2.2.1 x.2.2.1 = y.2.1.1 4
          have e3 : (List.range 1).flatMap (fun _ => A.1 4) = A.1 4 := by simp [List.range_succ]
          rw [sz 4 (by omega), RB_total hC.2.2.1, e3]
        · rw [if_neg q3, if_neg q3]
          by_cases q4 : p0 = 4
          · rw [if_pos q4, if_pos q4]
            exact ⟨by rw [hC.1.1]; exact hM.1.1.symm, inv0⟩
          · rw [if_neg q4, if_neg q4]
            by_cases q5 : p0 = 5
            · rw [if_pos q5, if_pos q5]
              exact ⟨by rw [hC.1.2.1]; exact hM.1.2.1.symm, inv0⟩
            · rw [if_neg q5, if_neg q5]
              by_cases q6 : p0 = 6
              · rw [if_pos q6, if_pos q6]
                exact ⟨by rw [hC.2.1.1.1]; exact hM.1.2.2.1.symm, inv0⟩
              · rw [if_neg q6, if_neg q6]
                by_cases q7 : p0 = 7
                · rw [if_pos q7, if_pos q7]
                  exact ⟨by rw [hC.2.2.1.1.1]; exact hM.1.2.2.2.1.symm, inv0⟩
                · rw [if_neg q7, if_neg q7]
                  exact ⟨rfl, inv0⟩
-- a new object
theorem q_mask {p : Int32} {S k : Nat} (m : Int32) (hm : m.toBitVec.toNat = 2 ^ k - 1) (hS : S = 2 ^ k) (h0 : 0 < S) (h : S ≤ 16) : p &&& m = nI (q_st S p) := by
  have hk : k < 32 := by
    rcases Nat.lt_or_ge k 32 with q | q
    · exact q
    · have h2 : 2 ^ 32 ≤ 2 ^ k := Nat.pow_le_pow_right (by omega) q
      omega
  refine q_nIof (by have := q_st_lt h0 p; omega) ?_
  rw [Jvm.Kit.i32_mask p m hk hm]
  unfold q_st
  have h1 : (0 : Int) ≤ p.toInt % (S : Int) := Int.emod_nonneg _ (by omega)
  have e : ((S : Nat) : Int) = 2 ^ k := by rw [hS]; exact Int.natCast_pow 2 k
  rw [← e]
  omega
theorem start_INV {p0 p1 p2 p3 : Int32} {f : Fn} (u0 : g.2.1 = (((1 : Int32) + (M_Math_floorMod (p0 - (1 : Int32)) (4 : Int32))), (M_Math_floorMod p1 (3 : Int32)))) (u1 : g.2.2.1 = (1 + q_st 4 (p0 - 1), (1 + q_st 4 (p0 - 1)) * 7)) (u2 : g.2.2.2.1.2 = (((if (1 : Int32) < ((1 : Int32) + (M_Math_floorMod (p2 - (1 : Int32)) (8 : Int32))) then ((1 : Int32) + (M_Math_floorMod (p2 - (1 : Int32)) (8 : Int32))) else (1 : Int32)), (if (1 : Int32) < (2 : Int32) then (2 : Int32) else (1 : Int32))), ((1 + q_st 4 (p0 - 1)) * (1 + q_st 8 (p2 - 1)), (1 + q_st 4 (p0 - 1)) * (1 + q_st 8 (p2 - 1)) * 2))) (u3 : g.2.2.2.2.1.2 = (((if (1 : Int32) < ((1 : Int32) + (M_Math_floorMod (p3 - (1 : Int32)) (16 : Int32))) then ((1 : Int32) + (M_Math_floorMod (p3 - (1 : Int32)) (16 : Int32))) else (1 : Int32)), (if (1 : Int32) < (4 : Int32) then (4 : Int32) else (1 : Int32))), (1 + q_st 16 (p3 - 1), (1 + q_st 16 (p3 - 1)) * 4))) (u4 : g.2.2.2.2.2.2 = (512, 512, 512)) (u5 : ∀ j : Nat, j < 1 + q_st 4 (p0 - 1) → f j = 4) (v0 : gm.2 = (((1 : Int32) + ((p0 - (1 : Int32)) &&& (3 : Int32))), (M_M_modulo p1 (3 : Int32)), ((1 : Int32) + ((p2 - (1 : Int32)) &&& (7 : Int32))), ((1 : Int32) + ((p3 - (1 : Int32)) &&& (15 : Int32))))) :
    INV 0 g gm ((0, -1, 0), zB, zB, zV, f, zF) ((0, 1, 0, 0, 0, 0), (zF, zF, zF, zF, zF), (upd (upd (upd (upd zF 0 4) 1 4) 2 4) 3 4), (zF, zF, zF), zF) := by
  have e1 : (1 : Int32) = nI 1 := by decide
  have e4 : (4 : Int32) = nI 4 := by decide
  have e8 : (8 : Int32) = nI 8 := by decide
  have e16 : (16 : Int32) = nI 16 := by decide
  have e3 : (3 : Int32) = nI 3 := by decide
  have b4 := q_st_lt (S := 4) (by omega) (p0 - 1)
  have b8 := q_st_lt (S := 8) (by omega) (p2 - 1)
  have b16 := q_st_lt (S := 16) (by omega) (p3 - 1)
  have b3 := q_st_lt (S := 3) (by omega) p1
  have f4 : (1 : Int32) + M_Math_floorMod (p0 - 1) 4 = nI (1 + q_st 4 (p0 - 1)) := by rw [e4, q_fm (by omega) (by omega), ← nI_add]; rfl
  have f8 : (1 : Int32) + M_Math_floorMod (p2 - 1) 8 = nI (1 + q_st 8 (p2 - 1)) := by rw [e8, q_fm (by omega) (by omega), ← nI_add]; rfl
  have f16 : (1 : Int32) + M_Math_floorMod (p3 - 1) 16 = nI (1 + q_st 16 (p3 - 1)) := by rw [e16, q_fm (by omega) (by omega), ← nI_add]; rfl
  have f3 : M_Math_floorMod p1 3 = nI (q_st 3 p1) := by rw [e3, q_fm (by omega) (by omega)]
  have g4 : (1 : Int32) + ((p0 - 1) &&& 3) = nI (1 + q_st 4 (p0 - 1)) := by rw [q_mask (k := 2) (S := 4) 3 (by decide) (by decide) (by omega) (by omega), ← nI_add]; rfl
  have g8 : (1 : Int32) + ((p2 - 1) &&& 7) = nI (1 + q_st 8 (p2 - 1)) := by rw [q_mask (k := 3) (S := 8) 7 (by decide) (by decide) (by omega) (by omega), ← nI_add]; rfl
  have g16 : (1 : Int32) + ((p3 - 1) &&& 15) = nI (1 + q_st 16 (p3 - 1)) := by rw [q_mask (k := 4) (S := 16) 15 (by decide) (by decide) (by omega) (by omega), ← nI_add]; rfl
  have g3 : M_M_modulo p1 3 = nI (q_st 3 p1) := by rw [e3, q_modu (by omega) (by omega)]
  have mx : ∀ a : Nat, a < 100 → (if (1 : Int32) < nI (1 + a) then nI (1 + a) else (1 : Int32)) = nI (1 + a) := fun a ha => by
    by_cases q : (1 : Int32) < nI (1 + a)
    · rw [if_pos q]
    · rw [if_neg q]
      have h0 : a = 0 := by
        rcases Nat.eq_zero_or_pos a with q2 | q2
        · exact q2
        · exact absurd (by rw [e1]; exact nI_lt (by omega) (by omega)) q
      rw [h0]
      exact e1
  rw [f8, mx _ (by omega)] at u2
  rw [f16, mx _ (by omega)] at u3
  rw [f4, f3] at u0
  rw [g4, g3, g8, g16] at v0
  have hmul : (1 + q_st 4 (p0 - 1)) * (1 + q_st 8 (p2 - 1)) ≤ 4 * 8 := Nat.mul_le_mul (by omega) (by omega)
  refine ⟨((1 + q_st 4 (p0 - 1), 1 + q_st 8 (p2 - 1), 1 + q_st 16 (p3 - 1)), nI (q_st 3 p1), g.2.2.2.2.2, fun _ => 4, fun _ => false), ((fun _ => []), zV, 0, zF), 0, ?_, ?_, ?_, ?_, Nat.le_refl _⟩
  · refine ⟨⟨by show 0 < 1 + _; omega, by show 1 + _ ≤ 4; omega⟩, ⟨by show 0 < 1 + _; omega, by show 1 + _ ≤ 8; omega⟩, ⟨by show 0 < 1 + _; omega, by show 1 + _ ≤ 16; omega⟩, ?_, u4, fun _ _ => ⟨4, Nat.le_refl _, e4⟩⟩
    show nI (q_st 3 p1) = 0 ∨ nI (q_st 3 p1) = 1 ∨ nI (q_st 3 p1) = 2
    have h : q_st 3 p1 = 0 ∨ q_st 3 p1 = 1 ∨ q_st 3 p1 = 2 := by omega
    rcases h with h | h | h
    · rw [h]; exact Or.inl nI_0
    · rw [h]; exact Or.inr (Or.inl (by decide))
    · rw [h]; exact Or.inr (Or.inr (by decide))
  · have mt : ∀ (e : Ent), ¬ e ∈ ([] : List Ent) := fun e h => absurd h List.not_mem_nil
    exact ⟨fun _ => List.Pairwise.nil, fun _ e he => absurd he (mt _), fun _ e he => absurd he (mt _), fun _ _ _ => rfl, fun _ _ _ => Nat.zero_le _, fun _ => Nat.zero_le _, fun _ _ e he => absurd he (mt _), fun _ e he => absurd he (mt _), fun _ _ => ⟨rfl, rfl⟩⟩
  · have rp : ∀ w np, RP zB w np (fun _ => []) := fun w np => ⟨fun _ => Or.inl rfl, fun p _ => ⟨Nat.zero_le _, nI_0.symm, fun k e he => by simp at he, fun _ _ _ => rfl⟩⟩
    refine ⟨⟨congrArg Prod.fst u0, congrArg Prod.snd u0, u1, rfl⟩, ⟨?_, RP_congr (fun _ _ => rfl) (rp _ _)⟩, ⟨?_, RP_congr (fun _ _ => rfl) (rp _ _)⟩, ?_, rfl, rfl, fun c hc => u5 c hc, rfl⟩
    · refine ⟨congrArg (fun q : (Int32 × Int32) × (Nat × Nat) => q.1.1) u2, (congrArg (fun q : (Int32 × Int32) × (Nat × Nat) => q.1.2) u2).trans (show (if (1 : Int32) < 2 then (2 : Int32) else 1) = nI 2 by decide), congrArg (fun q : (Int32 × Int32) × (Nat × Nat) => q.2.1) u2, congrArg (fun q : (Int32 × Int32) × (Nat × Nat) => q.2.2) u2, ?_, ?_, by omega, by omega, ?_⟩
      · show 0 < 1 + _; omega
      · show 1 + _ ≤ 16; omega
      · show (1 + q_st 4 (p0 - 1)) * (1 + q_st 8 (p2 - 1)) ≤ 64; omega
    · refine ⟨congrArg (fun q : (Int32 × Int32) × (Nat × Nat) => q.1.1) u3, (congrArg (fun q : (Int32 × Int32) × (Nat × Nat) => q.1.2) u3).trans (show (if (1 : Int32) < 4 then (4 : Int32) else 1) = nI 4 by decide), (congrArg (fun q : (Int32 × Int32) × (Nat × Nat) => q.2.1) u3).trans (Nat.one_mul _).symm, (congrArg (fun q : (Int32 × Int32) × (Nat × Nat) => q.2.2) u3).trans (by rw [Nat.one_mul]), ?_, ?_, by omega, by omega, ?_⟩
      · show 0 < 1 + _; omega
      · show 1 + _ ≤ 16; omega
      · show 1 * (1 + q_st 16 (p3 - 1)) ≤ 64; omega
    · funext l
      show psOf 0 (-1) l = false
      refine decide_eq_false (fun q => ?_)
      have h1 : ¬ l.toInt < (0 : Int32).toInt := fun q2 => q.1 (Int32.lt_iff_toInt_lt.mpr q2)
      have h2 : ¬ (-1 : Int32).toInt < l.toInt := fun q2 => q.2 (Int32.lt_iff_toInt_lt.mpr q2)
      have z0 : (0 : Int32).toInt = 0 := by decide
      have z1 : (-1 : Int32).toInt = -1 := by decide
      omega
  · refine ⟨⟨congrArg (fun q : Int32 × Int32 × Int32 × Int32 => q.1) v0, congrArg (fun q : Int32 × Int32 × Int32 × Int32 => q.2.1) v0, congrArg (fun q : Int32 × Int32 × Int32 × Int32 => q.2.2.1) v0, congrArg (fun q : Int32 × Int32 × Int32 × Int32 => q.2.2.2) v0, ?_, ?_, ?_, ?_, ?_, ?_⟩, ⟨fun _ => Or.inl rfl, fun c _ => ⟨Nat.zero_le _, nI_0.symm, fun k e he => by simp at he⟩⟩, ⟨nI_0.symm, rfl, rfl⟩, rfl, ?_, rfl, fun c hc => ?_, rfl⟩
    · show 0 < 1 + _; omega
    · show 1 + _ ≤ 4; omega
    · show 0 < 1 + _; omega
    · show 1 + _ ≤ 8; omega
    · show 0 < 1 + _; omega
    · show 1 + _ ≤ 16; omega
    · funext l
      show psOf 1 0 l = false
      refine decide_eq_false (fun q => ?_)
      have h1 : ¬ l.toInt < (1 : Int32).toInt := fun q2 => q.1 (Int32.lt_iff_toInt_lt.mpr q2)
      have h2 : ¬ (0 : Int32).toInt < l.toInt := fun q2 => q.2 (Int32.lt_iff_toInt_lt.mpr q2)
      have z0 : (0 : Int32).toInt = 0 := by decide
      have z1 : (1 : Int32).toInt = 1 := by decide
      omega
    · have hc : c < 1 + q_st 4 (p0 - 1) := hc
      show upd (upd (upd (upd zF 0 4) 1 4) 2 4) 3 4 c = 4
      have h : c = 0 ∨ c = 1 ∨ c = 2 ∨ c = 3 := by omega
      rcases h with rfl | rfl | rfl | rfl <;> rfl
end Start
