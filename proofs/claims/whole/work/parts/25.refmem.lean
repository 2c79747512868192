-- versions: the class's rows and the reference's are the same
def knw (V : Vs) (l : Int32) : Prop := ∃ j, j < V.2.1.val ∧ V.2.2.1 j = l
def VI (V : Vs) : Prop := ∀ j, V.2.1.val ≤ j → V.2.2.2.1 j = 0 ∧ V.2.2.2.2 j = 0
def gVl (g : GV) : Prop := g.2 = (512, 512, 512)
def RV (y : Ms) (V : Vs) : Prop := y.1.2.2.2.1 = nI V.2.1.val ∧ y.1.2.2.2.2.1 = V.1 ∧ y.2.2.2.1 = (V.2.2.1, V.2.2.2.1, V.2.2.2.2)
section MemRows
variable {g : GM} {gV : GV} {y : Ms} {V : Vs} {l v : Int32}
theorem V_find_loop (hg : gVl gV) (hR : RV y V) : ∀ (d k fuel : Nat), V.2.1.val = k + d → d < fuel →
    S_M_find_2 g y l fuel (nI k) ∧ L_M_find_2 g y l fuel (nI k) = L_V_indexOf_2 gV V l fuel (nI k) ∧ ((∃ j, k ≤ j ∧ j < V.2.1.val ∧ V.2.2.1 j = l ∧ L_V_indexOf_2 gV V l fuel (nI k) = nI j) ∨ ((∀ j, k ≤ j → j < V.2.1.val → ¬ V.2.2.1 j = l) ∧ L_V_indexOf_2 gV V l fuel (nI k) = -1)) := by
  have hV := V.2.1.isLt
  have h512 : gV.2.1 = 512 := congrArg Prod.fst hg
  intro d
  induction d with
  | zero =>
    intro k fuel hk hf
    obtain ⟨n, rfl⟩ : ∃ n, fuel = n + 1 := ⟨fuel - 1, by omega⟩
    have hb : y.1.2.2.2.1 ≤ nI k := by rw [hR.1]; exact nI_le (by omega) (by omega)
    have hb2 : nI V.2.1.val ≤ nI k := nI_le (by omega) (by omega)
    rw [S_M_find_2_eq, L_M_find_2_eq, L_V_indexOf_2_eq, if_pos hb, if_pos hb2]
    exact ⟨⟨fun _ => trivial, fun q => absurd hb q⟩, rfl, Or.inr ⟨fun j h1 h2 => by omega, rfl⟩⟩
  | succ d ih =>
    intro k fuel hk hf
    obtain ⟨n, rfl⟩ : ∃ n, fuel = n + 1 := ⟨fuel - 1, by omega⟩
    have hb : ¬ y.1.2.2.2.1 ≤ nI k := by rw [hR.1]; exact nI_ge (by omega) (by omega)
    have hb2 : ¬ nI V.2.1.val ≤ nI k := nI_ge (by omega) (by omega)
    have hb3 : ¬ nI gV.2.1 ≤ nI k := by rw [h512]; exact nI_ge (by omega) (by omega)
    obtain ⟨i1, i2, i3⟩ := ih (k + 1) n (by omega) (by omega)
    have e1 : y.2.2.2.1.1 = V.2.2.1 := congrArg Prod.fst hR.2.2
    rw [S_M_find_2_eq, L_M_find_2_eq, L_V_indexOf_2_eq, if_neg hb, if_neg hb2, if_neg hb3, nI_clamp (n := k) (by omega), e1, nI_1]
    refine ⟨⟨fun q => absurd q hb, fun _ => ⟨vp_in_nI (by omega) (by decide), fun _ => trivial, fun _ => ⟨?_, i1⟩⟩⟩, ?_, ?_⟩
    · have h := mu_dec hb
      rwa [nI_1] at h
    · rw [i2]
    · by_cases c : V.2.2.1 k = l
      · rw [if_pos c]
        exact Or.inl ⟨k, Nat.le_refl _, by omega, c, rfl⟩
      · rw [if_neg c]
        rcases i3 with ⟨j, a1, a2⟩ | ⟨a1, a2⟩
        · exact Or.inl ⟨j, by omega, a2⟩
        · refine Or.inr ⟨fun j b1 b2 => ?_, a2⟩
          rcases Nat.eq_or_lt_of_le b1 with q | q
          · subst q; exact c
          · exact a1 j (by omega) b2
theorem M_find (hg : gVl gV) (hR : RV y V) : S_M_find g y l ∧ M_M_find g y l = M_V_indexOf gV V l := by
  have hV := V.2.1.isLt
  obtain ⟨h1, h2, -⟩ := V_find_loop (g := g) (l := l) hg hR V.2.1.val 0 (V.2.1.val + 1) (by omega) (by omega)
  unfold S_M_find M_M_find M_V_indexOf
  rw [hR.1, mu_nI0 (by omega)]
  rw [nI_0] at h1 h2
  exact ⟨h1, h2⟩
theorem V_idx (hg : gVl gV) : (∃ j, j < V.2.1.val ∧ V.2.2.1 j = l ∧ M_V_indexOf gV V l = nI j) ∨ ((∀ j, j < V.2.1.val → ¬ V.2.2.1 j = l) ∧ M_V_indexOf gV V l = -1) := by
  have hV := V.2.1.isLt
  obtain ⟨-, -, h3⟩ := V_find_loop (g := ((0, 0, 0, 0, 0, 0, 0, 0, 0, 0, 0), (0, 0, 0, 0))) (y := ((0, 0, 0, nI V.2.1.val, V.1, 0), (V.2.2.1, V.2.2.1, V.2.2.1, V.2.2.1, V.2.2.1), V.2.2.1, (V.2.2.1, V.2.2.2.1, V.2.2.2.2), V.2.2.1)) (l := l) hg ⟨rfl, rfl, rfl⟩ V.2.1.val 0 (V.2.1.val + 1) (by omega) (by omega)
  unfold M_V_indexOf
  rw [mu_nI0 (by omega)]
  rw [nI_0] at h3
  rcases h3 with ⟨j, -, h⟩ | ⟨h1, h2⟩
  · exact Or.inl ⟨j, h⟩
  · exact Or.inr ⟨fun j hj => h1 j (Nat.zero_le _) hj, h2⟩
theorem V_idx_k (hg : gVl gV) (hk : knw V l) : ∃ j, j < V.2.1.val ∧ V.2.2.1 j = l ∧ M_V_indexOf gV V l = nI j := by
  rcases V_idx (V := V) (l := l) hg with h | ⟨h, -⟩
  · exact h
  · obtain ⟨j, h1, h2⟩ := hk
    exact absurd h2 (h j h1)
theorem V_idx_same {W : Vs} (h1 : W.2.1 = V.2.1) (h2 : W.2.2.1 = V.2.2.1) : M_V_indexOf gV W l = M_V_indexOf gV V l := by
  unfold M_V_indexOf
  rw [h1]
  have key : ∀ (n : Nat) (k : Int32), L_V_indexOf_2 gV W l n k = L_V_indexOf_2 gV V l n k := by
    intro n
    induction n with
    | zero => intro k; rfl
    | succ n ih =>
      intro k
      rw [L_V_indexOf_2_eq, L_V_indexOf_2_eq, h1, h2, ih]
  exact key _ _
theorem V_back (hg : gVl gV) : M_V_writeBack gV V l v = if M_V_indexOf gV V l = -1 then (V.1 + 1, V.2) else (V.1 + 1, V.2.1, V.2.2.1, V.2.2.2.1, upd V.2.2.2.2 (M_V_indexOf gV V l).toNatClampNeg v) := by
  have hV := V.2.1.isLt
  have e1 : M_V_indexOf gV ((V.1 + (1 : Int32)), V.2.1, V.2.2.1, V.2.2.2.1, V.2.2.2.2) l = M_V_indexOf gV V l := V_idx_same rfl rfl
  have h512 : gV.2.2.2 = 512 := congrArg (fun q : Nat × Nat × Nat => q.2.2) hg
  unfold M_V_writeBack
  rw [bnd_eq e1.symm, h512]
  rcases V_idx (V := V) (l := l) hg with ⟨j, h1, -, h2⟩ | ⟨-, h2⟩
  · rw [h2, if_neg (nI_pos (by omega)), if_neg (nI_ge (by omega) (by omega)), if_neg (nI_n1 (by omega))]
  · rw [h2, if_pos (by decide), if_pos rfl]
theorem V_back_k (hg : gVl gV) (hk : knw V l) : ∃ j, j < V.2.1.val ∧ V.2.2.1 j = l ∧ M_V_indexOf gV V l = nI j ∧ M_V_writeBack gV V l v = (V.1 + 1, V.2.1, V.2.2.1, V.2.2.2.1, upd V.2.2.2.2 j v) := by
  have hV := V.2.1.isLt
  obtain ⟨j, h1, h2, h3⟩ := V_idx_k hg hk
  refine ⟨j, h1, h2, h3, ?_⟩
  rw [V_back hg, h3, if_neg (nI_n1 (by omega)), nI_clamp (by omega)]
theorem V_back_lines (hg : gVl gV) : (M_V_writeBack gV V l v).2.1 = V.2.1 ∧ (M_V_writeBack gV V l v).2.2.1 = V.2.2.1 ∧ (M_V_writeBack gV V l v).2.2.2.1 = V.2.2.2.1 ∧ (VI V → VI (M_V_writeBack gV V l v)) := by
  have hV := V.2.1.isLt
  rw [V_back hg]
  rcases V_idx (V := V) (l := l) hg with ⟨j, h1, -, h2⟩ | ⟨-, h2⟩
  · rw [h2, if_neg (nI_n1 (by omega)), nI_clamp (by omega)]
    refine ⟨rfl, rfl, rfl, fun h k hk => ⟨(h k hk).1, ?_⟩⟩
    show upd V.2.2.2.2 j v k = 0
    have hk : V.2.1.val ≤ k := hk
    rw [pk_un (by omega)]
    exact (h k hk).2
  · rw [h2, if_pos rfl]
    exact ⟨rfl, rfl, rfl, fun h => h⟩
theorem V_mem (hg : gVl gV) (hR : RV y V) : S_M_memoryOf g y l ∧ M_M_memoryOf g y l = M_V_inMemory gV V l := by
  have hV := V.2.1.isLt
  obtain ⟨h1, h2⟩ := M_find (g := g) (l := l) hg hR
  have h512 : gV.2.2.2 = 512 := congrArg (fun q : Nat × Nat × Nat => q.2.2) hg
  have e1 : y.2.2.2.1.2.2 = V.2.2.2.2 := congrArg (fun q : Fn × Fn × Fn => q.2.2) hR.2.2
  unfold S_M_memoryOf M_M_memoryOf M_V_inMemory
  simp only [bnd]
  rw [h2, h512, e1]
  rcases V_idx (V := V) (l := l) hg with ⟨j, a1, -, a2⟩ | ⟨-, a2⟩
  · rw [a2, if_pos (nI_pos' (by omega)), if_neg (nI_pos (by omega)), if_neg (nI_ge (by omega) (by omega))]
    exact ⟨⟨h1, fun _ => ⟨vp_in_nI (by omega) (by decide), trivial⟩, fun _ => trivial⟩, rfl⟩
  · rw [a2, if_neg (by decide), if_pos (by decide)]
    exact ⟨⟨h1, fun q => absurd q (by decide), fun _ => trivial⟩, rfl⟩
theorem M_toMem (hg : gVl gV) (hR : RV y V) (hk : knw V l) : S_M_toMemory g y l v ∧ RV (M_M_toMemory g y l v) (M_V_writeBack gV V l v) ∧ (M_M_toMemory g y l v).2.1 = y.2.1 ∧ (M_M_toMemory g y l v).2.2.1 = y.2.2.1 ∧ (M_M_toMemory g y l v).2.2.2.2 = y.2.2.2.2 ∧ (M_M_toMemory g y l v).1.1 = y.1.1 ∧ (M_M_toMemory g y l v).1.2.1 = y.1.2.1 ∧ (M_M_toMemory g y l v).1.2.2.1 = y.1.2.2.1 ∧ (M_M_toMemory g y l v).1.2.2.2.2.2 = y.1.2.2.2.2.2 := by
  have hV := V.2.1.isLt
  obtain ⟨h1, h2⟩ := M_find (g := g) (l := l) hg hR
  obtain ⟨j, a1, a2, a3, a4⟩ := V_back_k (v := v) hg hk
  have el : M_M_learn g y l = (nI j, y) := by
    unfold M_M_learn
    rw [bnd_eq (h2.trans a3).symm, if_neg (nI_pos (by omega))]
  have es : S_M_learn g y l := by
    unfold S_M_learn
    rw [bnd_eq (h2.trans a3).symm]
    exact ⟨h1, fun q => absurd q (nI_pos (by omega)), fun _ => trivial⟩
  have em : M_M_toMemory g y l v = ((y.1.1, y.1.2.1, y.1.2.2.1, y.1.2.2.2.1, (y.1.2.2.2.2.1 + (1 : Int32)), y.1.2.2.2.2.2), y.2.1, y.2.2.1, (y.2.2.2.1.1, y.2.2.2.1.2.1, (upd y.2.2.2.1.2.2 j v)), y.2.2.2.2) := by
    unfold M_M_toMemory
    rw [bnd2_eq el.symm, nI_clamp (by omega)]
  rw [em, a4]
  refine ⟨⟨es, ?_⟩, ⟨hR.1, by rw [← hR.2.1], ?_⟩, rfl, rfl, rfl, rfl, rfl, rfl, rfl⟩
  · rw [bnd2_eq el.symm]
    exact ⟨vp_in_nI (by omega) (by decide), trivial⟩
  · show (y.2.2.2.1.1, y.2.2.2.1.2.1, upd y.2.2.2.1.2.2 j v) = (V.2.2.1, V.2.2.2.1, upd V.2.2.2.2 j v)
    rw [hR.2.2]
end MemRows
