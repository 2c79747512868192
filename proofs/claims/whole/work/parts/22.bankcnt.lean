-- what a bank's counting methods answer
def q_own (o : Int32) (e : Ent) : Bool := decide (e.2.2.2 = o)
theorem q_drop_cons {α : Type} {L : List α} {k : Nat} {e : α} (h : L[k]? = some e) : L.drop k = e :: L.drop (k + 1) := by
  obtain ⟨h1, h2⟩ := List.getElem?_eq_some_iff.mp h
  rw [List.drop_eq_getElem_cons h1, h2]
theorem q_take_cons {α : Type} {L : List α} {k : Nat} {e : α} (h : L[k]? = some e) : L.take (k + 1) = L.take k ++ [e] := by
  rw [List.take_add_one, h]
  rfl
section BankCnt
variable {g : GB} {x : Bk} {S w np : Nat} {P : Nat → List Ent}
theorem B_owned_loop (hg : gB g S w np) (hR : RP x w np P) {p : Nat} (hp : p < np) (o : Int32) : ∀ (d k a fuel : Nat), (P p).length = k + d → d < fuel →
    L_B_ownedAt_5 g x (nI p) o fuel (nI a) (nI k) = nI (a + (((P p).drop k).filter (q_own o)).length) := by
  have hs := gB_sm hg
  have hle := (hR.2 p hp).1
  intro d
  induction d with
  | zero =>
    intro k a fuel hk hf
    obtain ⟨n, rfl⟩ : ∃ n, fuel = n + 1 := ⟨fuel - 1, by omega⟩
    rw [L_B_ownedAt_5_eq]
    simp only [bnd]
    rw [B_size hg hR hp, if_pos (nI_le (by omega) (by omega)), List.drop_eq_nil_of_le (by omega)]
    rfl
  | succ d ih =>
    intro k a fuel hk hf
    obtain ⟨n, rfl⟩ : ∃ n, fuel = n + 1 := ⟨fuel - 1, by omega⟩
    obtain ⟨e, he⟩ := q_get (L := P p) (k := k) (by omega)
    obtain ⟨b1, b2, -, -, -, b3, -⟩ := RP_at hR hp he
    rw [L_B_ownedAt_5_eq]
    simp only [bnd]
    rw [B_size hg hR hp, if_neg (nI_ge (by omega) (by omega)), B_slot hg, B_ownerAt hg b2, b3, q_drop_cons he, List.filter_cons]
    by_cases c : e.2.2.2 = o
    · have c2 : q_own o e = true := decide_eq_true c
      rw [if_pos c, if_pos c2, nI_1, nI_1, ih (k + 1) (a + 1) n (by omega) (by omega), List.length_cons]
      exact congrArg nI (by omega)
    · have c2 : ¬ q_own o e = true := fun q => c (of_decide_eq_true q)
      rw [if_neg c, if_neg c2, nI_1, ih (k + 1) a n (by omega) (by omega)]
theorem B_ownedAt (hg : gB g S w np) (hR : RP x w np P) {p : Nat} (hp : p < np) (o : Int32) : M_B_ownedAt g x (nI p) o = nI ((P p).filter (q_own o)).length := by
  have hs := gB_sm hg
  have hle := (hR.2 p hp).1
  have h := B_owned_loop hg hR hp o (P p).length 0 0 ((P p).length + 1) (by omega) (by omega)
  unfold M_B_ownedAt
  rw [B_size hg hR hp, mu_nI0 (by omega)]
  rw [nI_0, List.drop_zero, Nat.zero_add] at h
  exact h
theorem B_oldo_loop (hg : gB g S w np) (hR : RP x w np P) {p : Nat} (hp : p < np) (o : Int32) : ∀ (k fuel : Nat), k ≤ (P p).length → k < fuel →
    (((P p).take k).filter (q_own o) = [] ∧ L_B_oldestOwned_8 g x (nI p) o fuel (nI k - 1) = -1) ∨ (∃ k2 e, (P p)[k2]? = some e ∧ (((P p).take k).filter (q_own o)).getLast? = some e ∧ L_B_oldestOwned_8 g x (nI p) o fuel (nI k - 1) = nI (p * w + k2)) := by
  have hs := gB_sm hg
  have hle := (hR.2 p hp).1
  intro k
  induction k with
  | zero =>
    intro fuel hk hf
    obtain ⟨n, rfl⟩ : ∃ n, fuel = n + 1 := ⟨fuel - 1, by omega⟩
    refine Or.inl ⟨rfl, ?_⟩
    rw [L_B_oldestOwned_8_eq, if_pos (by rw [nI_0]; decide)]
  | succ k ih =>
    intro fuel hk hf
    obtain ⟨n, rfl⟩ : ∃ n, fuel = n + 1 := ⟨fuel - 1, by omega⟩
    obtain ⟨e, he⟩ := q_get (L := P p) (k := k) (by omega)
    obtain ⟨b1, b2, -, -, -, b3, -⟩ := RP_at hR hp he
    rw [nI_pred, L_B_oldestOwned_8_eq, if_neg (nI_pos (by omega))]
    simp only [bnd]
    rw [B_slot hg, B_ownerAt hg b2, b3, q_take_cons he, List.filter_append]
    by_cases c : e.2.2.2 = o
    · have c2 : q_own o e = true := decide_eq_true c
      rw [if_pos c]
      refine Or.inr ⟨k, e, he, ?_, rfl⟩
      rw [List.filter_cons, if_pos c2, List.getLast?_append]
      rfl
    · have c2 : ¬ q_own o e = true := fun q => c (of_decide_eq_true q)
      rw [if_neg c, List.filter_cons, if_neg c2, List.filter_nil, List.append_nil]
      have e1 : nI k + -1 = nI k - 1 := by rw [Int32.sub_eq_add_neg]
      rw [e1]
      exact ih n (by omega) (by omega)
theorem B_oldestOwned (hg : gB g S w np) (hR : RP x w np P) {p : Nat} (hp : p < np) (o : Int32) (hn : ((P p).filter (q_own o)) ≠ []) : ∃ k e, (P p)[k]? = some e ∧ ((P p).filter (q_own o)).getLast? = some e ∧ M_B_oldestOwned g x (nI p) o = nI (p * w + k) := by
  have hs := gB_sm hg
  have hle := (hR.2 p hp).1
  have e0 : M_B_oldestOwned g x (nI p) o = L_B_oldestOwned_8 g x (nI p) o (dn (nI (P p).length - 1) + 1) (nI (P p).length - 1) := by
    unfold M_B_oldestOwned
    rw [bnd_eq (B_size hg hR hp).symm]
  have hd : dn (nI (P p).length - 1) = (P p).length := by
    unfold dn
    rw [Jvm.Kit.i32_sub (by rw [nI_toInt (by omega)]; have e1 : (1 : Int32).toInt = 1 := by decide
                            rw [e1]; omega) (by rw [nI_toInt (by omega)]; have e1 : (1 : Int32).toInt = 1 := by decide
                                                rw [e1]; omega), nI_toInt (by omega)]
    have e1 : (1 : Int32).toInt = 1 := by decide
    rw [e1]
    omega
  rw [hd] at e0
  have h := B_oldo_loop hg hR hp o (P p).length ((P p).length + 1) (Nat.le_refl _) (by omega)
  rw [List.take_length] at h
  rw [e0]
  rcases h with ⟨h1, -⟩ | h
  · exact absurd h1 hn
  · exact h
theorem q_flat_succ {α : Type} {P : Nat → List α} (n : Nat) : (List.range (n + 1)).flatMap P = (List.range n).flatMap P ++ P n := by
  rw [List.range_succ, List.flatMap_append]
  simp
theorem B_total_loop (hg : gB g S w np) (hR : RP x w np P) : ∀ (d k fuel : Nat), np = k + d → d < fuel →
    L_B_total_4 g x fuel (nI ((List.range k).flatMap P).length) (nI k) = nI ((List.range np).flatMap P).length := by
  have hs := gB_sm hg
  intro d
  induction d with
  | zero =>
    intro k fuel hk hf
    obtain ⟨n, rfl⟩ : ∃ n, fuel = n + 1 := ⟨fuel - 1, by omega⟩
    rw [L_B_total_4_eq, hg.2.2.1, if_pos (nI_le (by omega) (by omega))]
    rw [hk]
    rfl
  | succ d ih =>
    intro k fuel hk hf
    obtain ⟨n, rfl⟩ : ∃ n, fuel = n + 1 := ⟨fuel - 1, by omega⟩
    rw [L_B_total_4_eq, hg.2.2.1, if_neg (nI_ge (by omega) (by omega)), nI_clamp (by omega), (hR.2 k (by omega)).2.1, nI_add, nI_1, ← List.length_append, ← q_flat_succ]
    exact ih (k + 1) n (by omega) (by omega)
theorem B_total (hg : gB g S w np) (hR : RP x w np P) : M_B_total g x = nI ((List.range np).flatMap P).length := by
  have hs := gB_sm hg
  have h := B_total_loop hg hR np 0 (np + 1) (by omega) (by omega)
  unfold M_B_total
  rw [hg.2.2.1, mu_nI0 (by omega)]
  have e0 : ((List.range 0).flatMap P).length = 0 := rfl
  rw [e0, nI_0] at h
  exact h
theorem B_ownedBy_loop (hg : gB g S w np) (hR : RP x w np P) (o : Int32) : ∀ (d k fuel : Nat), np = k + d → d < fuel →
    L_B_ownedBy_4 g x o fuel (nI (((List.range k).flatMap P).filter (q_own o)).length) (nI k) = nI (((List.range np).flatMap P).filter (q_own o)).length := by
  have hs := gB_sm hg
  intro d
  induction d with
  | zero =>
    intro k fuel hk hf
    obtain ⟨n, rfl⟩ : ∃ n, fuel = n + 1 := ⟨fuel - 1, by omega⟩
    rw [L_B_ownedBy_4_eq, hg.2.2.1, if_pos (nI_le (by omega) (by omega))]
    rw [hk]
    rfl
  | succ d ih =>
    intro k fuel hk hf
    obtain ⟨n, rfl⟩ : ∃ n, fuel = n + 1 := ⟨fuel - 1, by omega⟩
    rw [L_B_ownedBy_4_eq, hg.2.2.1, if_neg (nI_ge (by omega) (by omega)), bnd_eq (B_ownedAt hg hR (by omega) o).symm, nI_add, nI_1, ← List.length_append, ← List.filter_append, ← q_flat_succ]
    exact ih (k + 1) n (by omega) (by omega)
theorem B_ownedBy (hg : gB g S w np) (hR : RP x w np P) (o : Int32) : M_B_ownedBy g x o = nI (((List.range np).flatMap P).filter (q_own o)).length := by
  have hs := gB_sm hg
  have h := B_ownedBy_loop hg hR o np 0 (np + 1) (by omega) (by omega)
  unfold M_B_ownedBy
  rw [hg.2.2.1, mu_nI0 (by omega)]
  have e0 : (((List.range 0).flatMap P).filter (q_own o)).length = 0 := rfl
  rw [e0, nI_0] at h
  exact h
theorem B_clear2 (hg : gB g S w np) : ∀ (d k fuel : Nat) (z : Bk), np * w = k + d → d < fuel → w01 z.2.2.2.2 →
    (L_B_clear_26 g fuel (nI k) z).1 = z.1 ∧ ∀ j, (L_B_clear_26 g fuel (nI k) z).2.2.2.2 j = if k ≤ j ∧ j < np * w then 0 else z.2.2.2.2 j := by
  have hs := gB_sm hg
  intro d
  induction d with
  | zero =>
    intro k fuel z hk hf hw
    obtain ⟨n, rfl⟩ : ∃ n, fuel = n + 1 := ⟨fuel - 1, by omega⟩
    rw [L_B_clear_26_eq, hg.2.2.2.1, if_pos (nI_le (by omega) (by omega))]
    exact ⟨rfl, fun j => by rw [if_neg (by omega)]⟩
  | succ d ih =>
    intro k fuel z hk hf hw
    obtain ⟨n, rfl⟩ : ∃ n, fuel = n + 1 := ⟨fuel - 1, by omega⟩
    rw [L_B_clear_26_eq, hg.2.2.2.1, if_neg (nI_ge (by omega) (by omega)), nI_1, nI_clamp (by omega), nar0]
    obtain ⟨t1, t2⟩ := ih (k + 1) n (z.1, z.2.1, z.2.2.1, z.2.2.2.1, upd z.2.2.2.2 k 0) (by omega) (by omega) (w01_upd hw (Or.inl rfl))
    refine ⟨t1, fun j => ?_⟩
    rw [t2]
    by_cases c : j = k
    · rw [if_neg (by omega), if_pos (by omega), c]
      exact pk_us
    · show (if k + 1 ≤ j ∧ j < np * w then 0 else upd z.2.2.2.2 k 0 j) = _
      rw [pk_un c]
      by_cases c2 : k + 1 ≤ j ∧ j < np * w
      · rw [if_pos c2, if_pos (by omega)]
      · rw [if_neg c2, if_neg (by omega)]
theorem B_clear1 (hg : gB g S w np) : ∀ (d k fuel : Nat) (z : Bk), np = k + d → d < fuel → w01 z.2.2.2.2 →
    (∀ p, (L_B_clear_2 g fuel (nI k) z).1 p = if k ≤ p ∧ p < np then 0 else z.1 p) ∧ ∀ j, (L_B_clear_2 g fuel (nI k) z).2.2.2.2 j = if j < np * w then 0 else z.2.2.2.2 j := by
  have hs := gB_sm hg
  intro d
  induction d with
  | zero =>
    intro k fuel z hk hf hw
    obtain ⟨n, rfl⟩ : ∃ n, fuel = n + 1 := ⟨fuel - 1, by omega⟩
    rw [L_B_clear_2_eq, hg.2.2.1, if_pos (nI_le (by omega) (by omega)), hg.2.2.2.1, mu_nI0 (by omega)]
    obtain ⟨t1, t2⟩ := B_clear2 hg (np * w) 0 (np * w + 1) z (by omega) (by omega) hw
    rw [nI_0] at t1 t2
    refine ⟨fun p => by rw [t1, if_neg (by omega)], fun j => ?_⟩
    rw [t2]
    by_cases c : j < np * w
    · rw [if_pos c, if_pos (by omega)]
    · rw [if_neg c, if_neg (by omega)]
  | succ d ih =>
    intro k fuel z hk hf hw
    obtain ⟨n, rfl⟩ : ∃ n, fuel = n + 1 := ⟨fuel - 1, by omega⟩
    rw [L_B_clear_2_eq, hg.2.2.1, if_neg (nI_ge (by omega) (by omega)), nI_1, nI_clamp (by omega)]
    obtain ⟨t1, t2⟩ := ih (k + 1) n (upd z.1 k 0, z.2.1, z.2.2.1, z.2.2.2.1, z.2.2.2.2) (by omega) (by omega) hw
    refine ⟨fun p => ?_, t2⟩
    rw [t1]
    by_cases c : p = k
    · rw [if_neg (by omega), if_pos (by omega), c]
      exact pk_us
    · show (if k + 1 ≤ p ∧ p < np then 0 else upd z.1 k 0 p) = _
      rw [pk_un c]
      by_cases c2 : k + 1 ≤ p ∧ p < np
      · rw [if_pos c2, if_pos (by omega)]
      · rw [if_neg c2, if_neg (by omega)]
theorem B_clear (hg : gB g S w np) (hR : RP x w np P) : RP (M_B_clear g x) w np (fun _ => []) := by
  have hs := gB_sm hg
  unfold M_B_clear
  rw [hg.2.2.1, mu_nI0 (by omega)]
  obtain ⟨t1, t2⟩ := B_clear1 hg np 0 (np + 1) x (by omega) (by omega) hR.1
  rw [nI_0] at t1 t2
  refine ⟨fun j => ?_, fun p hp => ⟨Nat.zero_le _, ?_, fun k e he => by simp at he, fun k _ hk => ?_⟩⟩
  · rw [t2]
    by_cases c : j < np * w
    · rw [if_pos c]; exact Or.inl rfl
    · rw [if_neg c]; exact hR.1 j
  · rw [t1, if_pos (by omega), ← nI_0]
    rfl
  · rw [t2, if_pos (q_pos hp hk)]
end BankCnt
