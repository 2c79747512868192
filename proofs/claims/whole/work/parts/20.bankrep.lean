-- what a bank holds: at each place a list
def EB (x : Bk) (j : Nat) : Ent := (x.2.1 j, x.2.2.2.2 j, x.2.2.1 j, x.2.2.2.1 j)
def gB (g : GB) (S w np : Nat) : Prop := g.2.1.1 = nI S ∧ g.2.1.2 = nI w ∧ g.2.2.1 = np ∧ g.2.2.2 = np * w ∧ 0 < S ∧ S ≤ 16 ∧ 0 < w ∧ w ≤ 4 ∧ np ≤ 64
def w01 (f : Nat → Int32) : Prop := ∀ j, f j = 0 ∨ f j = 1
def RP (x : Bk) (w np : Nat) (P : Nat → List Ent) : Prop := w01 x.2.2.2.2 ∧ ∀ p, p < np → (P p).length ≤ w ∧ x.1 p = nI (P p).length ∧ (∀ k e, (P p)[k]? = some e → EB x (p * w + k) = e) ∧ (∀ k, (P p).length ≤ k → k < w → x.2.2.2.2 (p * w + k) = 0)
theorem i10 : ¬ (1 : Int32) = 0 := by decide
theorem q_pos {p np k w : Nat} (hp : p < np) (hk : k < w) : p * w + k < np * w := by
  have h := Nat.mul_le_mul_right w (Nat.succ_le_of_lt hp)
  rw [Nat.succ_mul] at h
  omega
theorem q_posd {p k w : Nat} (hk : k < w) : (p * w + k) / w = p ∧ (p * w + k) % w = k := by
  have hw : 0 < w := by omega
  rw [Nat.add_comm, Nat.add_mul_div_right _ _ hw, Nat.add_mul_mod_self_right]
  exact ⟨by rw [Nat.div_eq_of_lt hk, Nat.zero_add], Nat.mod_eq_of_lt hk⟩
theorem q_posi {p q k j w : Nat} (hk : k < w) (hj : j < w) (h : p * w + k = q * w + j) : p = q ∧ k = j := by
  have a := q_posd (p := p) hk
  have b := q_posd (p := q) hj
  rw [h] at a
  exact ⟨a.1.symm.trans b.1, a.2.symm.trans b.2⟩
theorem gB_sm {g : GB} {S w np : Nat} (hg : gB g S w np) : np * w ≤ 256 ∧ np < 2 ^ 31 ∧ w < 2 ^ 31 ∧ 0 < w ∧ w ≤ 4 ∧ np ≤ 64 := by
  obtain ⟨-, -, -, -, -, -, h1, h2, h3⟩ := hg
  have h := Nat.mul_le_mul h3 h2
  omega
theorem nI_n1 {j : Nat} (h : j < 2 ^ 31) : ¬ nI j = -1 := fun q => nI_pos h (by rw [q]; decide)
theorem q_idx {α : Type} {L : List α} {k : Nat} {e : α} (h : L[k]? = some e) : k < L.length := (List.getElem?_eq_some_iff.mp h).1
theorem q_get {α : Type} {L : List α} {k : Nat} (h : k < L.length) : ∃ e, L[k]? = some e := ⟨L[k], List.getElem?_eq_getElem h⟩
theorem nar01 {v : Int32} (h : v = 0 ∨ v = 1) : vp_nar .boolean v = v := by
  rcases h with rfl | rfl <;> decide
theorem nar0 : vp_nar .boolean (0 : Int32) = 0 := by decide
theorem nar1 : vp_nar .boolean (1 : Int32) = 1 := by decide
theorem mu_nI0 {b : Nat} (hb : b < 2 ^ 31) : mu 0 (nI b) = b := by
  have h := mu_nI (a := 0) (b := b) (by omega) hb
  rw [nI_0] at h
  exact h
section BankRows
variable {g : GB} {x : Bk} {S w np : Nat} {P : Nat → List Ent}
theorem B_size (hg : gB g S w np) (hR : RP x w np P) {p : Nat} (hp : p < np) : M_B_size g x (nI p) = nI (P p).length := by
  have hs := gB_sm hg
  unfold M_B_size
  rw [if_neg (nI_pos (by omega)), hg.2.2.1, if_neg (nI_ge hp hs.2.1), nI_clamp (by omega), (hR.2 p hp).2.1]
theorem B_size_n : M_B_size g x (-1) = 0 := by
  unfold M_B_size
  rw [if_pos (by decide)]
theorem B_isSlot (hg : gB g S w np) {j : Nat} (hj : j < np * w) : M_B_isSlot g x (nI j) = 1 := by
  have hs := gB_sm hg
  unfold M_B_isSlot
  rw [if_neg (nI_pos (by omega)), hg.2.2.2.1, if_neg (nI_ge hj (by omega))]
theorem B_isSlot_n : M_B_isSlot g x (-1) = 0 := by
  unfold M_B_isSlot
  rw [if_pos (by decide)]
theorem B_lineAt (hg : gB g S w np) {j : Nat} (hj : j < np * w) : M_B_lineAt g x (nI j) = x.2.1 j := by
  have hs := gB_sm hg
  simp only [M_B_lineAt, bnd]
  rw [B_isSlot hg hj, if_neg i10, nI_clamp (by omega)]
theorem B_versionAt (hg : gB g S w np) {j : Nat} (hj : j < np * w) : M_B_versionAt g x (nI j) = x.2.2.1 j := by
  have hs := gB_sm hg
  simp only [M_B_versionAt, bnd]
  rw [B_isSlot hg hj, if_neg i10, nI_clamp (by omega)]
theorem B_ownerAt (hg : gB g S w np) {j : Nat} (hj : j < np * w) : M_B_ownerAt g x (nI j) = x.2.2.2.1 j := by
  have hs := gB_sm hg
  simp only [M_B_ownerAt, bnd]
  rw [B_isSlot hg hj, if_neg i10, nI_clamp (by omega)]
theorem B_isWritten (hg : gB g S w np) (hw : w01 x.2.2.2.2) {j : Nat} (hj : j < np * w) : M_B_isWritten g x (nI j) = x.2.2.2.2 j := by
  have hs := gB_sm hg
  simp only [M_B_isWritten, bnd]
  rw [B_isSlot hg hj, if_neg i10, nI_clamp (by omega)]
  rcases hw j with h | h
  · rw [h, if_pos rfl]
  · rw [h, if_neg i10]
theorem B_isWritten_n : M_B_isWritten g x (-1) = 0 := by
  simp only [M_B_isWritten, bnd]
  rw [B_isSlot_n, if_pos rfl]
theorem B_placeOf (hg : gB g S w np) {c : Nat} {l : Int32} : M_B_placeOf g x (nI c) l = nI (c * S + q_st S l) := by
  simp only [M_B_placeOf, bnd]
  rw [hg.1, q_fm hg.2.2.2.2.1 hg.2.2.2.2.2.1, pk_mul, nI_add]
theorem B_slot (hg : gB g S w np) {p k : Nat} : (nI p * g.2.1.2) + nI k = nI (p * w + k) := by rw [hg.2.1, pk_mul, nI_add]
theorem RP_at (hR : RP x w np P) {p k : Nat} {e : Ent} (hp : p < np) (h : (P p)[k]? = some e) : k < w ∧ p * w + k < np * w ∧ x.2.1 (p * w + k) = e.1 ∧ x.2.2.2.2 (p * w + k) = e.2.1 ∧ x.2.2.1 (p * w + k) = e.2.2.1 ∧ x.2.2.2.1 (p * w + k) = e.2.2.2 ∧ (e.2.1 = 0 ∨ e.2.1 = 1) := by
  obtain ⟨a1, a2, a3, a4⟩ := hR.2 p hp
  have h1 := q_idx h
  have h2 := a3 k e h
  subst h2
  exact ⟨by omega, q_pos hp (by omega), rfl, rfl, rfl, rfl, hR.1 _⟩
theorem B_find_loop (hg : gB g S w np) (hR : RP x w np P) {p : Nat} (hp : p < np) (p0 l : Int32) : ∀ (d k fuel : Nat), (P p).length = k + d → d < fuel →
    (∃ k2 e, k ≤ k2 ∧ (P p)[k2]? = some e ∧ e.1 = l ∧ L_B_find_10 g x p0 l fuel (nI p) (nI k) = nI (p * w + k2)) ∨ ((∀ k2 e, k ≤ k2 → (P p)[k2]? = some e → ¬ e.1 = l) ∧ L_B_find_10 g x p0 l fuel (nI p) (nI k) = -1) := by
  intro d
  have hs := gB_sm hg
  have hle := (hR.2 p hp).1
  induction d with
  | zero =>
    intro k fuel hk hf
    obtain ⟨n, rfl⟩ : ∃ n, fuel = n + 1 := ⟨fuel - 1, by omega⟩
    refine Or.inr ⟨fun k2 e h2 he => absurd (q_idx he) (by omega), ?_⟩
    rw [L_B_find_10_eq]
    simp only [bnd]
    rw [B_size hg hR hp, if_pos (nI_le (by omega) (by omega))]
  | succ d ih =>
    intro k fuel hk hf
    obtain ⟨n, rfl⟩ : ∃ n, fuel = n + 1 := ⟨fuel - 1, by omega⟩
    obtain ⟨e, he⟩ := q_get (L := P p) (k := k) (by omega)
    obtain ⟨b1, b2, b3, -⟩ := RP_at hR hp he
    rw [L_B_find_10_eq]
    simp only [bnd]
    rw [B_size hg hR hp, if_neg (nI_ge (by omega) (by omega)), B_slot hg, B_lineAt hg b2, b3]
    by_cases hl : e.1 = l
    · rw [if_pos hl]
      exact Or.inl ⟨k, e, Nat.le_refl _, he, hl, rfl⟩
    · rw [if_neg hl, nI_1]
      rcases ih (k + 1) n (by omega) (by omega) with ⟨k2, e2, c1, c2⟩ | ⟨c1, c2⟩
      · exact Or.inl ⟨k2, e2, by omega, c2⟩
      · refine Or.inr ⟨fun k2 e2 h2 he2 => ?_, c2⟩
        rcases Nat.eq_or_lt_of_le h2 with q | q
        · subst q
          rw [he] at he2
          cases he2
          exact hl
        · exact c1 k2 e2 (by omega) he2
theorem B_findp (hg : gB g S w np) (hR : RP x w np P) {p : Nat} {q l : Int32} (hp : p < np) (hq : M_B_placeOf g x q l = nI p) :
    (∃ k e, (P p)[k]? = some e ∧ e.1 = l ∧ M_B_find g x q l = nI (p * w + k)) ∨ ((∀ e ∈ P p, ¬ e.1 = l) ∧ M_B_find g x q l = -1) := by
  have hs := gB_sm hg
  have hle := (hR.2 _ hp).1
  have hL := B_find_loop hg hR hp q l (P p).length 0 ((P p).length + 1) (by omega) (by omega)
  have e1 : M_B_find g x q l = L_B_find_10 g x q l ((P p).length + 1) (nI p) (nI 0) := by
    unfold M_B_find
    rw [bnd_eq hq.symm, B_size hg hR hp, mu_nI0 (by omega), nI_0]
  rw [e1]
  rcases hL with ⟨k, e, -, h⟩ | ⟨h1, h2⟩
  · exact Or.inl ⟨k, e, h⟩
  · refine Or.inr ⟨fun e he => ?_, h2⟩
    obtain ⟨k, hk⟩ := List.mem_iff_getElem?.mp he
    exact h1 k e (Nat.zero_le _) hk
theorem B_find (hg : gB g S w np) (hR : RP x w np P) {c : Nat} {l : Int32} (hp : c * S + q_st S l < np) :
    (∃ k e, (P (c * S + q_st S l))[k]? = some e ∧ e.1 = l ∧ M_B_find g x (nI c) l = nI ((c * S + q_st S l) * w + k)) ∨ ((∀ e ∈ P (c * S + q_st S l), ¬ e.1 = l) ∧ M_B_find g x (nI c) l = -1) := B_findp hg hR hp (B_placeOf hg)
theorem B_isFull (hg : gB g S w np) (hR : RP x w np P) {p : Nat} (hp : p < np) : M_B_isFull g x (nI p) = if (P p).length < w then 0 else 1 := by
  have hs := gB_sm hg
  have hle := (hR.2 _ hp).1
  simp only [M_B_isFull, bnd]
  rw [B_size hg hR hp, hg.2.1]
  by_cases h : (P p).length < w
  · rw [if_pos h, if_pos (nI_lt h (by omega))]
  · rw [if_neg h, if_neg (nI_nlt (by omega) (by omega))]
theorem B_oldest (hg : gB g S w np) (hR : RP x w np P) {p n : Nat} (hp : p < np) (hn : (P p).length = n + 1) : M_B_oldest g x (nI p) = nI (p * w + n) := by
  have hs := gB_sm hg
  have hle := (hR.2 _ hp).1
  simp only [M_B_oldest, bnd]
  rw [B_size hg hR hp, hn, if_neg (nI_nle (by omega) (by omega)), B_slot hg, ← Nat.add_assoc, nI_pred]
theorem B_oldest_n : M_B_oldest g x (-1) = -1 := by
  simp only [M_B_oldest, bnd]
  rw [B_size_n, if_pos (by decide)]
theorem B_swap (hg : gB g S w np) (hw : w01 x.2.2.2.2) {a b : Nat} (ha : a < np * w) (hb : b < np * w) : (M_B_swap g x (nI a) (nI b)).1 = x.1 ∧ w01 (M_B_swap g x (nI a) (nI b)).2.2.2.2 ∧ ∀ j, EB (M_B_swap g x (nI a) (nI b)) j = if j = b then EB x a else if j = a then EB x b else EB x j := by
  have hs := gB_sm hg
  have h : M_B_swap g x (nI a) (nI b) = (x.1, (upd (upd x.2.1 a (x.2.1 b)) b (x.2.1 a)), (upd (upd x.2.2.1 a (x.2.2.1 b)) b (x.2.2.1 a)), (upd (upd x.2.2.2.1 a (x.2.2.2.1 b)) b (x.2.2.2.1 a)), (upd (upd x.2.2.2.2 a (x.2.2.2.2 b)) b (x.2.2.2.2 a))) := by
    simp only [M_B_swap, bnd]
    rw [B_isSlot hg ha, if_neg i10, B_isSlot hg hb, if_neg i10, nI_clamp (by omega), nI_clamp (by omega), nar01 (hw a), nar01 (hw b)]
  rw [h]
  refine ⟨rfl, fun j => ?_, fun j => ?_⟩
  · show upd (upd x.2.2.2.2 a (x.2.2.2.2 b)) b (x.2.2.2.2 a) j = 0 ∨ upd (upd x.2.2.2.2 a (x.2.2.2.2 b)) b (x.2.2.2.2 a) j = 1
    unfold upd
    by_cases h1 : j = b
    · rw [if_pos h1]; exact hw a
    · rw [if_neg h1]
      by_cases h2 : j = a
      · rw [if_pos h2]; exact hw b
      · rw [if_neg h2]; exact hw j
  · unfold EB upd
    by_cases h1 : j = b
    · simp only [if_pos h1]
    · by_cases h2 : j = a
      · simp only [if_neg h1, if_pos h2]
      · simp only [if_neg h1, if_neg h2]
theorem B_use_loop (hg : gB g S w np) {base r : Nat} (hb : base + r < np * w) : ∀ (d k fuel : Nat) (z : Bk), r = k + d → d < fuel → w01 z.2.2.2.2 →
    (L_B_useLast_9 g (nI (base + r)) fuel (nI r) (nI k) z).1 = z.1 ∧ w01 (L_B_useLast_9 g (nI (base + r)) fuel (nI r) (nI k) z).2.2.2.2 ∧ ∀ j, EB (L_B_useLast_9 g (nI (base + r)) fuel (nI r) (nI k) z) j = if j = base then EB z (base + d) else if base < j ∧ j ≤ base + d then EB z (j - 1) else EB z j := by
  have hs := gB_sm hg
  intro d
  induction d with
  | zero =>
    intro k fuel z hk hf hw
    obtain ⟨n, rfl⟩ : ∃ n, fuel = n + 1 := ⟨fuel - 1, by omega⟩
    rw [L_B_useLast_9_eq, if_pos (nI_le (by omega) (by omega))]
    refine ⟨rfl, hw, fun j => ?_⟩
    by_cases h : j = base
    · rw [if_pos h, h]; rfl
    · rw [if_neg h, if_neg (by omega)]
  | succ d ih =>
    intro k fuel z hk hf hw
    obtain ⟨n, rfl⟩ : ∃ n, fuel = n + 1 := ⟨fuel - 1, by omega⟩
    have e1 : nI (base + r) - nI k = nI (base + d + 1) := by rw [pk_sub (by omega)]; exact congrArg nI (by omega)
    rw [L_B_useLast_9_eq, if_neg (nI_ge (by omega) (by omega))]
    simp only [bnd]
    rw [e1, nI_pred, nI_1]
    obtain ⟨s1, s2, s3⟩ := B_swap hg hw (a := base + d + 1) (b := base + d) (by omega) (by omega)
    obtain ⟨t1, t2, t3⟩ := ih (k + 1) n (M_B_swap g z (nI (base + d + 1)) (nI (base + d))) (by omega) (by omega) s2
    refine ⟨t1.trans s1, t2, fun j => ?_⟩
    rw [t3]
    by_cases h : j = base
    · rw [if_pos h, if_pos h, s3, if_pos rfl]; rfl
    · rw [if_neg h, if_neg h]
      by_cases h2 : base < j ∧ j ≤ base + d
      · rw [if_pos h2, if_pos (by omega), s3, if_neg (by omega), if_neg (by omega)]
      · rw [if_neg h2, s3]
        by_cases h3 : j = base + d + 1
        · rw [if_neg (by omega), if_pos h3, if_pos (by omega), h3]; rfl
        · by_cases h4 : j = base + d
          · omega
          · rw [if_neg h4, if_neg h3, if_neg (by omega)]
theorem B_useLast0 (hg : gB g S w np) (hw : w01 x.2.2.2.2) {p k : Nat} (hp : p < np) (hk : k < w) :
    (M_B_useLast g x (nI (p * w + k))).1 = x.1 ∧ w01 (M_B_useLast g x (nI (p * w + k))).2.2.2.2 ∧ ∀ j, EB (M_B_useLast g x (nI (p * w + k))) j = if j = p * w then EB x (p * w + k) else if p * w < j ∧ j ≤ p * w + k then EB x (j - 1) else EB x j := by
  have hs := gB_sm hg
  have hb := q_pos hp hk
  unfold M_B_useLast
  rw [hg.2.1, pk_rem (by omega) (by omega) (by omega), (q_posd hk).2, ← nI_0, mu_nI (by omega) (by omega)]
  exact B_use_loop hg hb k 0 (k - 0 + 1) x (by omega) (by omega) hw
end BankRows
