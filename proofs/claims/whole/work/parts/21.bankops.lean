-- what a bank's writing methods do to its lists
theorem q_sep {p q k w : Nat} (hk : k < w) (h : ¬ q = p) : q * w + k < p * w ∨ p * w + w ≤ q * w + k := by
  rcases Nat.lt_or_ge q p with h1 | h1
  · have h2 := Nat.mul_le_mul_right w (Nat.succ_le_of_lt h1)
    rw [Nat.succ_mul] at h2
    omega
  · have h2 := Nat.mul_le_mul_right w (Nat.succ_le_of_lt (Nat.lt_of_le_of_ne h1 (fun q => h q.symm)))
    rw [Nat.succ_mul] at h2
    omega
theorem RP_congr {x : Bk} {w np : Nat} {P Q : Nat → List Ent} (h : ∀ p, p < np → P p = Q p) (hR : RP x w np P) : RP x w np Q := ⟨hR.1, fun p hp => by rw [← h p hp]; exact hR.2 p hp⟩
theorem RP_upd {x z : Bk} {w np : Nat} {P : Nat → List Ent} (hR : RP x w np P) (p : Nat) (K : List Ent) (h1 : w01 z.2.2.2.2) (h2 : K.length ≤ w) (h3 : z.1 p = nI K.length) (h3' : ∀ q, ¬ q = p → z.1 q = x.1 q) (h4 : ∀ k e, K[k]? = some e → EB z (p * w + k) = e) (h5 : ∀ k, K.length ≤ k → k < w → z.2.2.2.2 (p * w + k) = 0) (h6 : ∀ j, (j < p * w ∨ p * w + w ≤ j) → EB z j = EB x j) : RP z w np (q_set P p K) := by
  refine ⟨h1, fun q hq => ?_⟩
  by_cases h : q = p
  · subst h
    rw [q_set_s]
    exact ⟨h2, h3, h4, h5⟩
  · rw [q_set_n h]
    obtain ⟨a1, a2, a3, a4⟩ := hR.2 q hq
    refine ⟨a1, by rw [h3' q h]; exact a2, fun k e he => ?_, fun k hk hk2 => ?_⟩
    · rw [h6 _ (q_sep (by have := q_idx he; omega) h)]
      exact a3 k e he
    · have e1 := h6 _ (q_sep hk2 h)
      have e2 : z.2.2.2.2 (q * w + k) = x.2.2.2.2 (q * w + k) := congrArg (fun e : Ent => e.2.1) e1
      rw [e2]
      exact a4 k hk hk2
section BankOps
variable {g : GB} {x : Bk} {S w np : Nat} {P : Nat → List Ent}
theorem EB_w {x z : Bk} {i j : Nat} (h : EB z j = EB x i) : z.2.2.2.2 j = x.2.2.2.2 i := congrArg (fun e : Ent => e.2.1) h
theorem B_useLast (hg : gB g S w np) (hR : RP x w np P) {p k : Nat} {e : Ent} (hp : p < np) (he : (P p)[k]? = some e) : RP (M_B_useLast g x (nI (p * w + k))) w np (q_set P p (e :: (P p).eraseIdx k)) := by
  obtain ⟨a1, a2, a3, a4⟩ := hR.2 p hp
  have hk := q_idx he
  obtain ⟨s1, s2, s3⟩ := B_useLast0 hg hR.1 (k := k) hp (by omega)
  have hlen : (e :: (P p).eraseIdx k).length = (P p).length := by
    rw [List.length_cons, List.length_eraseIdx_of_lt hk]
    omega
  refine RP_upd hR p _ s2 (by omega) (by rw [s1, hlen, a2]) (fun q _ => by rw [s1]) (fun k2 e2 h2 => ?_) (fun k2 h2 h3 => ?_) (fun j hj => ?_)
  · rw [s3]
    cases k2 with
    | zero =>
      have h2 : e = e2 := by simpa using h2
      rw [if_pos (Nat.add_zero _), ← h2]
      exact a3 k e he
    | succ k2 =>
      have h2 : ((P p).eraseIdx k)[k2]? = some e2 := by simpa using h2
      rw [List.getElem?_eraseIdx] at h2
      rw [if_neg (by omega)]
      by_cases c : k2 < k
      · rw [if_pos c] at h2
        rw [if_pos (by omega)]
        exact a3 k2 e2 h2
      · rw [if_neg c] at h2
        rw [if_neg (by omega)]
        exact a3 (k2 + 1) e2 h2
  · rw [hlen] at h2
    rw [EB_w (x := x) (i := p * w + k2) (by rw [s3, if_neg (by omega), if_neg (by omega)])]
    exact a4 k2 h2 h3
  · rw [s3, if_neg (by omega), if_neg (by omega)]
theorem B_clean0 (hg : gB g S w np) {j : Nat} (hj : j < np * w) : M_B_clean g x (nI j) = (x.1, x.2.1, x.2.2.1, x.2.2.2.1, upd x.2.2.2.2 j 0) := by
  have hs := gB_sm hg
  simp only [M_B_clean, bnd]
  rw [B_isSlot hg hj, if_neg i10, nI_clamp (by omega), nar0]
theorem w01_upd {f : Nat → Int32} (h : w01 f) {k : Nat} {v : Int32} (hv : v = 0 ∨ v = 1) : w01 (upd f k v) := fun j => by
  unfold upd
  by_cases c : j = k
  · rw [if_pos c]; exact hv
  · rw [if_neg c]; exact h j
theorem B_drop_loop (hg : gB g S w np) {p : Nat} (hp : p < np) (p0 : Int32) : ∀ (d k fuel : Nat) (z : Bk), k + d < np * w → d < fuel → w01 z.2.2.2.2 →
    (L_B_drop_47 g p0 fuel (nI p) (nI (k + d)) (nI k) z).1 = upd z.1 p (z.1 p - 1) ∧ w01 (L_B_drop_47 g p0 fuel (nI p) (nI (k + d)) (nI k) z).2.2.2.2 ∧ ∀ j, EB (L_B_drop_47 g p0 fuel (nI p) (nI (k + d)) (nI k) z) j = if k ≤ j ∧ j < k + d then EB z (j + 1) else if j = k + d then ((EB z k).1, 0, (EB z k).2.2) else EB z j := by
  have hs := gB_sm hg
  intro d
  induction d with
  | zero =>
    intro k fuel z hk hf hw
    obtain ⟨n, rfl⟩ : ∃ n, fuel = n + 1 := ⟨fuel - 1, by omega⟩
    rw [L_B_drop_47_eq, if_pos (nI_le (by omega) (by omega))]
    simp only [bnd]
    rw [B_clean0 hg (by omega), nI_clamp (by omega)]
    refine ⟨rfl, w01_upd hw (Or.inl rfl), fun j => ?_⟩
    rw [if_neg (by omega)]
    by_cases h : j = k + 0
    · rw [if_pos h]
      have h : j = k := h
      subst h
      unfold EB upd
      simp
    · rw [if_neg h]
      unfold EB
      simp only [pk_un h]
  | succ d ih =>
    intro k fuel z hk hf hw
    obtain ⟨n, rfl⟩ : ∃ n, fuel = n + 1 := ⟨fuel - 1, by omega⟩
    rw [L_B_drop_47_eq, if_neg (nI_ge (by omega) (by omega))]
    simp only [bnd]
    rw [nI_1]
    obtain ⟨s1, s2, s3⟩ := B_swap hg hw (a := k) (b := k + 1) (by omega) (by omega)
    obtain ⟨t1, t2, t3⟩ := ih (k + 1) n (M_B_swap g z (nI k) (nI (k + 1))) (by omega) (by omega) s2
    have e1 : k + (d + 1) = k + 1 + d := by omega
    rw [e1]
    refine ⟨by rw [t1, s1], t2, fun j => ?_⟩
    rw [t3]
    by_cases h1 : k + 1 ≤ j ∧ j < k + 1 + d
    · rw [if_pos h1, if_pos (by omega), s3, if_neg (by omega), if_neg (by omega)]
    · rw [if_neg h1]
      by_cases h2 : j = k + 1 + d
      · rw [if_pos h2, if_neg (by omega), if_pos h2, s3, if_pos rfl]
      · rw [if_neg h2, s3]
        by_cases h3 : j = k
        · rw [if_neg (by omega), if_pos h3, if_pos (by omega), h3]
        · rw [if_neg (by omega), if_neg h3, if_neg (by omega), if_neg h2]
theorem B_drop_n : M_B_drop g x (-1) = x := by
  unfold M_B_drop
  rw [bnd_eq B_isSlot_n.symm, if_pos rfl]
  unfold L_B_drop_19
  rw [bnd_eq B_oldest_n.symm, if_pos (by decide)]
theorem B_drop (hg : gB g S w np) (hR : RP x w np P) {p k : Nat} {e : Ent} (hp : p < np) (he : (P p)[k]? = some e) : RP (M_B_drop g x (nI (p * w + k))) w np (q_set P p ((P p).eraseIdx k)) := by
  have hs := gB_sm hg
  obtain ⟨a1, a2, a3, a4⟩ := hR.2 p hp
  have hk := q_idx he
  obtain ⟨n, hn⟩ : ∃ n, (P p).length = n + 1 := ⟨(P p).length - 1, by omega⟩
  have hlast := q_pos (p := p) (np := np) (k := n) (w := w) hp (by omega)
  obtain ⟨d, hd⟩ : ∃ d, n = k + d := ⟨n - k, by omega⟩
  have e1 : p * w + n = p * w + k + d := by omega
  obtain ⟨s1, s2, s3⟩ := B_drop_loop hg hp (nI (p * w + k)) d (p * w + k) (d + 1) x (by omega) (by omega) hR.1
  have e2 : M_B_drop g x (nI (p * w + k)) = L_B_drop_47 g (nI (p * w + k)) (d + 1) (nI p) (nI (p * w + k + d)) (nI (p * w + k)) x := by
    unfold M_B_drop
    rw [bnd_eq (B_isSlot hg (by omega)).symm, if_neg i10, hg.2.1, pk_div (by omega) (by omega) (by omega), (q_posd (by omega)).1]
    unfold L_B_drop_19
    rw [bnd_eq (B_oldest hg hR hp hn).symm, if_neg (nI_pos (by omega)), hg.2.2.1, if_neg (nI_ge hp (by omega)), if_pos (nI_le (by omega) (by omega)), mu_nI (by omega) (by omega), e1]
    have e3 : p * w + k + d - (p * w + k) = d := by omega
    rw [e3]
  rw [e2]
  have hlen : ((P p).eraseIdx k).length = n := by
    rw [List.length_eraseIdx_of_lt hk]
    omega
  refine RP_upd hR p _ s2 (by omega) (by rw [s1, pk_us, hlen, a2, hn, nI_pred]) (fun q hq => by rw [s1, pk_un hq]) (fun k2 e4 h2 => ?_) (fun k2 h2 h3 => ?_) (fun j hj => ?_)
  · have h5 := q_idx h2
    rw [hlen] at h5
    rw [List.getElem?_eraseIdx] at h2
    rw [s3]
    by_cases c : k2 < k
    · rw [if_pos c] at h2
      rw [if_neg (by omega), if_neg (by omega)]
      exact a3 k2 e4 h2
    · rw [if_neg c] at h2
      rw [if_pos (by omega)]
      exact a3 (k2 + 1) e4 h2
  · rw [hlen] at h2
    have h6 := s3 (p * w + k2)
    rw [if_neg (by omega)] at h6
    by_cases c : p * w + k2 = p * w + k + d
    · rw [if_pos c] at h6
      exact congrArg (fun e : Ent => e.2.1) h6
    · rw [if_neg c] at h6
      rw [EB_w h6]
      exact a4 k2 (by omega) h3
  · rw [s3, if_neg (by omega), if_neg (by omega)]
theorem B_clean (hg : gB g S w np) (hR : RP x w np P) {p k : Nat} {e : Ent} (hp : p < np) (he : (P p)[k]? = some e) : RP (M_B_clean g x (nI (p * w + k))) w np (q_set P p ((P p).set k (e.1, 0, e.2.2))) := by
  have hs := gB_sm hg
  obtain ⟨a1, a2, a3, a4⟩ := hR.2 p hp
  have hk := q_idx he
  have hb := q_pos (p := p) (np := np) (k := k) (w := w) hp (by omega)
  rw [B_clean0 hg hb]
  have key : ∀ j, EB (x.1, x.2.1, x.2.2.1, x.2.2.2.1, upd x.2.2.2.2 (p * w + k) 0) j = if j = p * w + k then ((EB x j).1, 0, (EB x j).2.2) else EB x j := fun j => by
    unfold EB upd
    by_cases c : j = p * w + k
    · simp only [if_pos c]
    · simp only [if_neg c]
  refine RP_upd hR p _ (w01_upd hR.1 (Or.inl rfl)) (by rw [List.length_set]; exact a1) (by rw [List.length_set]; exact a2) (fun q hq => rfl) (fun k2 e2 h2 => ?_) (fun k2 h2 h3 => ?_) (fun j hj => ?_)
  · rw [key]
    rw [List.getElem?_set] at h2
    by_cases c : k = k2
    · subst c
      rw [if_pos rfl, if_pos hk] at h2
      rw [if_pos rfl, a3 k e he]
      exact Option.some.inj h2
    · rw [if_neg c] at h2
      rw [if_neg (by omega)]
      exact a3 k2 e2 h2
  · rw [List.length_set] at h2
    show upd x.2.2.2.2 (p * w + k) 0 (p * w + k2) = 0
    rw [pk_un (by omega)]
    exact a4 k2 h2 h3
  · rw [key, if_neg (by omega)]
theorem B_rewrite (hg : gB g S w np) (hR : RP x w np P) {p k : Nat} {e : Ent} (v : Int32) (hp : p < np) (he : (P p)[k]? = some e) : RP (M_B_rewrite g x (nI (p * w + k)) v) w np (q_set P p ((P p).set k (e.1, 1, v, e.2.2.2))) := by
  have hs := gB_sm hg
  obtain ⟨a1, a2, a3, a4⟩ := hR.2 p hp
  have hk := q_idx he
  have hb := q_pos (p := p) (np := np) (k := k) (w := w) hp (by omega)
  have e0 : M_B_rewrite g x (nI (p * w + k)) v = (x.1, x.2.1, upd x.2.2.1 (p * w + k) v, x.2.2.2.1, upd x.2.2.2.2 (p * w + k) 1) := by
    simp only [M_B_rewrite, bnd]
    rw [B_isSlot hg hb, if_neg i10, nI_clamp (by omega), nar1]
  rw [e0]
  have key : ∀ j, EB (x.1, x.2.1, upd x.2.2.1 (p * w + k) v, x.2.2.2.1, upd x.2.2.2.2 (p * w + k) 1) j = if j = p * w + k then ((EB x j).1, 1, v, (EB x j).2.2.2) else EB x j := fun j => by
    unfold EB upd
    by_cases c : j = p * w + k
    · simp only [if_pos c]
    · simp only [if_neg c]
  refine RP_upd hR p _ (w01_upd hR.1 (Or.inr rfl)) (by rw [List.length_set]; exact a1) (by rw [List.length_set]; exact a2) (fun q hq => rfl) (fun k2 e2 h2 => ?_) (fun k2 h2 h3 => ?_) (fun j hj => ?_)
  · rw [key]
    rw [List.getElem?_set] at h2
    by_cases c : k = k2
    · subst c
      rw [if_pos rfl, if_pos hk] at h2
      rw [if_pos rfl, a3 k e he]
      exact Option.some.inj h2
    · rw [if_neg c] at h2
      rw [if_neg (by omega)]
      exact a3 k2 e2 h2
  · rw [List.length_set] at h2
    show upd x.2.2.2.2 (p * w + k) 1 (p * w + k2) = 0
    rw [pk_un (by omega)]
    exact a4 k2 h2 h3
  · rw [key, if_neg (by omega)]
theorem B_put (hg : gB g S w np) (hR : RP x w np P) {p : Nat} {l v b o : Int32} (hb : b = 0 ∨ b = 1) (hp : p < np) (hl : (P p).length < w) : RP (M_B_put g x (nI p) l v b o) w np (q_set P p ((l, b, v, o) :: P p)) := by
  have hs := gB_sm hg
  obtain ⟨a1, a2, a3, a4⟩ := hR.2 p hp
  have hsl := q_pos (p := p) (np := np) (k := (P p).length) (w := w) hp hl
  have hf : M_B_isFull g x (nI p) = 0 := by rw [B_isFull hg hR hp, if_pos hl]
  have e0 : M_B_put g x (nI p) l v b o = M_B_useLast g (upd x.1 p (nI ((P p).length + 1)), upd x.2.1 (p * w + (P p).length) l, upd x.2.2.1 (p * w + (P p).length) v, upd x.2.2.2.1 (p * w + (P p).length) o, upd x.2.2.2.2 (p * w + (P p).length) b) (nI (p * w + (P p).length)) := by
    unfold M_B_put
    rw [if_neg (nI_pos (by omega)), hg.2.2.1, if_neg (nI_ge hp (by omega)), bnd_eq hf.symm, if_pos rfl, nI_clamp (n := p) (by omega), a2, B_slot hg, bnd_eq (B_isSlot hg hsl).symm, if_neg i10, nI_clamp (by omega), nI_1, nar01 hb]
    rfl
  rw [e0]
  have key : ∀ j, EB (upd x.1 p (nI ((P p).length + 1)), upd x.2.1 (p * w + (P p).length) l, upd x.2.2.1 (p * w + (P p).length) v, upd x.2.2.2.1 (p * w + (P p).length) o, upd x.2.2.2.2 (p * w + (P p).length) b) j = if j = p * w + (P p).length then (l, b, v, o) else EB x j := fun j => by
    unfold EB upd
    by_cases c : j = p * w + (P p).length
    · simp only [if_pos c]
    · simp only [if_neg c]
  have hR2 : RP (upd x.1 p (nI ((P p).length + 1)), upd x.2.1 (p * w + (P p).length) l, upd x.2.2.1 (p * w + (P p).length) v, upd x.2.2.2.1 (p * w + (P p).length) o, upd x.2.2.2.2 (p * w + (P p).length) b) w np (q_set P p (P p ++ [(l, b, v, o)])) := by
    have hlen : (P p ++ [(l, b, v, o)]).length = (P p).length + 1 := by simp
    refine RP_upd hR p _ (w01_upd hR.1 hb) (by omega) (by rw [hlen]; exact pk_us) (fun q hq => pk_un hq) (fun k2 e2 h2 => ?_) (fun k2 h2 h3 => ?_) (fun j hj => ?_)
    · rw [key]
      rw [List.getElem?_append] at h2
      by_cases c : k2 < (P p).length
      · rw [if_pos c] at h2
        rw [if_neg (by omega)]
        exact a3 k2 e2 h2
      · rw [if_neg c] at h2
        have h5 := q_idx h2
        have h6 : k2 - (P p).length = 0 := by simpa using h5
        rw [h6] at h2
        rw [if_pos (by omega)]
        exact Option.some.inj h2
    · rw [hlen] at h2
      show upd x.2.2.2.2 (p * w + (P p).length) b (p * w + k2) = 0
      rw [pk_un (by omega)]
      exact a4 k2 (by omega) h3
    · rw [key, if_neg (by omega)]
  have h7 := B_useLast hg hR2 (p := p) (k := (P p).length) (e := (l, b, v, o)) hp (by rw [q_set_s]; simp)
  refine RP_congr (fun q hq => ?_) h7
  by_cases c : q = p
  · subst c
    rw [q_set_s, q_set_s, q_set_s, List.eraseIdx_append_of_length_le (Nat.le_refl _)]
    simp
  · rw [q_set_n c, q_set_n c, q_set_n c]
end BankOps
