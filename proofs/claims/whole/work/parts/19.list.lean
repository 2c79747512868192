-- lists of entries (line, written, version, owner): what both sides' rows hold
abbrev Ent : Type := Int32 × Int32 × Int32 × Int32
def q_look (l : Int32) (L : List Ent) : Option Ent := L.find? (fun e => decide (e.1 = l))
def q_rm (l : Int32) (L : List Ent) : List Ent := L.filter (fun e => decide (¬ e.1 = l))
def q_md (l : Int32) (f : Ent → Ent) (L : List Ent) : List Ent := L.map (fun e => if e.1 = l then f e else e)
def q_nd (L : List Ent) : Prop := L.Pairwise (fun a b => ¬ a.1 = b.1)
def q_st (S : Nat) (l : Int32) : Nat := (l.toInt % (S : Int)).toNat
def q_pl (S : Nat) (L : List Ent) (s : Nat) : List Ent := L.filter (fun e => decide (q_st S e.1 = s))
def q_set (L : Nat → List Ent) (c : Nat) (K : List Ent) : Nat → List Ent := fun j => if j = c then K else L j
theorem q_set_s {L : Nat → List Ent} {c : Nat} {K : List Ent} : q_set L c K c = K := if_pos rfl
theorem q_set_n {L : Nat → List Ent} {c j : Nat} {K : List Ent} (h : ¬ j = c) : q_set L c K j = L j := if_neg h
theorem q_look_none {l : Int32} {L : List Ent} : q_look l L = none ↔ ∀ e ∈ L, ¬ e.1 = l := by
  unfold q_look
  rw [List.find?_eq_none]
  exact ⟨fun h e he q => h e he (decide_eq_true q), fun h e he q => h e he (of_decide_eq_true q)⟩
theorem q_look_some {l : Int32} {L : List Ent} {e : Ent} (h : q_look l L = some e) : e ∈ L ∧ e.1 = l :=
  ⟨List.mem_of_find?_eq_some h, of_decide_eq_true (List.find?_some (p := fun e : Ent => decide (e.1 = l)) h)⟩
theorem q_nd_inj {L : List Ent} (nd : q_nd L) {a b : Ent} (ha : a ∈ L) (hb : b ∈ L) (h : a.1 = b.1) : a = b := by
  induction L with
  | nil => cases ha
  | cons x L ih =>
    unfold q_nd at nd
    rw [List.pairwise_cons] at nd
    rcases List.mem_cons.mp ha with ha2 | ha2
    · rcases List.mem_cons.mp hb with hb2 | hb2
      · rw [ha2, hb2]
      · exact absurd (by rw [← ha2]; exact h) (nd.1 b hb2)
    · rcases List.mem_cons.mp hb with hb2 | hb2
      · exact absurd (by rw [← hb2]; exact h.symm) (nd.1 a ha2)
      · exact ih nd.2 ha2 hb2
theorem q_look_of {L : List Ent} (nd : q_nd L) {e : Ent} (h : e ∈ L) : q_look e.1 L = some e := by
  cases h2 : q_look e.1 L with
  | none => exact absurd rfl (q_look_none.mp h2 e h)
  | some e' =>
    obtain ⟨a, b⟩ := q_look_some h2
    rw [q_nd_inj nd a h b]
theorem q_rm_id {l : Int32} {L : List Ent} (h : ∀ e ∈ L, ¬ e.1 = l) : q_rm l L = L := by
  unfold q_rm
  rw [List.filter_eq_self]
  exact fun e he => decide_eq_true (h e he)
theorem q_md_id {l : Int32} {f : Ent → Ent} {L : List Ent} (h : ∀ e ∈ L, ¬ e.1 = l) : q_md l f L = L := by
  unfold q_md
  conv => rhs; rw [← List.map_id L]
  exact List.map_congr_left (fun e he => by rw [if_neg (h e he)]; rfl)
theorem q_er {L : List Ent} (nd : q_nd L) {k : Nat} {e : Ent} (h : L[k]? = some e) : L.eraseIdx k = q_rm e.1 L := by
  induction L generalizing k with
  | nil => cases h
  | cons x L ih =>
    unfold q_nd at nd
    rw [List.pairwise_cons] at nd
    cases k with
    | zero =>
      have h : x = e := by simpa using h
      subst h
      have h2 : q_rm x.1 (x :: L) = q_rm x.1 L := by simp [q_rm]
      rw [h2, q_rm_id (fun e he q => nd.1 e he q.symm)]
      rfl
    | succ k =>
      have h : L[k]? = some e := by simpa using h
      have h2 : ¬ x.1 = e.1 := nd.1 e (List.mem_of_getElem? h)
      have h3 : q_rm e.1 (x :: L) = x :: q_rm e.1 L := by simp [q_rm, h2]
      rw [h3, List.eraseIdx_cons_succ, ih nd.2 h]
theorem q_sm {L : List Ent} (nd : q_nd L) {k : Nat} {e : Ent} (f : Ent → Ent) (h : L[k]? = some e) : L.set k (f e) = q_md e.1 f L := by
  induction L generalizing k with
  | nil => cases h
  | cons x L ih =>
    unfold q_nd at nd
    rw [List.pairwise_cons] at nd
    cases k with
    | zero =>
      have h : x = e := by simpa using h
      subst h
      have h2 : q_md x.1 f (x :: L) = f x :: q_md x.1 f L := by simp [q_md]
      rw [h2, q_md_id (fun e he q => nd.1 e he q.symm)]
      rfl
    | succ k =>
      have h : L[k]? = some e := by simpa using h
      have h2 : ¬ x.1 = e.1 := nd.1 e (List.mem_of_getElem? h)
      have h3 : q_md e.1 f (x :: L) = x :: q_md e.1 f L := by simp [q_md, h2]
      rw [h3, List.set_cons_succ, ih nd.2 h]
theorem q_mem_rm {l : Int32} {L : List Ent} {e : Ent} : e ∈ q_rm l L ↔ e ∈ L ∧ ¬ e.1 = l := by
  unfold q_rm
  rw [List.mem_filter, decide_eq_true_iff]
theorem q_mem_pl {S s : Nat} {L : List Ent} {e : Ent} : e ∈ q_pl S L s ↔ e ∈ L ∧ q_st S e.1 = s := by
  unfold q_pl
  rw [List.mem_filter, decide_eq_true_iff]
theorem q_mem_md {l : Int32} {f : Ent → Ent} {L : List Ent} {e : Ent} : e ∈ q_md l f L ↔ ∃ a ∈ L, (if a.1 = l then f a else a) = e := by
  unfold q_md
  rw [List.mem_map]
theorem q_nd_rm {l : Int32} {L : List Ent} (nd : q_nd L) : q_nd (q_rm l L) := List.Pairwise.filter _ nd
theorem q_nd_pl {S s : Nat} {L : List Ent} (nd : q_nd L) : q_nd (q_pl S L s) := List.Pairwise.filter _ nd
theorem q_md_key {l : Int32} {f : Ent → Ent} (hf : ∀ e, (f e).1 = e.1) (a : Ent) : (if a.1 = l then f a else a).1 = a.1 := by
  split
  · exact hf a
  · rfl
theorem q_nd_md {l : Int32} {f : Ent → Ent} (hf : ∀ e, (f e).1 = e.1) {L : List Ent} (nd : q_nd L) : q_nd (q_md l f L) := by
  unfold q_nd q_md
  rw [List.pairwise_map]
  exact List.Pairwise.imp (fun {a b} h => by rw [q_md_key hf, q_md_key hf]; exact h) nd
theorem q_nd_cons {e : Ent} {L : List Ent} (nd : q_nd L) (h : q_look e.1 L = none) : q_nd (e :: L) := by
  unfold q_nd
  rw [List.pairwise_cons]
  exact ⟨fun b hb q => q_look_none.mp h b hb q.symm, nd⟩
theorem q_pl_rm {S s : Nat} {l : Int32} {L : List Ent} : q_pl S (q_rm l L) s = q_rm l (q_pl S L s) := by
  unfold q_pl q_rm
  rw [List.filter_filter, List.filter_filter]
  exact congrArg (fun f => L.filter f) (funext fun e => Bool.and_comm _ _)
theorem q_pl_md {S s : Nat} {l : Int32} {f : Ent → Ent} (hf : ∀ e, (f e).1 = e.1) {L : List Ent} : q_pl S (q_md l f L) s = q_md l f (q_pl S L s) := by
  unfold q_pl q_md
  rw [List.filter_map]
  refine congrArg (List.map _) (congrArg (fun f => L.filter f) (funext fun e => ?_))
  show decide (q_st S (if e.1 = l then f e else e).1 = s) = decide (q_st S e.1 = s)
  rw [q_md_key hf]
theorem q_pl_other {S s : Nat} {l : Int32} {L : List Ent} (h : ¬ s = q_st S l) : ∀ e ∈ q_pl S L s, ¬ e.1 = l := fun e he q => h (by rw [← q]; exact (q_mem_pl.mp he).2.symm)
theorem q_pl_cons {S s : Nat} {e : Ent} {L : List Ent} : q_pl S (e :: L) s = if q_st S e.1 = s then e :: q_pl S L s else q_pl S L s := by
  unfold q_pl
  rw [List.filter_cons]
  by_cases h : q_st S e.1 = s
  · rw [if_pos (decide_eq_true h), if_pos h]
  · rw [if_neg (by simpa using h), if_neg h]
theorem q_look_pl {S : Nat} {l : Int32} {L : List Ent} : q_look l (q_pl S L (q_st S l)) = q_look l L := by
  induction L with
  | nil => rfl
  | cons x L ih =>
    rw [q_pl_cons]
    by_cases h : q_st S x.1 = q_st S l
    · rw [if_pos h]
      unfold q_look at ih ⊢
      rw [List.find?_cons, List.find?_cons, ih]
    · rw [if_neg h, ih]
      unfold q_look
      rw [List.find?_cons]
      have h2 : ¬ x.1 = l := fun q => h (by rw [q])
      rw [decide_eq_false h2]
theorem q_look_rm {l : Int32} {L : List Ent} : q_look l (q_rm l L) = none := q_look_none.mpr (fun _ h => (q_mem_rm.mp h).2)
theorem q_look_rm_none {l l2 : Int32} {L : List Ent} (h : q_look l L = none) : q_look l (q_rm l2 L) = none := q_look_none.mpr (fun e he => q_look_none.mp h e (q_mem_rm.mp he).1)
theorem q_look_md_none {l l2 : Int32} {f : Ent → Ent} (hf : ∀ e, (f e).1 = e.1) {L : List Ent} : q_look l (q_md l2 f L) = none ↔ q_look l L = none := by
  rw [q_look_none, q_look_none]
  constructor
  · intro h e he q
    exact h _ (q_mem_md.mpr ⟨e, he, rfl⟩) (by rw [q_md_key hf]; exact q)
  · intro h e he q
    obtain ⟨a, ha, rfl⟩ := q_mem_md.mp he
    rw [q_md_key hf] at q
    exact h a ha q
theorem q_look_cons {l : Int32} {e : Ent} {L : List Ent} : q_look l (e :: L) = if e.1 = l then some e else q_look l L := by
  unfold q_look
  rw [List.find?_cons]
  by_cases h : e.1 = l
  · rw [decide_eq_true h, if_pos h]
  · rw [decide_eq_false h, if_neg h]
theorem q_st_lt {S : Nat} (h : 0 < S) (l : Int32) : q_st S l < S := by
  unfold q_st
  have h1 : (0 : Int) ≤ l.toInt % (S : Int) := Int.emod_nonneg _ (by omega)
  have h2 : l.toInt % (S : Int) < (S : Int) := Int.emod_lt_of_pos _ (by omega)
  omega
theorem q_perm {S : Nat} {L : List Ent} (n : Nat) : ((List.range n).flatMap (q_pl S L)).Perm (L.filter (fun e => decide (q_st S e.1 < n))) := by
  induction n with
  | zero => simp
  | succ n ih =>
    rw [List.range_succ, List.flatMap_append]
    refine (ih.append (List.Perm.refl _)).trans ?_
    have e1 : L.filter (fun e => decide (q_st S e.1 < n)) = (L.filter (fun e => decide (q_st S e.1 < n + 1))).filter (fun e => decide (q_st S e.1 < n)) := by
      rw [List.filter_filter]
      refine congrArg (fun f => L.filter f) (funext fun e => ?_)
      by_cases h : q_st S e.1 < n
      · simp [h, Nat.lt_succ_of_lt h]
      · simp [h]
    have e2 : [n].flatMap (q_pl S L) = (L.filter (fun e => decide (q_st S e.1 < n + 1))).filter (fun e => !decide (q_st S e.1 < n)) := by
      rw [List.filter_filter]
      simp only [List.flatMap_cons, List.flatMap_nil, List.append_nil]
      unfold q_pl
      refine congrArg (fun f => L.filter f) (funext fun e => ?_)
      rw [Bool.eq_iff_iff]
      simp
      omega
    rw [e1, e2]
    exact List.filter_append_perm _ _
theorem q_perm_all {S : Nat} (hS : 0 < S) (L : List Ent) : ((List.range S).flatMap (q_pl S L)).Perm L := by
  have h := q_perm (S := S) (L := L) S
  rwa [List.filter_eq_self.mpr (fun e _ => decide_eq_true (q_st_lt hS e.1))] at h
theorem q_flat_len {α : Type} {f : Nat → List α} {w : Nat} (n : Nat) (h : ∀ j, j < n → (f j).length ≤ w) : ((List.range n).flatMap f).length ≤ n * w := by
  induction n with
  | zero => simp
  | succ n ih =>
    rw [List.range_succ, List.flatMap_append, List.length_append]
    have h1 := ih (fun j hj => h j (by omega))
    have h2 := h n (by omega)
    simp only [List.flatMap_cons, List.flatMap_nil, List.append_nil]
    rw [Nat.succ_mul]
    omega
theorem q_len {S w : Nat} (hS : 0 < S) {L : List Ent} (h : ∀ s, s < S → (q_pl S L s).length ≤ w) : L.length ≤ S * w := by
  rw [← (q_perm_all hS L).length_eq]
  exact q_flat_len S h
-- numbers
theorem mu_nI {a b : Nat} (ha : a < 2 ^ 31) (hb : b < 2 ^ 31) : mu (nI a) (nI b) = b - a := by
  unfold mu
  rw [nI_toInt ha, nI_toInt hb]
  omega
theorem q_tm {a : Int} {S : Nat} (h0 : 0 < S) : a.tmod S < S ∧ -(S : Int) < a.tmod S ∧ (0 ≤ a → 0 ≤ a.tmod S) ∧ (a < 0 → a.tmod S ≤ 0) ∧ (a.tmod S < 0 → a % (S : Int) = a.tmod S + S) ∧ (0 ≤ a.tmod S → a % (S : Int) = a.tmod S) := by
  have h1 : (0 : Int) ≤ a % (S : Int) := Int.emod_nonneg _ (by omega)
  have h2 : a % (S : Int) < (S : Int) := Int.emod_lt_of_pos _ (by omega)
  have h3 : a.tmod S = a % (S : Int) - ((if 0 ≤ a ∨ (S : Int) ∣ a then 0 else (S : Int).natAbs : Nat) : Int) := Int.tmod_eq_emod
  by_cases ha : 0 ≤ a
  · rw [if_pos (Or.inl ha)] at h3
    omega
  · by_cases hd : (S : Int) ∣ a
    · rw [if_pos (Or.inr hd)] at h3
      have h4 := Int.emod_eq_zero_of_dvd hd
      omega
    · rw [if_neg (by rintro (q | q); exact ha q; exact hd q)] at h3
      have h5 : a % (S : Int) ≠ 0 := fun q => hd (Int.dvd_of_emod_eq_zero q)
      omega
theorem q_rem {l : Int32} {S : Nat} (h0 : 0 < S) (h : S ≤ 16) : (l - l / nI S * nI S).toInt = l.toInt.tmod S := by
  have hl1 := Int32.toInt_lt l
  have hl2 := Int32.le_toInt l
  have hS : (nI S).toInt = (S : Int) := nI_toInt (by omega)
  obtain ⟨a1, a2, a3, a4, -, -⟩ := q_tm (a := l.toInt) h0
  have h1 : (l / nI S).toInt = l.toInt.tdiv S := by rw [Jvm.Kit.i32_div (by rw [hS]; omega), hS]
  have h2 : l.toInt.tmod S + l.toInt.tdiv S * S = l.toInt := Int.tmod_add_tdiv_mul _ _
  have h3 : (l / nI S * nI S).toInt = l.toInt.tdiv S * S := by
    rw [Jvm.Kit.i32_mul (by rw [h1, hS]; omega) (by rw [h1, hS]; omega), h1, hS]
  rw [Jvm.Kit.i32_sub (by rw [h3]; omega) (by rw [h3]; omega), h3]
  omega
theorem q_nIof {x : Int32} {n : Nat} (hn : n < 2 ^ 31) (h : x.toInt = (n : Int)) : x = nI n := Int32.toInt_inj.mp (by rw [h, nI_toInt hn])
theorem q_xor {l : Int32} {S : Nat} (h : S ≤ 16) : 0 ≤ (l ^^^ nI S) ↔ 0 ≤ l.toInt := by
  have e : ∀ x : Int32, 0 ≤ x ↔ x.toBitVec.msb = false := fun x => by
    rw [Int32.le_iff_toInt_le, BitVec.msb_eq_toInt, decide_eq_false_iff_not]
    have e0 : (0 : Int32).toInt = 0 := by decide
    rw [e0]
    exact (Int.not_lt).symm
  have hS : (nI S).toBitVec.msb = false := (e _).mp (nI_pos' (by omega))
  rw [← Jvm.Kit.i32_nonneg, e, e, Int32.toBitVec_xor, BitVec.msb_xor, hS, Bool.xor_false]
theorem q_fm {l : Int32} {S : Nat} (h0 : 0 < S) (h : S ≤ 16) : M_Math_floorMod l (nI S) = nI (q_st S l) := by
  have hS : (nI S).toInt = (S : Int) := nI_toInt (by omega)
  obtain ⟨a1, a2, a3, a4, a5, a6⟩ := q_tm (a := l.toInt) h0
  have hlt := q_st_lt h0 l
  have hr := q_rem (l := l) h0 h
  have hq : ((q_st S l : Nat) : Int) = l.toInt % (S : Int) := by
    unfold q_st
    have h1 : (0 : Int) ≤ l.toInt % (S : Int) := Int.emod_nonneg _ (by omega)
    omega
  unfold M_Math_floorMod
  by_cases c : 0 ≤ (l ^^^ nI S)
  · rw [if_pos c]
    have c2 := (q_xor h).mp c
    exact q_nIof (by omega) (by rw [hr, hq, a6 (a3 c2)])
  · rw [if_neg c]
    have c2 : l.toInt < 0 := Int.not_le.mp (fun q => c ((q_xor h).mpr q))
    by_cases d : (l - l / nI S * nI S) = 0
    · rw [if_pos d]
      have d2 : l.toInt.tmod S = 0 := by rw [← hr, d]; decide
      exact q_nIof (by omega) (by rw [hr, hq, a6 (by omega)])
    · rw [if_neg d]
      have d2 : l.toInt.tmod S ≠ 0 := fun q => d (Int32.toInt_inj.mp (by rw [hr, q]; decide))
      have d3 := a4 c2
      refine q_nIof (by omega) ?_
      rw [Jvm.Kit.i32_add (by rw [hr, hS]; omega) (by rw [hr, hS]; omega), hr, hS, hq, a5 (by omega)]
theorem q_modu {l : Int32} {S : Nat} (h0 : 0 < S) (h : S ≤ 16) : M_M_modulo l (nI S) = nI (q_st S l) := by
  have hS : (nI S).toInt = (S : Int) := nI_toInt (by omega)
  obtain ⟨a1, a2, a3, a4, a5, a6⟩ := q_tm (a := l.toInt) h0
  have hr := q_rem (l := l) h0 h
  unfold M_M_modulo
  have e1 : (l - l / nI S * nI S) + nI S = nI (l.toInt.tmod S + S).toNat := by
    refine q_nIof (by omega) ?_
    rw [Jvm.Kit.i32_add (by rw [hr, hS]; omega) (by rw [hr, hS]; omega), hr, hS]
    omega
  rw [e1, pk_rem (by omega) h0 (by omega)]
  refine congrArg nI ?_
  unfold q_st
  rcases Int.lt_or_le (l.toInt.tmod S) 0 with d | d
  · rw [a5 d]
    exact Nat.mod_eq_of_lt (by omega)
  · rw [a6 d]
    have e2 : (l.toInt.tmod S + S).toNat = (l.toInt.tmod S).toNat + S := by omega
    rw [e2, Nat.add_mod_right]
    exact Nat.mod_eq_of_lt (by omega)
