-- a bank of G caches of S sets: its lists are the caches' lists, set by set
def q_cl (e : Ent) : Ent := (e.1, 0, e.2.2)
def q_wr (v : Int32) (e : Ent) : Ent := (e.1, 1, v, e.2.2.2)
theorem q_cl_key : ∀ e, (q_cl e).1 = e.1 := fun _ => rfl
theorem q_wr_key (v : Int32) : ∀ e, (q_wr v e).1 = e.1 := fun _ => rfl
def q_pp (S : Nat) (Lf : Nat → List Ent) : Nat → List Ent := fun p => q_pl S (Lf (p / S)) (p % S)
def RB (g : GB) (x : Bk) (G S w : Nat) (Lf : Nat → List Ent) : Prop := gB g S w (G * S) ∧ RP x w (G * S) (q_pp S Lf)
def SB (S w : Nat) (Lf : Nat → List Ent) (c : Nat) (e : Ent) (i : Int32) : Prop := ∃ k, (q_pl S (Lf c) (q_st S e.1))[k]? = some e ∧ i = nI ((c * S + q_st S e.1) * w + k)
theorem q_pp_at {S : Nat} {Lf : Nat → List Ent} {c s : Nat} (hs : s < S) : q_pp S Lf (c * S + s) = q_pl S (Lf c) s := by
  unfold q_pp
  rw [(q_posd hs).1, (q_posd hs).2]
theorem q_div {p G S : Nat} (h : p < G * S) : p / S < G ∧ p % S < S ∧ p = p / S * S + p % S := by
  have hS : 0 < S := by
    rcases Nat.eq_zero_or_pos S with q | q
    · subst q; simp at h
    · exact q
  exact ⟨(Nat.div_lt_iff_lt_mul hS).mpr h, Nat.mod_lt _ hS, by rw [Nat.mul_comm]; exact (Nat.div_add_mod p S).symm⟩
theorem RB_congr {g : GB} {x : Bk} {G S w : Nat} {Lf Lf2 : Nat → List Ent} (h : ∀ c, c < G → Lf c = Lf2 c) (hB : RB g x G S w Lf) : RB g x G S w Lf2 :=
  ⟨hB.1, RP_congr (fun p hp => by unfold q_pp; rw [h _ (q_div hp).1]) hB.2⟩
theorem RB_of {g : GB} {x z : Bk} {G S w : Nat} {Lf : Nat → List Ent} (hB : RB g x G S w Lf) {c s : Nat} (L2 : List Ent) (hc : c < G) (hs : s < S) (h2 : ∀ t, t < S → ¬ t = s → q_pl S L2 t = q_pl S (Lf c) t) (h : RP z w (G * S) (q_set (q_pp S Lf) (c * S + s) (q_pl S L2 s))) : RB g z G S w (q_set Lf c L2) := by
  refine ⟨hB.1, RP_congr (fun p hp => ?_) h⟩
  obtain ⟨d1, d2, d3⟩ := q_div hp
  by_cases e1 : p = c * S + s
  · subst e1
    rw [q_set_s, q_pp_at hs, q_set_s]
  · rw [q_set_n e1]
    unfold q_pp
    by_cases e2 : p / S = c
    · rw [e2, q_set_s]
      have e3 : ¬ p % S = s := fun q => e1 (by rw [d3, e2, q])
      exact (h2 _ d2 e3).symm
    · rw [q_set_n e2]
section BankSet
variable {g : GB} {x : Bk} {G S w : Nat} {Lf : Nat → List Ent} {c : Nat} {e : Ent} {i l : Int32}
theorem RB_S (hB : RB g x G S w Lf) : 0 < S := hB.1.2.2.2.2.1
theorem RB_st (hB : RB g x G S w Lf) (l : Int32) : q_st S l < S := q_st_lt (RB_S hB) l
theorem RB_p (hB : RB g x G S w Lf) (hc : c < G) (l : Int32) : c * S + q_st S l < G * S := q_pos hc (RB_st hB l)
theorem RB_find (hB : RB g x G S w Lf) (nd : q_nd (Lf c)) (hc : c < G) : (∃ e, q_look l (Lf c) = some e ∧ e.1 = l ∧ SB S w Lf c e (M_B_find g x (nI c) l)) ∨ (q_look l (Lf c) = none ∧ M_B_find g x (nI c) l = -1) := by
  rcases B_find hB.1 hB.2 (RB_p hB hc l) with ⟨k, e, h1, h2, h3⟩ | ⟨h1, h2⟩
  · rw [q_pp_at (RB_st hB l)] at h1
    have hm := q_mem_pl.mp (List.mem_of_getElem? h1)
    subst h2
    exact Or.inl ⟨e, q_look_of nd hm.1, rfl, k, h1, h3⟩
  · rw [q_pp_at (RB_st hB l)] at h1
    exact Or.inr ⟨by rw [← q_look_pl (S := S)]; exact q_look_none.mpr h1, h2⟩
theorem SB_mem (h : SB S w Lf c e i) : e ∈ Lf c := by
  obtain ⟨k, h1, -⟩ := h
  exact (q_mem_pl.mp (List.mem_of_getElem? h1)).1
theorem SB_val (hB : RB g x G S w Lf) (hc : c < G) (h : SB S w Lf c e i) : M_B_lineAt g x i = e.1 ∧ M_B_versionAt g x i = e.2.2.1 ∧ M_B_isWritten g x i = e.2.1 ∧ M_B_ownerAt g x i = e.2.2.2 ∧ ¬ i = -1 ∧ (e.2.1 = 0 ∨ e.2.1 = 1) := by
  obtain ⟨k, h1, rfl⟩ := h
  have hs := gB_sm hB.1
  obtain ⟨b1, b2, b3, b4, b5, b6, b7⟩ := RP_at hB.2 (RB_p hB hc e.1) (k := k) (e := e) (by rw [q_pp_at (RB_st hB e.1)]; exact h1)
  exact ⟨by rw [B_lineAt hB.1 b2, b3], by rw [B_versionAt hB.1 b2, b5], by rw [B_isWritten hB.1 hB.2.1 b2, b4], by rw [B_ownerAt hB.1 b2, b6], nI_n1 (by omega), b7⟩
theorem RB_drop (hB : RB g x G S w Lf) (nd : q_nd (Lf c)) (hc : c < G) (h : SB S w Lf c e i) : RB g (M_B_drop g x i) G S w (q_set Lf c (q_rm e.1 (Lf c))) := by
  obtain ⟨k, h1, rfl⟩ := h
  have h0 : (q_pp S Lf (c * S + q_st S e.1))[k]? = some e := by rw [q_pp_at (RB_st hB e.1)]; exact h1
  refine RB_of hB _ hc (RB_st hB e.1) (fun t _ ht => ?_) ?_
  · rw [q_pl_rm, q_rm_id (q_pl_other ht)]
  · have h2 := B_drop hB.1 hB.2 (RB_p hB hc e.1) h0
    rwa [q_pp_at (RB_st hB e.1), q_er (q_nd_pl nd) h1, ← q_pl_rm] at h2
theorem RB_use (hB : RB g x G S w Lf) (nd : q_nd (Lf c)) (hc : c < G) (h : SB S w Lf c e i) : RB g (M_B_useLast g x i) G S w (q_set Lf c (e :: q_rm e.1 (Lf c))) := by
  obtain ⟨k, h1, rfl⟩ := h
  have h0 : (q_pp S Lf (c * S + q_st S e.1))[k]? = some e := by rw [q_pp_at (RB_st hB e.1)]; exact h1
  refine RB_of hB _ hc (RB_st hB e.1) (fun t _ ht => ?_) ?_
  · rw [q_pl_cons, if_neg (fun q => ht q.symm), q_pl_rm, q_rm_id (q_pl_other ht)]
  · have h2 := B_useLast hB.1 hB.2 (RB_p hB hc e.1) h0
    rw [q_pp_at (RB_st hB e.1), q_er (q_nd_pl nd) h1, ← q_pl_rm] at h2
    rwa [q_pl_cons, if_pos rfl]
theorem RB_clean (hB : RB g x G S w Lf) (nd : q_nd (Lf c)) (hc : c < G) (h : SB S w Lf c e i) : RB g (M_B_clean g x i) G S w (q_set Lf c (q_md e.1 q_cl (Lf c))) := by
  obtain ⟨k, h1, rfl⟩ := h
  have h0 : (q_pp S Lf (c * S + q_st S e.1))[k]? = some e := by rw [q_pp_at (RB_st hB e.1)]; exact h1
  refine RB_of hB _ hc (RB_st hB e.1) (fun t _ ht => ?_) ?_
  · rw [q_pl_md q_cl_key, q_md_id (q_pl_other ht)]
  · have h2 := B_clean hB.1 hB.2 (RB_p hB hc e.1) h0
    rw [q_pp_at (RB_st hB e.1)] at h2
    rw [q_pl_md q_cl_key, ← q_sm (q_nd_pl nd) q_cl h1]
    exact h2
theorem RB_rewrite (hB : RB g x G S w Lf) (nd : q_nd (Lf c)) (hc : c < G) (v : Int32) (h : SB S w Lf c e i) : RB g (M_B_rewrite g x i v) G S w (q_set Lf c (q_md e.1 (q_wr v) (Lf c))) := by
  obtain ⟨k, h1, rfl⟩ := h
  have h0 : (q_pp S Lf (c * S + q_st S e.1))[k]? = some e := by rw [q_pp_at (RB_st hB e.1)]; exact h1
  refine RB_of hB _ hc (RB_st hB e.1) (fun t _ ht => ?_) ?_
  · rw [q_pl_md (q_wr_key v), q_md_id (q_pl_other ht)]
  · have h2 := B_rewrite hB.1 hB.2 v (RB_p hB hc e.1) h0
    rw [q_pp_at (RB_st hB e.1)] at h2
    rw [q_pl_md (q_wr_key v), ← q_sm (q_nd_pl nd) (q_wr v) h1]
    exact h2
theorem RB_put (hB : RB g x G S w Lf) (hc : c < G) {v b o : Int32} (hb : b = 0 ∨ b = 1) (hl : (q_pl S (Lf c) (q_st S l)).length < w) : RB g (M_B_put g x (nI (c * S + q_st S l)) l v b o) G S w (q_set Lf c ((l, b, v, o) :: Lf c)) := by
  refine RB_of hB _ hc (RB_st hB l) (fun t _ ht => ?_) ?_
  · rw [q_pl_cons, if_neg (fun q => ht q.symm)]
  · have h2 := B_put hB.1 hB.2 (l := l) (v := v) (o := o) hb (RB_p hB hc l) (by rw [q_pp_at (RB_st hB l)]; exact hl)
    rw [q_pp_at (RB_st hB l)] at h2
    rwa [q_pl_cons, if_pos rfl]
theorem RB_le (hB : RB g x G S w Lf) (hc : c < G) {s : Nat} (hs : s < S) : (q_pl S (Lf c) s).length ≤ w := by
  have h := (hB.2.2 _ (q_pos hc hs)).1
  rwa [q_pp_at hs] at h
theorem RB_size (hB : RB g x G S w Lf) (hc : c < G) {s : Nat} (hs : s < S) : M_B_size g x (nI (c * S + s)) = nI (q_pl S (Lf c) s).length := by
  have h := B_size hB.1 hB.2 (q_pos hc hs)
  rwa [q_pp_at hs] at h
theorem RB_full (hB : RB g x G S w Lf) (hc : c < G) (l : Int32) : M_B_isFull g x (nI (c * S + q_st S l)) = if (q_pl S (Lf c) (q_st S l)).length < w then 0 else 1 := by
  have h := B_isFull hB.1 hB.2 (RB_p hB hc l)
  rwa [q_pp_at (RB_st hB l)] at h
theorem RB_place (hB : RB g x G S w Lf) (l : Int32) : M_B_placeOf g x (nI c) l = nI (c * S + q_st S l) := B_placeOf hB.1
theorem q_last {α : Type} {L : List α} {n : Nat} (hn : L.length = n + 1) : ∃ e, L[n]? = some e ∧ L.getLast? = some e := by
  obtain ⟨e, he⟩ := q_get (L := L) (k := n) (by omega)
  refine ⟨e, he, ?_⟩
  rw [List.getLast?_eq_getElem?, hn]
  exact he
theorem RB_old (hB : RB g x G S w Lf) (hc : c < G) (l : Int32) (hl : 0 < (q_pl S (Lf c) (q_st S l)).length) : ∃ e, (q_pl S (Lf c) (q_st S l)).getLast? = some e ∧ q_st S e.1 = q_st S l ∧ SB S w Lf c e (M_B_oldest g x (nI (c * S + q_st S l))) := by
  obtain ⟨n, hn⟩ : ∃ n, (q_pl S (Lf c) (q_st S l)).length = n + 1 := ⟨(q_pl S (Lf c) (q_st S l)).length - 1, by omega⟩
  obtain ⟨e, h1, h2⟩ := q_last hn
  have h3 := (q_mem_pl.mp (List.mem_of_getElem? h1)).2
  have h4 := B_oldest hB.1 hB.2 (RB_p hB hc l) (n := n) (by rw [q_pp_at (RB_st hB l)]; exact hn)
  exact ⟨e, h2, h3, n, by rw [h3]; exact h1, by rw [h3]; exact h4⟩
theorem RB_owned (hB : RB g x G S w Lf) (hc : c < G) (l o : Int32) : M_B_ownedAt g x (nI (c * S + q_st S l)) o = nI ((q_pl S (Lf c) (q_st S l)).filter (q_own o)).length := by
  have h := B_ownedAt hB.1 hB.2 (RB_p hB hc l) o
  rwa [q_pp_at (RB_st hB l)] at h
theorem RB_oldo (hB : RB g x G S w Lf) (hc : c < G) (l o : Int32) (hn : (q_pl S (Lf c) (q_st S l)).filter (q_own o) ≠ []) : ∃ e, ((q_pl S (Lf c) (q_st S l)).filter (q_own o)).getLast? = some e ∧ q_st S e.1 = q_st S l ∧ SB S w Lf c e (M_B_oldestOwned g x (nI (c * S + q_st S l)) o) := by
  obtain ⟨k, e, h1, h2, h3⟩ := B_oldestOwned hB.1 hB.2 (RB_p hB hc l) o (by rw [q_pp_at (RB_st hB l)]; exact hn)
  rw [q_pp_at (RB_st hB l)] at h1 h2
  have h4 := (q_mem_pl.mp (List.mem_of_getElem? h1)).2
  exact ⟨e, h2, h4, k, by rw [h4]; exact h1, by rw [h4]; exact h3⟩
theorem q_pp_perm {S : Nat} (hS : 0 < S) (Lf : Nat → List Ent) : ∀ G : Nat, ((List.range (G * S)).flatMap (q_pp S Lf)).Perm ((List.range G).flatMap Lf) := by
  intro G
  induction G with
  | zero => simp
  | succ G ih =>
    rw [Nat.succ_mul, List.range_add, List.flatMap_append, q_flat_succ]
    refine ih.append ?_
    have e1 : List.flatMap (q_pp S Lf) (List.map (fun x => G * S + x) (List.range S)) = (List.range S).flatMap (q_pl S (Lf G)) := by
      rw [List.flatMap_map]
      have e2 : ∀ n, n ≤ S → (List.range n).flatMap (fun a => q_pp S Lf (G * S + a)) = (List.range n).flatMap (q_pl S (Lf G)) := by
        intro n
        induction n with
        | zero => intro _; rfl
        | succ n ih2 =>
          intro hn
          rw [q_flat_succ, q_flat_succ, ih2 (by omega), q_pp_at (by omega)]
      exact e2 S (Nat.le_refl _)
    rw [e1]
    exact q_perm_all hS _
theorem RB_total (hB : RB g x G S w Lf) : M_B_total g x = nI ((List.range G).flatMap Lf).length := by
  rw [B_total hB.1 hB.2, (q_pp_perm (RB_S hB) Lf G).length_eq]
theorem RB_ownedBy (hB : RB g x G S w Lf) (o : Int32) : M_B_ownedBy g x o = nI (((List.range G).flatMap Lf).filter (q_own o)).length := by
  rw [B_ownedBy hB.1 hB.2, ((q_pp_perm (RB_S hB) Lf G).filter (q_own o)).length_eq]
theorem RB_clear (hB : RB g x G S w Lf) : RB g (M_B_clear g x) G S w (fun _ => []) := ⟨hB.1, RP_congr (fun _ _ => rfl) (B_clear hB.1 hB.2)⟩
end BankSet
