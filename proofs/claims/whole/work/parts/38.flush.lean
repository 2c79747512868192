-- a flush: the order of writing back doesn't matter
def q_wb (g : GV) (V : Vs) (e : Ent) : Vs := M_V_writeBack g V e.1 e.2.2.1
def q_w (e : Ent) : Bool := decide (¬ e.2.1 = 0)
def q_w2 (P : Pm) (A : Ab) (e : Ent) : Bool := decide (¬ e.2.1 = 0 ∧ a_wif A.1 e.1 P.1.1 0 = none)
def a_fl (P : Pm) (A : Ab) : Vs := (((List.range P.1.1).flatMap A.1).filter q_w).foldl (q_wb P.2.2.1) (((A.1 4).filter (q_w2 P A)).foldl (q_wb P.2.2.1) A.2.1)
def a_flush (P : Pm) (A : Ab) : Ab := (fun _ => [], a_fl P A, A.2.2)
theorem upd_comm {f : Fn} {i j : Nat} {a b : Int32} (h : ¬ i = j) : upd (upd f i a) j b = upd (upd f j b) i a := by
  funext k
  unfold upd
  by_cases h1 : k = j
  · rw [if_pos h1, if_neg (by omega), if_pos h1]
  · rw [if_neg h1]
    by_cases h2 : k = i
    · rw [if_pos h2, if_pos h2]
    · rw [if_neg h2, if_neg h2, if_neg h1]
theorem q_wb_comm {gV : GV} (hg : gVl gV) {V : Vs} {e f : Ent} (h : e.1 = f.1 → e = f) : q_wb gV (q_wb gV V e) f = q_wb gV (q_wb gV V f) e := by
  by_cases hef : e.1 = f.1
  · rw [h hef]
  · have hV := V.2.1.isLt
    unfold q_wb
    have a1 := V_back_lines (V := V) (l := e.1) (v := e.2.2.1) hg
    have a2 := V_back_lines (V := V) (l := f.1) (v := f.2.2.1) hg
    rw [V_back (V := M_V_writeBack gV V e.1 e.2.2.1) hg, V_back (V := M_V_writeBack gV V f.1 f.2.2.1) hg, V_idx_same a1.1 a1.2.1, V_idx_same a2.1 a2.2.1, V_back hg, V_back hg]
    rcases V_idx (V := V) (l := e.1) hg with ⟨i, b1, b2, b3⟩ | ⟨-, b3⟩
    · rcases V_idx (V := V) (l := f.1) hg with ⟨j, c1, c2, c3⟩ | ⟨-, c3⟩
      · rw [b3, c3, if_neg (nI_n1 (by omega)), if_neg (nI_n1 (by omega)), if_neg (nI_n1 (by omega)), if_neg (nI_n1 (by omega)), nI_clamp (by omega), nI_clamp (by omega)]
        have hij : ¬ i = j := fun q => hef (by rw [← b2, ← c2, q])
        show (V.1 + 1 + 1, V.2.1, V.2.2.1, V.2.2.2.1, upd (upd V.2.2.2.2 i e.2.2.1) j f.2.2.1) = (V.1 + 1 + 1, V.2.1, V.2.2.1, V.2.2.2.1, upd (upd V.2.2.2.2 j f.2.2.1) i e.2.2.1)
        rw [upd_comm hij]
      · rw [b3, c3, if_neg (nI_n1 (by omega)), if_pos rfl, if_pos rfl, if_neg (nI_n1 (by omega))]
    · rcases V_idx (V := V) (l := f.1) hg with ⟨j, c1, c2, c3⟩ | ⟨-, c3⟩
      · rw [b3, c3, if_pos rfl, if_neg (nI_n1 (by omega)), if_neg (nI_n1 (by omega)), if_pos rfl]
      · rw [b3, c3]
        simp
theorem q_wb_vl {gV : GV} (hg : gVl gV) : ∀ (L : List Ent) (V : Vs), vl V (L.foldl (q_wb gV) V) ∧ (VI V → VI (L.foldl (q_wb gV) V)) := by
  intro L
  induction L with
  | nil => intro V; exact ⟨vl_r V, fun h => h⟩
  | cons e L ih =>
    intro V
    obtain ⟨h1, h2, -, h4⟩ := V_back_lines (V := V) (l := e.1) (v := e.2.2.1) hg
    obtain ⟨i1, i2⟩ := ih (q_wb gV V e)
    exact ⟨vl_t ⟨h1, h2⟩ i1, fun h => i2 (h4 h)⟩
theorem AI_flush {P : Pm} {A : Ab} (hP : okP P) (hI : AI P A) : AI P (a_flush P A) ∧ (a_flush P A).2.1.2.1 = A.2.1.2.1 := by
  obtain ⟨a1, a2⟩ := q_wb_vl hP.2.2.2.2.1 ((A.1 4).filter (q_w2 P A)) A.2.1
  obtain ⟨b1, b2⟩ := q_wb_vl hP.2.2.2.2.1 (((List.range P.1.1).flatMap A.1).filter q_w) (((A.1 4).filter (q_w2 P A)).foldl (q_wb P.2.2.1) A.2.1)
  have mt : ∀ (c : Nat) (e : Ent), ¬ e ∈ (a_flush P A).1 c := fun c e h => absurd h List.not_mem_nil
  refine ⟨⟨fun _ => List.Pairwise.nil, fun _ e he => absurd he (mt _ _), fun _ e he => absurd he (mt _ _), fun _ _ _ => rfl, fun _ _ _ => Nat.zero_le _, fun _ => Nat.zero_le _, fun _ _ e he => absurd he (mt _ _), fun _ e he => absurd he (mt _ _), b2 (a2 hI.2.2.2.2.2.2.2.2)⟩, ?_⟩
  exact b1.1.trans a1.1
-- the slots of a bank, and its lists
theorem q_slots {x : Bk} {w np : Nat} {P : Nat → List Ent} (hR : RP x w np P) (f : Ent → Bool) (hf : ∀ e, e.2.1 = 0 → f e = false) : ∀ n, n ≤ np → ((List.range (n * w)).map (EB x)).filter f = ((List.range n).flatMap P).filter f := by
  intro n
  induction n with
  | zero => intro _; simp
  | succ n ih =>
    intro hn
    obtain ⟨a1, a2, a3, a4⟩ := hR.2 n (by omega)
    rw [Nat.succ_mul, List.range_add, List.map_append, List.filter_append, ih (by omega), q_flat_succ, List.filter_append]
    refine congrArg _ ?_
    obtain ⟨d, hd⟩ : ∃ d, w = (P n).length + d := ⟨w - (P n).length, by omega⟩
    have e1 : List.map (EB x) (List.map (fun k => n * w + k) (List.range w)) = P n ++ (List.range d).map (fun k => EB x (n * w + ((P n).length + k))) := by
      rw [List.map_map]
      conv => lhs; rw [hd]
      rw [List.range_add, List.map_append]
      refine congr (congrArg _ ?_) ?_
      · refine List.ext_getElem? (fun k => ?_)
        rw [List.getElem?_map]
        by_cases hk : k < (P n).length
        · obtain ⟨e, he⟩ := q_get hk
          rw [he, List.getElem?_range hk]
          show some (EB x (n * ((P n).length + d) + k)) = some e
          rw [← hd, a3 k e he]
        · rw [List.getElem?_eq_none (by simpa using hk), List.getElem?_eq_none (by omega)]
          rfl
      · rw [List.map_map, ← hd]
        rfl
    rw [e1, List.filter_append]
    have e2 : ((List.range d).map (fun k => EB x (n * w + ((P n).length + k)))).filter f = [] := by
      rw [List.filter_eq_nil_iff]
      intro e he
      obtain ⟨k, hk, rfl⟩ := List.mem_map.mp he
      rw [List.mem_range] at hk
      have h0 := a4 ((P n).length + k) (by omega) (by omega)
      rw [hf _ h0]
      exact Bool.false_ne_true
    rw [e2, List.append_nil]
section FlushC
variable {g : GC} {x : Cs} {P : Pm} {A : Ab}
theorem C_wif_same {z : Cs} (h : z.2.1 = x.2.1) (l : Int32) : M_C_writtenInFirst g z l = M_C_writtenInFirst g x l := by
  unfold M_C_writtenInFirst
  have key : ∀ (n : Nat) (k : Int32), L_C_writtenInFirst_2 g z l n k = L_C_writtenInFirst_2 g x l n k := by
    intro n
    induction n with
    | zero => intro k; rfl
    | succ n ih =>
      intro k
      rw [L_C_writtenInFirst_2_eq, L_C_writtenInFirst_2_eq, h, ih]
  exact key _ _
theorem C_fl1 (hP : okP P) (hR : RC g x P A) (v1 : Int32) : ∀ (d j fuel : Nat) (V : Vs), P.1.1 * P.1.2.1 * 2 = j + d → d < fuel →
    L_C_flush_79 g fuel v1 (nI j) (x.1, x.2.1, x.2.2.1, V, x.2.2.2.2.1, x.2.2.2.2.2) = (((((List.range' j d).map (EB x.2.1)).filter q_w).foldl (q_wb P.2.2.1) V).1 - v1, (x.1, M_B_clear g.2.2.2.1 x.2.1, M_B_clear g.2.2.2.2.1 x.2.2.1, (((List.range' j d).map (EB x.2.1)).filter q_w).foldl (q_wb P.2.2.1) V, x.2.2.2.2.1, x.2.2.2.2.2)) := by
  have hB := hR.2.1
  have hs := gB_sm hB.1
  have en : M_B_slots g.2.2.2.1 x.2.1 = nI (P.1.1 * P.1.2.1 * 2) := by
    unfold M_B_slots
    rw [hB.1.2.2.2.1]
  intro d
  induction d with
  | zero =>
    intro j fuel V hj hf
    obtain ⟨m, rfl⟩ : ∃ m, fuel = m + 1 := ⟨fuel - 1, by omega⟩
    rw [L_C_flush_79_eq, bnd_eq en.symm, if_pos (nI_le (by omega) (by omega)), bnd_eq rfl, bnd_eq rfl]
    rfl
  | succ d ih =>
    intro j fuel V hj hf
    obtain ⟨m, rfl⟩ : ∃ m, fuel = m + 1 := ⟨fuel - 1, by omega⟩
    have hjn : j < P.1.1 * P.1.2.1 * 2 := by omega
    have ew := B_isWritten hB.1 hB.2.1 hjn
    have el := B_lineAt (x := x.2.1) hB.1 hjn
    have ev := B_versionAt (x := x.2.1) hB.1 hjn
    rw [L_C_flush_79_eq, bnd_eq en.symm, if_neg (nI_ge (by omega) (by omega)), bnd_eq ew.symm, List.range'_succ, List.map_cons, List.filter_cons, nI_1]
    by_cases q : x.2.1.2.2.2.2 j = 0
    · have q2 : ¬ q_w (EB x.2.1 j) = true := fun h => (of_decide_eq_true h) q
      rw [if_pos q, if_neg q2]
      exact ih (j + 1) m V (by omega) (by omega)
    · have q2 : q_w (EB x.2.1 j) = true := decide_eq_true q
      rw [if_neg q, if_pos q2, bnd_eq el.symm, bnd_eq ev.symm, bnd_eq rfl, List.foldl_cons]
      have e9 : M_V_writeBack g.2.2.2.2.2 V (x.2.1.2.1 j) (x.2.1.2.2.1 j) = q_wb P.2.2.1 V (EB x.2.1 j) := by
        unfold q_wb
        rw [hR.1.2.2.2]
        rfl
      have h9 := ih (j + 1) m (q_wb P.2.2.1 V (EB x.2.1 j)) (by omega) (by omega)
      rw [← e9] at h9 ⊢
      exact h9
theorem C_fl2 (hP : okP P) (hI : AI P A) (hR : RC g x P A) (v1 : Int32) : ∀ (d j fuel : Nat) (V : Vs), 1 * P.1.2.2 * 4 = j + d → d < fuel →
    L_C_flush_10 g fuel v1 (nI j) (x.1, x.2.1, x.2.2.1, V, x.2.2.2.2.1, x.2.2.2.2.2) = L_C_flush_79 g (P.1.1 * P.1.2.1 * 2 + 1) v1 0 (x.1, x.2.1, x.2.2.1, (((List.range' j d).map (EB x.2.2.1)).filter (q_w2 P A)).foldl (q_wb P.2.2.1) V, x.2.2.2.2.1, x.2.2.2.2.2) := by
  have hB := hR.2.2.1
  have hs := gB_sm hB.1
  have hs1 := gB_sm hR.2.1.1
  have en : M_B_slots g.2.2.2.2.1 x.2.2.1 = nI (1 * P.1.2.2 * 4) := by
    unfold M_B_slots
    rw [hB.1.2.2.2.1]
  intro d
  induction d with
  | zero =>
    intro j fuel V hj hf
    obtain ⟨m, rfl⟩ : ∃ m, fuel = m + 1 := ⟨fuel - 1, by omega⟩
    rw [L_C_flush_10_eq, bnd_eq en.symm, if_pos (nI_le (by omega) (by omega)), hR.2.1.1.2.2.2.1, mu_nI0 (by omega)]
    rfl
  | succ d ih =>
    intro j fuel V hj hf
    obtain ⟨m, rfl⟩ : ∃ m, fuel = m + 1 := ⟨fuel - 1, by omega⟩
    have hjn : j < 1 * P.1.2.2 * 4 := by omega
    have ew := B_isWritten hB.1 hB.2.1 hjn
    have el := B_lineAt (x := x.2.2.1) hB.1 hjn
    have ev := B_versionAt (x := x.2.2.1) hB.1 hjn
    rw [L_C_flush_10_eq, bnd_eq en.symm, if_neg (nI_ge (by omega) (by omega)), bnd_eq ew.symm, List.range'_succ, List.map_cons, List.filter_cons, nI_1]
    by_cases q : x.2.2.1.2.2.2.2 j = 0
    · have q2 : ¬ q_w2 P A (EB x.2.2.1 j) = true := fun h => (of_decide_eq_true h).1 q
      rw [if_pos q, if_neg q2]
      exact ih (j + 1) m V (by omega) (by omega)
    · have es : M_C_writtenInFirst g (x.1, x.2.1, x.2.2.1, V, x.2.2.2.2.1, x.2.2.2.2.2) (x.2.2.1.2.1 j) = M_C_writtenInFirst g x (x.2.2.1.2.1 j) := C_wif_same (x := x) (z := (x.1, x.2.1, x.2.2.1, V, x.2.2.2.2.1, x.2.2.2.2.2)) rfl _
      rw [if_neg q, bnd_eq el.symm, bnd_eq es.symm]
      rcases C_wif0 hP hI hR (x.2.2.1.2.1 j) with ⟨w1, w2⟩ | ⟨dd, e, w1, w2⟩
      · have q2 : q_w2 P A (EB x.2.2.1 j) = true := decide_eq_true ⟨q, w1⟩
        rw [if_pos w2, if_pos q2, bnd_eq el.symm, bnd_eq ev.symm, bnd_eq rfl, List.foldl_cons]
        have e9 : M_V_writeBack g.2.2.2.2.2 V (x.2.2.1.2.1 j) (x.2.2.1.2.2.1 j) = q_wb P.2.2.1 V (EB x.2.2.1 j) := by
          unfold q_wb
          rw [hR.1.2.2.2]
          rfl
        have h9 := ih (j + 1) m (q_wb P.2.2.1 V (EB x.2.2.1 j)) (by omega) (by omega)
        rw [← e9] at h9 ⊢
        exact h9
      · obtain ⟨-, u2, -, -⟩ := a_wif_some _ _ w1
        obtain ⟨-, -, -, -, s5, -⟩ := SB_val hR.2.1 (by omega) w2
        have q2 : ¬ q_w2 P A (EB x.2.2.1 j) = true := fun h => by
          have h3 : a_wif A.1 (x.2.2.1.2.1 j) P.1.1 0 = none := (of_decide_eq_true h).2
          rw [w1] at h3
          cases h3
        rw [if_neg s5, if_neg q2]
        exact ih (j + 1) m V (by omega) (by omega)
theorem C_flush (hP : okP P) (hI : AI P A) (hR : RC g x P A) : (M_C_flush g x).1 = (a_fl P A).1 - A.2.1.1 ∧ RC g (M_C_flush g x).2 P (a_flush P A) := by
  have hs := gB_sm hR.2.2.1.1
  have hs1 := gB_sm hR.2.1.1
  have eV : x.2.2.2.1 = A.2.1 := hR.2.2.2.2.2.1
  have h2 := C_fl2 hP hI hR x.2.2.2.1.1 (1 * P.1.2.2 * 4) 0 (1 * P.1.2.2 * 4 + 1) x.2.2.2.1 (by omega) (by omega)
  have h1 := C_fl1 hP hR x.2.2.2.1.1 (P.1.1 * P.1.2.1 * 2) 0 (P.1.1 * P.1.2.1 * 2 + 1) ((((List.range' 0 (1 * P.1.2.2 * 4)).map (EB x.2.2.1)).filter (q_w2 P A)).foldl (q_wb P.2.2.1) x.2.2.2.1) (by omega) (by omega)
  rw [nI_0] at h1 h2
  rw [← List.range_eq_range'] at h1 h2
  rw [← List.range_eq_range'] at h1
  have e2 := q_slots hR.2.2.1.2 (q_w2 P A) (fun e he => decide_eq_false (fun q => q.1 he)) (1 * P.1.2.2) (Nat.le_refl _)
  have e1 := q_slots hR.2.1.2 q_w (fun e he => decide_eq_false (fun q => q he)) (P.1.1 * P.1.2.1) (Nat.le_refl _)
  have p2 := (q_pp_perm (RB_S hR.2.2.1) (fun _ => A.1 4) 1).filter (q_w2 P A)
  have p1 := (q_pp_perm (RB_S hR.2.1) A.1 P.1.1).filter q_w
  have e3 : (List.range 1).flatMap (fun _ => A.1 4) = A.1 4 := by simp [List.range_succ]
  rw [e3] at p2
  have f2 : (((List.range (1 * P.1.2.2 * 4)).map (EB x.2.2.1)).filter (q_w2 P A)).foldl (q_wb P.2.2.1) x.2.2.2.1 = ((A.1 4).filter (q_w2 P A)).foldl (q_wb P.2.2.1) A.2.1 := by
    rw [e2, eV]
    refine p2.foldl_eq' (fun a ha b hb z => q_wb_comm hP.2.2.2.2.1 (fun hab => ?_)) _
    have ha2 := (List.mem_filter.mp (p2.mem_iff.mp ha)).1
    have hb2 := (List.mem_filter.mp (p2.mem_iff.mp hb)).1
    exact q_nd_inj (hI.1 4) ha2 hb2 hab
  have f1 : ∀ V, (((List.range (P.1.1 * P.1.2.1 * 2)).map (EB x.2.1)).filter q_w).foldl (q_wb P.2.2.1) V = (((List.range P.1.1).flatMap A.1).filter q_w).foldl (q_wb P.2.2.1) V := fun V => by
    rw [e1]
    refine p1.foldl_eq' (fun a ha b hb z => q_wb_comm hP.2.2.2.2.1 (fun hab => ?_)) _
    obtain ⟨ha2, ha3⟩ := List.mem_filter.mp (p1.mem_iff.mp ha)
    obtain ⟨hb2, hb3⟩ := List.mem_filter.mp (p1.mem_iff.mp hb)
    obtain ⟨c, hc, ha4⟩ := List.mem_flatMap.mp ha2
    obtain ⟨d, hd, hb4⟩ := List.mem_flatMap.mp hb2
    rw [List.mem_range] at hc hd
    have hcd := hI.2.2.2.2.2.2.1 c d a ha4 b hb4 hc hd hab ((hI.2.1 c a ha4).resolve_left (of_decide_eq_true ha3)) ((hI.2.1 d b hb4).resolve_left (of_decide_eq_true hb3))
    subst hcd
    exact q_nd_inj (hI.1 c) ha4 hb4 hab
  have em : M_C_flush g x = L_C_flush_10 g (1 * P.1.2.2 * 4 + 1) x.2.2.2.1.1 0 (x.1, x.2.1, x.2.2.1, x.2.2.2.1, x.2.2.2.2.1, x.2.2.2.2.2) := by
    unfold M_C_flush
    rw [hR.2.2.1.1.2.2.2.1, mu_nI0 (by omega)]
  rw [em, h2, h1, f1, f2]
  refine ⟨by rw [eV]; rfl, ?_⟩
  obtain ⟨g0, b1, b2, r1, r2, r3, r4, r5⟩ := hR
  exact ⟨g0, RB_clear b1, RB_clear b2, r1, r2, rfl, r4, r5⟩
end FlushC
