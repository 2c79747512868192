-- what an access does, on lists; what stays true
abbrev Pm : Type := (Nat × Nat × Nat) × Int32 × GV × Fn × (Int32 → Bool)
abbrev Ab : Type := (Nat → List Ent) × Vs × Int32 × Fn
def okP (P : Pm) : Prop := (0 < P.1.1 ∧ P.1.1 ≤ 4) ∧ (0 < P.1.2.1 ∧ P.1.2.1 ≤ 8) ∧ (0 < P.1.2.2 ∧ P.1.2.2 ≤ 16) ∧ (P.2.1 = 0 ∨ P.2.1 = 1 ∨ P.2.1 = 2) ∧ gVl P.2.2.1 ∧ (∀ c, c < P.1.1 → ∃ n, n ≤ 4 ∧ P.2.2.2.1 c = nI n)
def a_setL (A : Ab) (c : Nat) (K : List Ent) : Ab := (q_set A.1 c K, A.2)
def a_mem (P : Pm) (A : Ab) (l v : Int32) : Ab := (A.1, M_V_writeBack P.2.2.1 A.2.1 l v, A.2.2)
def a_tal (A : Ab) (i : Nat) : Ab := (A.1, A.2.1, A.2.2.1, upd A.2.2.2 i (A.2.2.2 i + 1))
def a_down (P : Pm) (A : Ab) (l v : Int32) : Ab := if q_look l (A.1 4) = none then a_mem P A l v else a_setL A 4 (q_md l (q_wr v) (A.1 4))
def a_lv (P : Pm) (l : Int32) : Nat → Nat → Int32 → Int32 → Ab → Ab
  | 0, _, w, v, A => if w = 0 then A else a_mem P A l v
  | n + 1, c, w, v, A => match q_look l (A.1 c) with
    | none => a_lv P l n (c + 1) w v A
    | some e => a_lv P l n (c + 1) (if e.2.1 = 0 then w else 1) (if e.2.1 = 0 then v else e.2.2.1) (a_tal (a_setL A c (q_rm l (A.1 c))) (7 * c + 6))
def a_leave (P : Pm) (A : Ab) (e : Ent) : Ab := a_lv P e.1 (if P.2.1 = 1 then P.1.1 else 0) 0 e.2.1 e.2.2.1 (a_setL A 4 (q_rm e.1 (A.1 4)))
def a_vic (P : Pm) (A : Ab) (c : Nat) (l : Int32) : Option Ent := if P.2.2.2.1 c ≤ nI ((q_pl P.1.2.2 (A.1 4) (q_st P.1.2.2 l)).filter (q_own (nI c))).length then ((q_pl P.1.2.2 (A.1 4) (q_st P.1.2.2 l)).filter (q_own (nI c))).getLast? else if (q_pl P.1.2.2 (A.1 4) (q_st P.1.2.2 l)).length < 4 then none else (q_pl P.1.2.2 (A.1 4) (q_st P.1.2.2 l)).getLast?
def a_free (P : Pm) (A : Ab) (c : Nat) (l : Int32) : Ab := match a_vic P A c l with
  | none => A
  | some e => a_leave P A e
def a_in2 (P : Pm) (A : Ab) (c : Nat) (l w v : Int32) : Ab := if P.2.2.2.1 c = 0 then (if w = 0 then A else a_mem P A l v) else a_setL (a_free P A c l) 4 ((l, w, v, nI c) :: (a_free P A c l).1 4)
def a_one (N : Nat) (L : Nat → List Ent) (l : Int32) (c : Nat) : Bool := (List.range N).any (fun d => decide (¬ d = c) && (q_look l (L d)).isSome)
def a_out (P : Pm) (A : Ab) (c : Nat) (l : Int32) : Option Ent := if (q_pl P.1.2.1 (A.1 c) (q_st P.1.2.1 l)).length < 2 then none else (q_pl P.1.2.1 (A.1 c) (q_st P.1.2.1 l)).getLast?
def a_gone (P : Pm) (B : Ab) (c : Nat) (e : Ent) : Ab := if P.2.1 = 2 ∧ P.2.2.2.2 e.1 = false ∧ a_one P.1.1 B.1 e.1 c = false then a_in2 P B c e.1 e.2.1 e.2.2.1 else if e.2.1 = 0 then B else a_down P B e.1 e.2.2.1
def a_room (P : Pm) (A : Ab) (c : Nat) (l : Int32) : Ab := match a_out P A c l with
  | none => A
  | some e => a_gone P (a_setL A c (q_rm e.1 (A.1 c))) c e
def a_in1 (P : Pm) (A : Ab) (c : Nat) (l w v : Int32) : Ab := a_setL (a_room P A c l) c ((l, w, v, nI c) :: (a_room P A c l).1 c)
def a_wif (L : Nat → List Ent) (l : Int32) : Nat → Nat → Option (Nat × Ent)
  | 0, _ => none
  | n + 1, c => match q_look l (L c) with
    | none => a_wif L l n (c + 1)
    | some e => if e.2.1 = 0 then a_wif L l n (c + 1) else some (c, e)
def a_hand (P : Pm) (A : Ab) (l : Int32) : Ab := match a_wif A.1 l P.1.1 0 with
  | none => A
  | some (c, e) => a_down P (q_set A.1 c (q_md l q_cl (A.1 c)), A.2.1, A.2.2.1 + 1, A.2.2.2) l e.2.2.1
def a_hit2 (P : Pm) (B : Ab) (c : Nat) (l : Int32) (e : Ent) : Ab := a_in1 P (a_setL B 4 (if P.2.1 = 2 then q_rm l (B.1 4) else e :: q_rm l (B.1 4))) c l (if P.2.1 = 2 then e.2.1 else 0) e.2.2.1
def a_mid (P : Pm) (B : Ab) (c : Nat) (l : Int32) : Ab := if P.2.1 = 2 ∨ P.2.2.2.2 l = true then B else a_in2 P B c l 0 (M_V_inMemory P.2.2.1 B.2.1 l)
def a_fetch (P : Pm) (B : Ab) (c : Nat) (l : Int32) : Nat × Ab := if P.2.1 = 1 ∧ (P.2.2.2.2 l = true ∨ P.2.2.2.1 c = 0) then (4, B) else (3, a_in1 P (a_mid P B c l) c l 0 (M_V_inMemory P.2.2.1 B.2.1 l))
def a_bring2 (P : Pm) (B : Ab) (c : Nat) (l : Int32) : Nat × Ab := match q_look l (B.1 4) with
  | some e => (2, a_hit2 P B c l e)
  | none => a_fetch P B c l
def a_bring (P : Pm) (A : Ab) (c : Nat) (l : Int32) : Nat × Ab := a_bring2 P (a_hand P A l) c l
def a_ol (core : Nat) (l : Int32) : Nat → Nat → Ab → Ab
  | 0, _, A => A
  | n + 1, c, A => if c = core then a_ol core l n (c + 1) A else match q_look l (A.1 c) with
    | none => a_ol core l n (c + 1) A
    | some _ => a_ol core l n (c + 1) (a_tal (a_setL A c (q_rm l (A.1 c))) (7 * c + 5))
def a_ex (P : Pm) (A : Ab) (l : Int32) : Ab := if P.2.1 = 2 then a_setL A 4 (q_rm l (A.1 4)) else A
def a_new (P : Pm) (B : Ab) (c : Nat) (l : Int32) (h : Nat) : Ab := if h = 4 then (B.1, M_V_writeBack P.2.2.1 (M_V_makeNext P.2.2.1 B.2.1 l).2 l (M_V_makeNext P.2.2.1 B.2.1 l).1, B.2.2) else (q_set B.1 c (q_md l (q_wr (M_V_makeNext P.2.2.1 B.2.1 l).1) (B.1 c)), (M_V_makeNext P.2.2.1 B.2.1 l).2, B.2.2)
def a_write (P : Pm) (A : Ab) (c : Nat) (l : Int32) (h : Nat) : Ab := a_new P (a_ex P (a_ol c l P.1.1 0 (a_tal A (7 * c + 4))) l) c l h
def a_get (P : Pm) (A : Ab) (c : Nat) (l : Int32) : Nat × Ab := match q_look l (A.1 c) with
  | some e => (1, a_setL A c (e :: q_rm l (A.1 c)))
  | none => a_bring P A c l
def a_h (h : Nat) : Nat := if h = 4 then 3 else h
def a_access (P : Pm) (A : Ab) (c : Nat) (l kind : Int32) : Nat × Ab := (a_h (a_get P (a_tal A (7 * c)) c l).1, if kind = 1 then a_write P (a_tal (a_get P (a_tal A (7 * c)) c l).2 (7 * c + a_h (a_get P (a_tal A (7 * c)) c l).1)) c l (a_get P (a_tal A (7 * c)) c l).1 else a_tal (a_get P (a_tal A (7 * c)) c l).2 (7 * c + a_h (a_get P (a_tal A (7 * c)) c l).1))
def AI (P : Pm) (A : Ab) : Prop := (∀ c, q_nd (A.1 c)) ∧ (∀ c, ∀ e ∈ A.1 c, e.2.1 = 0 ∨ e.2.1 = 1) ∧ (∀ c, ∀ e ∈ A.1 c, e.2.1 = 1 → knw A.2.1 e.1) ∧ (∀ c, P.1.1 ≤ c → ¬ c = 4 → A.1 c = []) ∧ (∀ c, c < P.1.1 → ∀ s, (q_pl P.1.2.1 (A.1 c) s).length ≤ 2) ∧ (∀ s, (q_pl P.1.2.2 (A.1 4) s).length ≤ 4) ∧ (∀ c d, ∀ e ∈ A.1 c, ∀ f ∈ A.1 d, c < P.1.1 → d < P.1.1 → e.1 = f.1 → e.2.1 = 1 → f.2.1 = 1 → c = d) ∧ (P.2.1 = 2 → ∀ e ∈ A.1 4, ∀ c, c < P.1.1 → q_look e.1 (A.1 c) = none) ∧ VI A.2.1
section AIrows
variable {P : Pm} {A : Ab} {c : Nat} {l v w : Int32} {e : Ent}
theorem AI_len (hP : okP P) (hI : AI P A) (hc : c < 5) : (A.1 c).length ≤ 64 := by
  obtain ⟨-, -, -, h4, h5, h6, -⟩ := hI
  obtain ⟨p1, p2, p3, -⟩ := hP
  by_cases h : c = 4
  · subst h
    have h7 := q_len p3.1 (fun s _ => h6 s)
    omega
  · by_cases h2 : c < P.1.1
    · have h7 := q_len p2.1 (fun s _ => h5 c h2 s)
      omega
    · rw [h4 c (by omega) h]
      exact Nat.zero_le _
/-- the rest of a state may change, if what is known stays known -/
theorem AI_rest {B : Ab} (hI : AI P A) (h1 : B.1 = A.1) (h2 : ∀ l, knw A.2.1 l → knw B.2.1 l) (h3 : VI B.2.1) : AI P B := by
  obtain ⟨a1, a2, a3, a4, a5, a6, a7, a8, a9⟩ := hI
  unfold AI
  rw [h1]
  exact ⟨a1, a2, fun c e he hw => h2 _ (a3 c e he hw), a4, a5, a6, a7, a8, h3⟩
theorem AI_mem (hP : okP P) (hI : AI P A) : AI P (a_mem P A l v) := by
  obtain ⟨h1, h2, h3, h4⟩ := V_back_lines (V := A.2.1) (l := l) (v := v) hP.2.2.2.2.1
  refine AI_rest hI rfl (fun l2 h => ?_) (h4 hI.2.2.2.2.2.2.2.2)
  obtain ⟨j, b1, b2⟩ := h
  refine ⟨j, ?_, ?_⟩
  · show j < (M_V_writeBack P.2.2.1 A.2.1 l v).2.1.val
    rw [h1]; exact b1
  · show (M_V_writeBack P.2.2.1 A.2.1 l v).2.2.1 j = l2
    rw [h2]; exact b2
theorem AI_tal (hI : AI P A) (i : Nat) : AI P (a_tal A i) := AI_rest hI rfl (fun _ h => h) hI.2.2.2.2.2.2.2.2
theorem q_pl_le {S s : Nat} {L : List Ent} : (q_pl S (q_rm l L) s).length ≤ (q_pl S L s).length := by
  rw [q_pl_rm]
  exact List.length_filter_le _ _
theorem q_set_mem {L : Nat → List Ent} {K : List Ent} {d : Nat} (h : e ∈ q_set L c K d) : (d = c ∧ e ∈ K) ∨ (¬ d = c ∧ e ∈ L d) := by
  by_cases q : d = c
  · subst q
    rw [q_set_s] at h
    exact Or.inl ⟨rfl, h⟩
  · rw [q_set_n q] at h
    exact Or.inr ⟨q, h⟩
/-- a cache's list may change -/
theorem AI_set (hI : AI P A) (K : List Ent) (hc : c < P.1.1 ∨ c = 4) (h1 : q_nd K) (h2 : ∀ e ∈ K, e.2.1 = 0 ∨ e.2.1 = 1) (h3 : ∀ e ∈ K, e.2.1 = 1 → knw A.2.1 e.1) (h5 : c < P.1.1 → ∀ s, (q_pl P.1.2.1 K s).length ≤ 2) (h6 : c = 4 → ∀ s, (q_pl P.1.2.2 K s).length ≤ 4) (h7 : c < P.1.1 → ∀ e ∈ K, e.2.1 = 1 → ∀ d, d < P.1.1 → ¬ d = c → ∀ f ∈ A.1 d, e.1 = f.1 → ¬ f.2.1 = 1) (h8 : P.2.1 = 2 → c < P.1.1 → ¬ c = 4 → ∀ e ∈ A.1 4, q_look e.1 K = none) (h9 : P.2.1 = 2 → c = 4 → ∀ e ∈ K, ∀ d, d < P.1.1 → ¬ d = 4 → q_look e.1 (A.1 d) = none) (hN : P.1.1 ≤ 4) : AI P (a_setL A c K) := by
  obtain ⟨a1, a2, a3, a4, a5, a6, a7, a8, a9⟩ := hI
  refine ⟨fun d => ?_, fun d e he => ?_, fun d e he hw => ?_, fun d h h2 => ?_, fun d hd s => ?_, fun s => ?_, fun d1 d2 e he f hf hd1 hd2 hef hw1 hw2 => ?_, fun hk e he d hd => ?_, a9⟩
  · show q_nd (q_set A.1 c K d)
    by_cases q : d = c
    · rw [q, q_set_s]; exact h1
    · rw [q_set_n q]; exact a1 d
  · rcases q_set_mem he with ⟨-, he⟩ | ⟨-, he⟩
    · exact h2 e he
    · exact a2 d e he
  · rcases q_set_mem he with ⟨-, he⟩ | ⟨-, he⟩
    · exact h3 e he hw
    · exact a3 d e he hw
  · show q_set A.1 c K d = []
    rw [q_set_n (by omega)]
    exact a4 d h h2
  · show (q_pl P.1.2.1 (q_set A.1 c K d) s).length ≤ 2
    by_cases q : d = c
    · subst q
      rw [q_set_s]; exact h5 hd s
    · rw [q_set_n q]; exact a5 d hd s
  · show (q_pl P.1.2.2 (q_set A.1 c K 4) s).length ≤ 4
    by_cases q : 4 = c
    · subst q
      rw [q_set_s]; exact h6 rfl s
    · rw [q_set_n q]; exact a6 s
  · rcases q_set_mem he with ⟨q1, he2⟩ | ⟨q1, he2⟩
    · rcases q_set_mem hf with ⟨q2, hf2⟩ | ⟨q2, hf2⟩
      · omega
      · subst q1
        exact absurd hw2 (h7 hd1 e he2 hw1 d2 hd2 q2 f hf2 hef)
    · rcases q_set_mem hf with ⟨q2, hf2⟩ | ⟨q2, hf2⟩
      · subst q2
        exact absurd hw1 (h7 hd2 f hf2 hw2 d1 hd1 q1 e he2 hef.symm)
      · exact a7 d1 d2 e he2 f hf2 hd1 hd2 hef hw1 hw2
  · show q_look e.1 (q_set A.1 c K d) = none
    rcases q_set_mem he with ⟨q1, he2⟩ | ⟨q1, he2⟩
    · rw [q_set_n (by omega)]
      exact h9 hk q1.symm e he2 d hd (by omega)
    · by_cases q : d = c
      · subst q
        rw [q_set_s]
        exact h8 hk hd (by omega) e he2
      · rw [q_set_n q]
        exact a8 hk e he2 d hd
theorem AI_rm (hP : okP P) (hI : AI P A) (l : Int32) (hc : c < P.1.1 ∨ c = 4) : AI P (a_setL A c (q_rm l (A.1 c))) := by
  obtain ⟨a1, a2, a3, a4, a5, a6, a7, a8, a9⟩ := hI
  refine AI_set ⟨a1, a2, a3, a4, a5, a6, a7, a8, a9⟩ _ hc (q_nd_rm (a1 c)) (fun e he => a2 c e (q_mem_rm.mp he).1) (fun e he => a3 c e (q_mem_rm.mp he).1) (fun h s => Nat.le_trans q_pl_le (a5 c h s)) (fun h s => ?_) (fun h e he hw d hd hdc f hf hef hw2 => ?_) (fun hk h1 h2 e he => ?_) (fun hk h1 e he d hd h2 => ?_) hP.1.2
  · subst h
    exact Nat.le_trans q_pl_le (a6 s)
  · exact hdc (a7 c d e (q_mem_rm.mp he).1 f hf h hd hef hw hw2).symm
  · exact q_look_rm_none (a8 hk e he c h1)
  · subst h1
    exact a8 hk e (q_mem_rm.mp he).1 d hd
theorem AI_cons4 (hP : okP P) (hI : AI P A) {o : Int32} (h1 : q_look l (A.1 4) = none) (hw : w = 0 ∨ w = 1) (hk : w = 1 → knw A.2.1 l) (hb : (q_pl P.1.2.2 (A.1 4) (q_st P.1.2.2 l)).length < 4) (hx : P.2.1 = 2 → ∀ d, d < P.1.1 → q_look l (A.1 d) = none) : AI P (a_setL A 4 ((l, w, v, o) :: A.1 4)) := by
  obtain ⟨a1, a2, a3, a4, a5, a6, a7, a8, a9⟩ := hI
  refine AI_set ⟨a1, a2, a3, a4, a5, a6, a7, a8, a9⟩ _ (Or.inr rfl) (q_nd_cons (a1 4) h1) (fun e he => ?_) (fun e he hw2 => ?_) (fun h => absurd h (by have := hP.1.2; omega)) (fun _ s => ?_) (fun h => absurd h (by have := hP.1.2; omega)) (fun _ h => absurd h (by have := hP.1.2; omega)) (fun hk2 _ e he d hd _ => ?_) hP.1.2
  · rcases List.mem_cons.mp he with rfl | he
    · exact hw
    · exact a2 4 e he
  · rcases List.mem_cons.mp he with rfl | he
    · exact hk hw2
    · exact a3 4 e he hw2
  · rw [q_pl_cons]
    by_cases q : q_st P.1.2.2 l = s
    · subst q
      rw [if_pos rfl, List.length_cons]
      omega
    · rw [if_neg q]
      exact a6 s
  · rcases List.mem_cons.mp he with rfl | he
    · exact hx hk2 d hd
    · exact a8 hk2 e he d hd
theorem AI_cons1 (hP : okP P) (hI : AI P A) {o : Int32} (hc : c < P.1.1) (h1 : q_look l (A.1 c) = none) (hw : w = 0 ∨ w = 1) (hk : w = 1 → knw A.2.1 l) (hb : (q_pl P.1.2.1 (A.1 c) (q_st P.1.2.1 l)).length < 2) (ho : w = 1 → ∀ d, d < P.1.1 → q_look l (A.1 d) = none) (hx : P.2.1 = 2 → q_look l (A.1 4) = none) : AI P (a_setL A c ((l, w, v, o) :: A.1 c)) := by
  obtain ⟨a1, a2, a3, a4, a5, a6, a7, a8, a9⟩ := hI
  have h4 := hP.1.2
  refine AI_set ⟨a1, a2, a3, a4, a5, a6, a7, a8, a9⟩ _ (Or.inl hc) (q_nd_cons (a1 c) h1) (fun e he => ?_) (fun e he hw2 => ?_) (fun _ s => ?_) (fun h => absurd h (by omega)) (fun _ e he hw2 d hd hdc f hf hef hf2 => ?_) (fun hk2 _ _ e he => ?_) (fun _ h => absurd h (by omega)) hP.1.2
  · rcases List.mem_cons.mp he with rfl | he
    · exact hw
    · exact a2 c e he
  · rcases List.mem_cons.mp he with rfl | he
    · exact hk hw2
    · exact a3 c e he hw2
  · rw [q_pl_cons]
    by_cases q : q_st P.1.2.1 l = s
    · subst q
      rw [if_pos rfl, List.length_cons]
      omega
    · rw [if_neg q]
      exact a5 c hc s
  · rcases List.mem_cons.mp he with rfl | he
    · exact q_look_none.mp (ho hw2 d hd) f hf hef.symm
    · exact hdc (a7 c d e he f hf hc hd hef hw2 hf2).symm
  · rw [q_look_cons]
    by_cases q : l = e.1
    · have h9 := hx hk2
      exact absurd q.symm (q_look_none.mp h9 e he)
    · rw [if_neg q]
      exact a8 hk2 e he c hc
theorem AI_md (hP : okP P) (hI : AI P A) {f : Ent → Ent} (hf : ∀ e, (f e).1 = e.1) (hc : c < P.1.1 ∨ c = 4) (hw : ∀ e, (f e).2.1 = 0 ∨ (f e).2.1 = 1) (hk : ∀ e, (f e).2.1 = 1 → knw A.2.1 l) (ho : c < P.1.1 → (∃ e, (f e).2.1 = 1) → ∀ d, d < P.1.1 → ¬ d = c → q_look l (A.1 d) = none) : AI P (a_setL A c (q_md l f (A.1 c))) := by
  obtain ⟨a1, a2, a3, a4, a5, a6, a7, a8, a9⟩ := hI
  refine AI_set ⟨a1, a2, a3, a4, a5, a6, a7, a8, a9⟩ _ hc (q_nd_md hf (a1 c)) (fun e he => ?_) (fun e he hw2 => ?_) (fun h s => ?_) (fun h s => ?_) (fun h e he hw2 d hd hdc f2 hf2 hef hw3 => ?_) (fun hk2 h1 h2 e he => ?_) (fun hk2 h1 e he d hd h2 => ?_) hP.1.2
  · obtain ⟨a, ha, rfl⟩ := q_mem_md.mp he
    by_cases q : a.1 = l
    · rw [if_pos q]; exact hw a
    · rw [if_neg q]; exact a2 c a ha
  · obtain ⟨a, ha, rfl⟩ := q_mem_md.mp he
    by_cases q : a.1 = l
    · rw [if_pos q] at hw2 ⊢
      rw [hf a, q]
      exact hk a hw2
    · rw [if_neg q] at hw2 ⊢
      exact a3 c a ha hw2
  · rw [q_pl_md hf]
    unfold q_md
    rw [List.length_map]
    exact a5 c h s
  · subst h
    rw [q_pl_md hf]
    unfold q_md
    rw [List.length_map]
    exact a6 s
  · obtain ⟨a, ha, rfl⟩ := q_mem_md.mp he
    by_cases q : a.1 = l
    · rw [if_pos q] at hw2 hef
      rw [hf a, q] at hef
      exact q_look_none.mp (ho h ⟨a, hw2⟩ d hd hdc) f2 hf2 hef.symm
    · rw [if_neg q] at hw2 hef
      exact hdc (a7 c d a ha f2 hf2 h hd hef hw2 hw3).symm
  · rw [q_look_md_none hf]
    exact a8 hk2 e he c h1
  · subst h1
    obtain ⟨a, ha, rfl⟩ := q_mem_md.mp he
    rw [q_md_key hf]
    exact a8 hk2 a ha d hd
end AIrows
