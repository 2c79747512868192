def a_dir (L : Nat → List Ent) (l : Int32) : Nat → Nat → Int32 → Int32
  | 0, _, b => b
  | n + 1, c, b => a_dir L l n (c + 1) (if q_look l (L c) = none then b else b ||| ((1 : Int32) <<< (nI c &&& 31)))
theorem a_bit {c : Nat} (h : c < 4) : ¬ ((1 : Int32) <<< (nI c &&& 31)) = 0 := by
  have h2 : c = 0 ∨ c = 1 ∨ c = 2 ∨ c = 3 := by omega
  rcases h2 with rfl | rfl | rfl | rfl <;> decide
theorem a_dir_0 {L : Nat → List Ent} {l : Int32} : ∀ (n c : Nat) (b : Int32), c + n ≤ 4 → (a_dir L l n c b = 0 ↔ b = 0 ∧ ∀ d, c ≤ d → d < c + n → q_look l (L d) = none) := by
  intro n
  induction n with
  | zero => intro c b _; exact ⟨fun h => ⟨h, fun d h1 h2 => by omega⟩, fun h => h.1⟩
  | succ n ih =>
    intro c b hc
    unfold a_dir
    rw [ih (c + 1) _ (by omega)]
    by_cases h : q_look l (L c) = none
    · rw [if_pos h]
      refine ⟨fun ⟨h1, h2⟩ => ⟨h1, fun d d1 d2 => ?_⟩, fun ⟨h1, h2⟩ => ⟨h1, fun d d1 d2 => h2 d (by omega) (by omega)⟩⟩
      by_cases q : d = c
      · rw [q]; exact h
      · exact h2 d (by omega) (by omega)
    · rw [if_neg h, Int32.or_eq_zero_iff]
      exact ⟨fun h1 => absurd h1.1.2 (a_bit (by omega)), fun h1 => absurd (h1.2 c (by omega) (by omega)) h⟩
theorem a_one_iff {N : Nat} {L : Nat → List Ent} {l : Int32} {c : Nat} : a_one N L l c = false ↔ ∀ d, d < N → ¬ d = c → q_look l (L d) = none := by
  refine ⟨fun h d hd hdc => a_one_none h hd hdc, fun h => ?_⟩
  unfold a_one
  rw [List.any_eq_false]
  intro d hd
  rw [List.mem_range] at hd
  by_cases q : d = c
  · simp [q]
  · rw [h d hd q]
    simp
section ClassRef2
variable {g : GC} {x : Cs} {P : Pm} {A : Ab} {c : Nat} {l v w : Int32} {e : Ent}
theorem C_dir (hP : okP P) (hI : AI P A) (hR : RC g x P A) (l : Int32) : ∀ (n c fuel : Nat) (b : Int32), c + n = P.1.1 → n < fuel → L_C_directory_4 g x l fuel b (nI c) = a_dir A.1 l n c b := by
  have h4 := hP.1.2
  have g1 := hR.1.1
  intro n
  induction n with
  | zero =>
    intro c fuel b hc hf
    obtain ⟨m, rfl⟩ : ∃ m, fuel = m + 1 := ⟨fuel - 1, by omega⟩
    rw [L_C_directory_4_eq, g1, if_pos (nI_le (by omega) (by omega))]
    rfl
  | succ n ih =>
    intro c fuel b hc hf
    obtain ⟨m, rfl⟩ : ∃ m, fuel = m + 1 := ⟨fuel - 1, by omega⟩
    rw [L_C_directory_4_eq, g1, if_neg (nI_ge (by omega) (by omega))]
    unfold a_dir
    rcases C_find1 hI hR (c := c) (by omega) l with ⟨e, k1, k2, k3⟩ | ⟨k1, k2⟩
    · obtain ⟨-, -, -, -, s5, -⟩ := SB_val hR.2.1 (by omega) k3
      rw [bnd_eq rfl, if_neg s5, if_neg (by rw [k1]; exact fun q => by cases q), nI_1]
      exact ih (c + 1) m _ (by omega) (by omega)
    · rw [bnd_eq k2.symm, if_pos rfl, if_pos k1, nI_1]
      exact ih (c + 1) m _ (by omega) (by omega)
theorem C_dir0 (hP : okP P) (hI : AI P A) (hR : RC g x P A) (l : Int32) : M_C_directory g x l = a_dir A.1 l P.1.1 0 0 := by
  have h4 := hP.1.2
  have h := C_dir hP hI hR l P.1.1 0 (P.1.1 + 1) 0 (by omega) (by omega)
  unfold M_C_directory
  rw [hR.1.1, mu_nI0 (by omega)]
  rw [nI_0] at h
  exact h
theorem C_in2 (hP : okP P) (hI : AI P A) (hR : RC g x P A) (hc : c < P.1.1) (hw : w = 0 ∨ w = 1) : RC g (M_C_comeIntoSecond g x (nI c) l v w) P (a_in2 P A c l w v) := by
  have h4 := hP.1.2
  have e1 : g.2.2.1.1 = P.1.1 := congrArg Prod.fst hR.1.2.2.1
  unfold M_C_comeIntoSecond
  rw [if_neg (nI_pos (by omega)), e1, if_neg (nI_ge hc (by omega)), nI_clamp (by omega), hR.2.2.2.2.2.2.1 c hc]
  unfold L_C_comeIntoSecond_25 a_in2
  by_cases hq : P.2.2.2.1 c = 0
  · rw [if_pos hq, if_pos hq]
    by_cases q : w = 0
    · rw [if_pos q, if_pos q]
      exact hR
    · rw [if_neg q, if_neg q, bnd_eq rfl]
      exact C_back hR
  · rw [if_neg hq, if_neg hq]
    have ep : M_B_placeOf g.2.2.2.2.1 x.2.2.1 0 l = nI (0 * P.1.2.2 + q_st P.1.2.2 l) := by
      have h := RB_place (c := 0) hR.2.2.1 l
      rwa [nI_0] at h
    have eo := RB_owned (c := 0) hR.2.2.1 (by omega) l (nI c)
    rw [bnd_eq ep.symm, bnd_eq eo.symm]
    obtain ⟨f1, f2, f3, f4, f5, f6⟩ := K_free (l := l) hP hI hc hq
    have put : ∀ z, RC g z P (a_free P A c l) → RC g (L_C_comeIntoSecond_113 g (nI c) l v w (nI (0 * P.1.2.2 + q_st P.1.2.2 l)) z) P (a_setL (a_free P A c l) 4 ((l, w, v, nI c) :: (a_free P A c l).1 4)) := fun z hz => by
      unfold L_C_comeIntoSecond_113
      rw [bnd_eq rfl]
      exact C_set2 hP hz (RB_put hz.2.2.1 (by omega) hw f6)
    by_cases ho : P.2.2.2.1 c ≤ nI ((q_pl P.1.2.2 (A.1 4) (q_st P.1.2.2 l)).filter (q_own (nI c))).length
    · have ev : a_vic P A c l = ((q_pl P.1.2.2 (A.1 4) (q_st P.1.2.2 l)).filter (q_own (nI c))).getLast? := by
        unfold a_vic
        rw [if_pos ho]
      rw [if_neg (Int32.not_lt.mpr ho)]
      have hne : (q_pl P.1.2.2 (A.1 4) (q_st P.1.2.2 l)).filter (q_own (nI c)) ≠ [] := fun q => by
        rw [q] at ho
        obtain ⟨n, hn, hn2⟩ := hP.2.2.2.2.2 c hc
        rw [hn2] at ho hq
        have h0 : n ≤ 0 := (nI_leI (by omega) (by decide)).mp ho
        have h1 : n = 0 := by omega
        rw [h1] at hq
        exact hq nI_0
      obtain ⟨e, t1, t2, t3⟩ := RB_oldo (c := 0) hR.2.2.1 (by omega) l (nI c) hne
      have t1 : ((q_pl P.1.2.2 (A.1 4) (q_st P.1.2.2 l)).filter (q_own (nI c))).getLast? = some e := t1
      rw [bnd_eq rfl, bnd_eq rfl]
      refine put _ ?_
      have hL := C_leave hP hI hR t3
      unfold a_free
      rw [ev, t1]
      exact hL
    · rw [if_pos (Int32.not_le.mp ho)]
      have ef := RB_full (c := 0) hR.2.2.1 (by omega) l
      by_cases hf : (q_pl P.1.2.2 (A.1 4) (q_st P.1.2.2 l)).length < 4
      · have ev : a_vic P A c l = none := by
          unfold a_vic
          rw [if_neg ho, if_pos hf]
        rw [if_pos hf] at ef
        rw [bnd_eq ef.symm, if_pos rfl]
        refine put _ ?_
        unfold a_free
        rw [ev]
        exact hR
      · have ev : a_vic P A c l = (q_pl P.1.2.2 (A.1 4) (q_st P.1.2.2 l)).getLast? := by
          unfold a_vic
          rw [if_neg ho, if_neg hf]
        rw [if_neg hf] at ef
        obtain ⟨e, t1, t2, t3⟩ := RB_old (c := 0) hR.2.2.1 (by omega) l (by omega)
        have t1 : (q_pl P.1.2.2 (A.1 4) (q_st P.1.2.2 l)).getLast? = some e := t1
        rw [bnd_eq ef.symm, if_neg i10, bnd_eq rfl, bnd_eq rfl]
        refine put _ ?_
        have hL := C_leave hP hI hR t3
        unfold a_free
        rw [ev, t1]
        exact hL
theorem C_room (hP : okP P) (hI : AI P A) (hR : RC g x P A) (hc : c < P.1.1) : RC g (M_C_makeRoomInFirst g x (nI c) l) P (a_room P A c l) := by
  have h4 := hP.1.2
  have ep := RB_place (c := c) hR.2.1 l
  have ef := RB_full (c := c) hR.2.1 hc l
  unfold M_C_makeRoomInFirst a_room
  rw [bnd_eq ep.symm]
  by_cases hf : (q_pl P.1.2.1 (A.1 c) (q_st P.1.2.1 l)).length < 2
  · have ev : a_out P A c l = none := by
      unfold a_out
      rw [if_pos hf]
    rw [if_pos hf] at ef
    rw [bnd_eq ef.symm, if_pos rfl, ev]
    exact hR
  · obtain ⟨e, t1, t2, t3⟩ := RB_old (c := c) hR.2.1 hc l (by omega)
    have ev : a_out P A c l = some e := by
      unfold a_out
      rw [if_neg hf, t1]
    rw [if_neg hf] at ef
    obtain ⟨s1, s2, s3, s4, s5, s6⟩ := SB_val hR.2.1 hc t3
    obtain ⟨o1, o2, o3, o4, o5⟩ := K_out hP hI hc ev
    have hB := RB_drop hR.2.1 (hI.1 c) hc t3
    have hR2 := C_set1 hP hR hc hB
    rw [bnd_eq ef.symm, if_neg i10, bnd_eq rfl, bnd_eq s1.symm, bnd_eq s2.symm, bnd_eq s3.symm, bnd_eq rfl, ev]
    simp only []
    have other : ¬ (P.2.1 = 2 ∧ P.2.2.2.2 e.1 = false ∧ a_one P.1.1 (a_setL A c (q_rm e.1 (A.1 c))).1 e.1 c = false) → RC g (L_C_makeRoomInFirst_114 g (nI c) l e.1 e.2.2.1 e.2.1 (x.1, M_B_drop g.2.2.2.1 x.2.1 (M_B_oldest g.2.2.2.1 x.2.1 (nI (c * P.1.2.1 + q_st P.1.2.1 l))), x.2.2.1, x.2.2.2.1, x.2.2.2.2.1, x.2.2.2.2.2)) P (a_gone P (a_setL A c (q_rm e.1 (A.1 c))) c e) := fun hn => by
      unfold L_C_makeRoomInFirst_114 a_gone
      rw [if_neg hn]
      by_cases q : e.2.1 = 0
      · rw [if_pos q, if_pos q]
        exact hR2
      · rw [if_neg q, if_neg q, bnd_eq rfl]
        exact C_down hP o1 hR2
    by_cases hk : P.2.1 = 2
    · rw [if_pos (hR.1.2.1.trans hk)]
      have ep2 := C_pass (l := e.1) hR2
      by_cases hp : P.2.2.2.2 e.1 = true
      · rw [if_pos hp] at ep2
        rw [bnd_eq ep2.symm, if_neg i10]
        exact other (fun q => by rw [hp] at q; exact absurd q.2.1 (by decide))
      · rw [if_neg hp] at ep2
        have hd := C_dir0 hP o1 hR2 e.1
        rw [bnd_eq ep2.symm, if_pos rfl, bnd_eq hd.symm]
        have hz := a_dir_0 (L := (a_setL A c (q_rm e.1 (A.1 c))).1) (l := e.1) P.1.1 0 0 (by omega)
        by_cases hone : a_one P.1.1 (a_setL A c (q_rm e.1 (A.1 c))).1 e.1 c = false
        · have h0 := hz.mpr ⟨rfl, fun d _ hd2 => by
            by_cases q : d = c
            · rw [q]; exact o4
            · exact a_one_iff.mp hone d (by omega) q⟩
          rw [if_pos h0, bnd_eq rfl]
          unfold a_gone
          rw [if_pos ⟨hk, by simpa using hp, hone⟩]
          exact C_in2 hP o1 hR2 hc s6
        · have h0 : ¬ a_dir (a_setL A c (q_rm e.1 (A.1 c))).1 e.1 P.1.1 0 0 = 0 := fun q => hone (a_one_iff.mpr (fun d hd2 _ => (hz.mp q).2 d (by omega) (by omega)))
          rw [if_neg h0]
          exact other (fun q => hone q.2.2)
    · rw [if_neg (fun q => hk (hR.1.2.1.symm.trans q))]
      exact other (fun q => hk q.1)
theorem C_in1 (hP : okP P) (hI : AI P A) (hR : RC g x P A) (hc : c < P.1.1) (hw : w = 0 ∨ w = 1) {v3 : Int32} (L : Int32 × Cs → Prop) (kk : ∀ z, RC g z P (a_in1 P A c l w v) → L (L_C_bring_158 g (nI c) l v3 z)) : L (L_C_bring_130 g (nI c) l v3 v w x) := by
  obtain ⟨i1, i2, i3, i4, i5⟩ := K_room (l := l) hP hI hc
  have hR2 := C_room (l := l) hP hI hR hc
  have ep := RB_place (c := c) hR2.2.1 l
  unfold L_C_bring_130
  rw [bnd_eq rfl, bnd_eq ep.symm, bnd_eq rfl]
  exact kk _ (C_set1 hP hR2 hc (RB_put hR2.2.1 hc hw i5))
end ClassRef2
