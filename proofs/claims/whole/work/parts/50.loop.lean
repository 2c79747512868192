/-! THE CLAIM OUT OF ONE WALK OF THE LAW'S BODY -/
def R_law : String := "CacheLevelsLaw"
def lw_P (b : Addr) (xs : List Int32) (args : Array Value) (s : State) : Prop := args = #[.ref b] ∧ s.IntsAt b xs ∧ xs.length ≤ 2052 ∧ (Jvm.Cond.and given_1 narrow_1).before args s = true
def lw_Q (_ : Array Value) (s : State) (o : Outcome) (t : State) : Prop := o = .returned (some (.int 1)) ∧ Framed s o t [] 601024 7293000
def lw_Z (below : List Frame) (a : Array Value) (s : State) : State → Prop := fun t => ∃ o, t.status = .running ∧ Ended t below o ∧ lw_Q a s o t
/-- the law's own end, with 1 on the stack, nothing written that was there before, its room as the claim has it -/
theorem lw_ret {p : Program} {l : Launch} {e : Env} {s : State} {m : MethodId} {below : List Frame} {meth : Method} {c : Code} {b : Nat} (hx : p.tables.exec = Jvm.exec) (hb : c.code = code) (hr : meth.sig.returnType = ret) (hlocks : meth.locks = false) {pc : Nat} {H : Heap} {ls : Array Slot} (hdg : decode code pc = .ok (.ireturn, 1)) : W p l e room_1 s m #[Value.ref b] below meth c H [] 601024 7293000 (lw_Z below #[Value.ref b] s) (F0 m pc ls [.int 1]) := by
  intro T hT X
  obtain ⟨fs, hret, hrun, hended, hW, hframe⟩ := X.leave (v := some (.int 1)) (hlocks := hlocks) (fun h => by rw [hr] at h; cases h)
  have hmeth' : T.vm.method? m = some meth := X.method'
  refine ⟨T.setFrames fs, ?_, .returned (some (.int 1)), hrun, hended, rfl, ⟨_, rfl⟩, hW, hframe⟩
  jvm_step X.here [X.here.top, hx, hb, hdg, hmeth', hr, ret, narrow_b1]
  (try refine ⟨rfl, ?_⟩); (try refine ⟨rfl, ?_⟩)
  first | (intro acts; rw [hret _ acts rfl rfl rfl]) | rw [hret _ _ rfl rfl rfl]
  exact Steps.refl _
/-- what holds at the law's entry: the machine, the code, the tables' words (any of lw_tbl by 'hts w (by decide +kernel)'), the script of L ints xs at the cell b, what the Statement gives of the start (any of its parts by flat_of_before) -/
def lw_At (p : Program) (s : State) (m : MethodId) (meth : Method) (c : Code) (b L : Nat) (xs : Nat → Int32) : Prop :=
  p.tables.exec = Jvm.exec ∧ c.code = code ∧ meth.sig.returnType = ret ∧ c.maxLocals = 7 ∧ s.vm.findClass R_law = some m.cls ∧ (∀ w ∈ lw_tbl, w.before #[Value.ref b] s = true) ∧ va_X b L xs s s.heap ∧ b < s.heap.size ∧ meth.locks = false ∧ (Jvm.Cond.and given_1 narrow_1).before #[Value.ref b] s = true
section Loop
variable {p : Program} {l : Launch} {e : Env} {s : State} {m : MethodId} {below : List Frame} {meth : Method} {c : Code} {b L : Nat} {xs : Nat → Int32} {D : va_G} {cI cZ cL : ClassId} {g : GC} {gm : GM} {ao : Nat}
theorem law_head (C : LwC p l s m c b L xs D cI cZ cL g) (hr : meth.sig.returnType = ret) (hlocks : meth.locks = false) {q cells slots : Nat} (hq : q ≤ 4000) {x : Cs} {y : Ms} {f : Fl} {H : Heap} {locs : List Loc} {ls : Array Slot} (hs : LwS D cI cZ cL g gm ao s b q x y f H locs ls) (hc : cells ≤ 601024) (hsl : slots ≤ 7293000)
    (kk : q + 4 ≤ L → W p l e room_1 s m #[Value.ref b] below meth c H locs cells slots (lw_Z below #[Value.ref b] s) (F0 m 72 ls [])) : W p l e room_1 s m #[Value.ref b] below meth c H locs cells slots (lw_Z below #[Value.ref b] s) (F0 m 63 ls []) := by
  obtain ⟨hx, hb, hml, hown, htb, hX, hbl, hK, hT, hNc, hlt, hL, hg⟩ := C
  obtain ⟨hP, hD, hS, hl⟩ := hs
  have hbA : ¬ LA s b := Nat.not_le.mpr hbl
  refine lv_iload hx hb d_L_law_63 (lv_at hl 0 rfl) ?_
  refine lv_aload_n hx hb d_L_law_65 rfl (lv_at hl 4 rfl) ?_
  refine va_slen hx hb hX hbl hbA hS d_L_law_66 ?_
  have e0 : Int32.ofNat L = nI L := rfl
  rw [e0]
  refine lv_iconst (v := 4) hx hb d_L_law_67 (by decide) ?_
  refine lv_isub hx hb d_L_law_68 ?_
  have e4 : (4 : Int32) = nI 4 := by decide
  have es : (nI L - (4 : Int32)).toInt = (L : Int) - 4 := by
    rw [e4]
    have h9 := pk_sub_toInt (a := L) (b := 4) (by omega) (by omega)
    omega
  have eq9 : (nI q).toInt = (q : Int) := nI_toInt (by omega)
  refine lv_icmp_gt (tgt := 728) hx hb d_L_law_69 (by decide) (fun c9 => ?_) (fun c9 => ?_)
  · refine lv_iconst (v := 1) hx hb d_L_law_728 (by decide) ?_
    refine W.widen (k := 601024) (n := 7293000) hc hsl ?_
    refine va_forget hS.2.2 ?_
    exact lw_ret hx hb hr hlocks d_L_law_729
  · refine kk ?_
    have h9 : ¬ (nI L - (4 : Int32)).toInt < (nI q).toInt := fun h => c9 (Int32.lt_iff_toInt_lt.mpr h)
    rw [es, eq9] at h9
    omega
set_option maxHeartbeats 8000000 in
set_option maxRecDepth 100000 in
theorem law_body {n : Nat} {Q : State → Prop} (C : LwC p l s m c b L xs D cI cZ cL g) (hq : 4 + 4 * n + 4 ≤ L) {x : Cs} {y : Ms} {f : Fl} {H : Heap} {locs : List Loc} {ls : Array Slot} (hI : INV n g gm x y) (hs : LwS D cI cZ cL g gm ao s b (4 + 4 * n) x y f H locs ls)
    (kk : ∀ (x : Cs) (y : Ms) (f : Fl) (H : Heap) (locs : List Loc) (ls : Array Slot), INV (n + 1) g gm x y → LwS D cI cZ cL g gm ao s b (4 + 4 * (n + 1)) x y f H locs ls → W p l e room_1 s m #[Value.ref b] below meth c H locs (40 + n + 1) (6000 + 6 * n + 6) Q (F0 m 63 ls [])) : W p l e room_1 s m #[Value.ref b] below meth c H locs (40 + n) (6000 + 6 * n) Q (F0 m 72 ls []) := by
  have C0 := C
  obtain ⟨hx, hb, hml, hown, htb, hX, hbl, hK, hT, hNc, hlt, hL, hg⟩ := C0
  have hs0 := hs
  obtain ⟨hP, hD, hS, hl⟩ := hs0
  have hbA : ¬ LA s b := Nat.not_le.mpr hbl
  have hn : n < 512 := by omega
  have hf : 40 + n + 1 ≤ room_1.cells ∧ 6000 + 6 * n + 6 ≤ room_1.slots := ⟨by show _ ≤ 601024; omega, by show _ ≤ 7293000; omega⟩
  have k2 : ∀ (x : Cs) (y : Ms) (f : Fl) (H : Heap) (locs : List Loc) (ls : Array Slot), INV (n + 1) g gm x y → LwS D cI cZ cL g gm ao s b (4 + 4 * n) x y f H locs ls → W p l e room_1 s m #[Value.ref b] below meth c H locs (40 + n + 1) (6000 + 6 * n + 6) Q (F0 m 722 ls []) := by
    intro x y f H locs ls hI hs
    obtain ⟨hP, hD, hS, hl⟩ := hs
    have e9 : nI (4 + 4 * n) + Int32.ofInt 4 = nI (4 + 4 * (n + 1)) := by
      have e : Int32.ofInt 4 = nI 4 := by decide
      rw [e, nI_add]
      exact congrArg nI (by omega)
    refine lv_iinc (k := 0) (v := nI (4 + 4 * (n + 1))) (lv' := [(4, .int (nI (4 + 4 * (n + 1)))), (3, .ref ao), (2, .ref gm.1.1), (1, .ref g.1.1), (0, .ref b)]) hx hb d_L_law_722 hl rfl e9 (by decide) rfl (fun ls hl => ?_)
    refine lv_goto (tgt := 63) hx hb d_L_law_725 (by decide) ?_
    exact kk x y f H locs ls hI ⟨hP, hD, hS, hl⟩
  refine lv_aload_n hx hb d_L_law_72 rfl (lv_at hl 4 rfl) ?_
  refine lv_iload hx hb d_L_law_73 (lv_at hl 0 rfl) ?_
  refine va_sld hx hb hX hbl hbA hS (vp_in_nI (by omega) (by omega)) d_L_law_75 ?_
  refine lv_bipush (v := 15) hx hb d_L_law_76 (by decide) ?_
  refine lv_iand hx hb d_L_law_78 ?_
  obtain ⟨j, hj, ej⟩ := pk_andE (xs (nI (4 + 4 * n)).toNatClampNeg) (m := 15) 4 (by decide)
  refine lv_ren ej ?_
  have hj : j < 16 := hj
  by_cases h12 : j < 12
  · have h12 : j = 0 ∨ j = 1 ∨ j = 2 ∨ j = 3 ∨ j = 4 ∨ j = 5 ∨ j = 6 ∨ j = 7 ∨ j = 8 ∨ j = 9 ∨ j = 10 ∨ j = 11 := by omega
    rcases h12 with rfl | rfl | rfl | rfl | rfl | rfl | rfl | rfl | rfl | rfl | rfl | rfl
    · refine lv_tableIn (tgt := 140) (off := 61) hx hb d_L_law_79 (by decide) (by decide) (by decide) (by decide) ?_
      exact op_access C hq hn hI hs hf k2
    · refine lv_tableIn (tgt := 220) (off := 141) hx hb d_L_law_79 (by decide) (by decide) (by decide) (by decide) ?_
      exact op_quota C hq hn hI hs hf k2
    · refine lv_tableIn (tgt := 288) (off := 209) hx hb d_L_law_79 (by decide) (by decide) (by decide) (by decide) ?_
      exact op_bypass C hq hn hI hs hf k2
    · refine lv_tableIn (tgt := 325) (off := 246) hx hb d_L_law_79 (by decide) (by decide) (by decide) (by decide) ?_
      exact op_flush C hq hn hI hs hf k2
    · refine lv_tableIn (tgt := 338) (off := 259) hx hb d_L_law_79 (by decide) (by decide) (by decide) (by decide) ?_
      exact op_holds C hq hn hI hs hf k2
    · refine lv_tableIn (tgt := 406) (off := 327) hx hb d_L_law_79 (by decide) (by decide) (by decide) (by decide) ?_
      exact op_version C hq hn hI hs hf k2
    · refine lv_tableIn (tgt := 474) (off := 395) hx hb d_L_law_79 (by decide) (by decide) (by decide) (by decide) ?_
      exact op_memory C hq hn hI hs hf k2
    · refine lv_tableIn (tgt := 499) (off := 420) hx hb d_L_law_79 (by decide) (by decide) (by decide) (by decide) ?_
      exact op_line C hq hn hI hs hf k2
    · refine lv_tableIn (tgt := 579) (off := 500) hx hb d_L_law_79 (by decide) (by decide) (by decide) (by decide) ?_
      exact op_owner C hq hn hI hs hf k2
    · refine lv_tableIn (tgt := 604) (off := 525) hx hb d_L_law_79 (by decide) (by decide) (by decide) (by decide) ?_
      exact op_directory C hq hn hI hs hf k2
    · refine lv_tableIn (tgt := 629) (off := 550) hx hb d_L_law_79 (by decide) (by decide) (by decide) (by decide) ?_
      exact op_core C hq hn hI hs hf k2
    · refine lv_tableIn (tgt := 697) (off := 618) hx hb d_L_law_79 (by decide) (by decide) (by decide) (by decide) ?_
      exact op_count C hq hn hI hs hf k2
  · have ejt : (nI j).toInt = (j : Int) := nI_toInt (by omega)
    refine lv_tableOut (tgt := 722) hx hb d_L_law_79 (Or.inr (by rw [ejt]; omega)) (by decide) ?_
    refine W.widen (k := 40 + n + 1) (n := 6000 + 6 * n + 6) (Nat.le_succ _) (Nat.le_add_right _ 6) ?_
    exact k2 x y f H locs ls (INV_le (by omega) hI) hs
theorem law_loop (C : LwC p l s m c b L xs D cI cZ cL g) (hr : meth.sig.returnType = ret) (hlocks : meth.locks = false) : ∀ (k n : Nat) (x : Cs) (y : Ms) (f : Fl) (H : Heap) (locs : List Loc) (ls : Array Slot), L < 8 + 4 * n + 4 * k → n ≤ 512 → INV n g gm x y → LwS D cI cZ cL g gm ao s b (4 + 4 * n) x y f H locs ls → W p l e room_1 s m #[Value.ref b] below meth c H locs (40 + n) (6000 + 6 * n) (lw_Z below #[Value.ref b] s) (F0 m 63 ls []) := by
  have hL : L ≤ 2052 := C.2.2.2.2.2.2.2.2.2.2.2.1
  intro k
  induction k with
  | zero =>
    intro n x y f H locs ls hk hn hI hs
    exact law_head C hr hlocks (by omega) hs (by omega) (by omega) (fun h => absurd h (by omega))
  | succ k ih =>
    intro n x y f H locs ls hk hn hI hs
    refine law_head C hr hlocks (by omega) hs (by omega) (by omega) (fun h => ?_)
    refine law_body C h hI hs (fun x y f H locs ls hI hs => ?_)
    refine W.widen (k := 40 + (n + 1)) (n := 6000 + 6 * (n + 1)) (by omega) (by omega) ?_
    exact ih (n + 1) x y f H locs ls (by omega) (by omega) hI hs
end Loop
