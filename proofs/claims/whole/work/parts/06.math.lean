def M_Math_floorMod (p0 p1 : Int32) : Int32 := (if 0 ≤ (p0 ^^^ p1) then (p0 - p0 / p1 * p1) else (if (p0 - p0 / p1 * p1) = 0 then (p0 - p0 / p1 * p1) else ((p0 - p0 / p1 * p1) + p1)))
theorem M_Math_floorMod_eq (p0 p1 : Int32) : M_Math_floorMod p0 p1 = (if 0 ≤ (p0 ^^^ p1) then (p0 - p0 / p1 * p1) else (if (p0 - p0 / p1 * p1) = 0 then (p0 - p0 / p1 * p1) else ((p0 - p0 / p1 * p1) + p1))) := rfl
abbrev w_Math_floorMod : List Cond := .code y_Math_floorMod b_Math_floorMod 3 (some .int) :: tbW
abbrev rm_Math_floorMod : Room := { frames := 0, cells := 0, slots := 0, locals := 0 }
set_option maxHeartbeats 4000000 in
set_option maxRecDepth 100000 in
theorem c_Math_floorMod (l : Launch) (p0 p1 : Int32) (hne : ¬ p1 = 0) : Met l y_Math_floorMod w_Math_floorMod rm_Math_floorMod (va_Pc [.int p0, .int p1] (fun _ => True)) (vp_Si (fun r => r = M_Math_floorMod p0 p1)) 0 0 (fun _ => False) := by
  refine va_MetF (cc := b_Math_floorMod) (maxL := 3) (ret := (some .int)) (by decide +kernel) rfl ?_
  intro p e s m args below meth c s₁ B hml hv
  obtain ⟨rfl, -⟩ := hv
  have hx := B.exec
  have hb := B.bytes
  have hr := B.returns
  have htb : ∀ w ∈ tbW, w.before _ s = true := fun w h => atoms_spec (ws := w_Math_floorMod) B.pre w (List.mem_cons_of_mem _ h)
  have hown : s.vm.findClass R_Math = some m.cls := findClass_of_methodNamed B.named
  have hlocks := B.notSynchronized
  have hl := lv_entry ([.int p0, .int p1]) (n := 3) (Nat.le_of_ble_eq_true rfl)
  rw [lg_entry_eq]
  generalize (lg_sl ([.int p0, .int p1]) ++ List.replicate (3 - (lg_sl ([.int p0, .int p1])).length) Slot.unset).toArray = ls at hl ⊢
  have hl : lv_has ls 3 [(0, .int p0), (1, .int p1)] := hl
  have hF := M_Math_floorMod_eq p0 p1
  refine lv_iload_n hx hb d_Math_floorMod_0 rfl (lv_at hl 0 rfl) ?_
  refine lv_iload_n hx hb d_Math_floorMod_1 rfl (lv_at hl 1 rfl) ?_
  refine lv_irem hx hb d_Math_floorMod_2 hne ?_
  refine lv_istore_n (lv' := [(2, .int (p0 - p0 / p1 * p1)), (0, .int p0), (1, .int p1)]) hx hb d_Math_floorMod_3 rfl hl (by decide) rfl (fun ls hl => ?_)
  refine lv_iload_n hx hb d_Math_floorMod_4 rfl (lv_at hl 1 rfl) ?_
  refine lv_iload_n hx hb d_Math_floorMod_5 rfl (lv_at hl 2 rfl) ?_
  refine lv_ixor hx hb d_Math_floorMod_6 ?_
  refine lv_if_ge (tgt := 18) hx hb d_Math_floorMod_7 (by decide) (fun c_7 => ?_) (fun c_7 => ?_)
  · have hF := hF.trans (if_pos c_7)
    refine lv_iload_n hx hb d_Math_floorMod_18 rfl (lv_at hl 0 rfl) ?_
    exact W.iret (v := (p0 - p0 / p1 * p1)) hx hb hr (fun t ht hW => ⟨_, rfl, hF.symm, ht⟩) (fun q h => by cases h) d_Math_floorMod_19
  · have hF := hF.trans (if_neg c_7)
    refine lv_iload_n hx hb d_Math_floorMod_10 rfl (lv_at hl 0 rfl) ?_
    refine lv_if_eq (tgt := 18) hx hb d_Math_floorMod_11 (by decide) (fun c_11 => ?_) (fun c_11 => ?_)
    · have hF := hF.trans (if_pos c_11)
      refine lv_iload_n hx hb d_Math_floorMod_18 rfl (lv_at hl 0 rfl) ?_
      exact W.iret (v := (p0 - p0 / p1 * p1)) hx hb hr (fun t ht hW => ⟨_, rfl, hF.symm, ht⟩) (fun q h => by cases h) d_Math_floorMod_19
    · have hF := hF.trans (if_neg c_11)
      refine lv_iload_n hx hb d_Math_floorMod_14 rfl (lv_at hl 0 rfl) ?_
      refine lv_iload_n hx hb d_Math_floorMod_15 rfl (lv_at hl 2 rfl) ?_
      refine lv_iadd hx hb d_Math_floorMod_16 ?_
      exact W.iret (v := ((p0 - p0 / p1 * p1) + p1)) hx hb hr (fun t ht hW => ⟨_, rfl, hF.symm, ht⟩) (fun q h => by cases h) d_Math_floorMod_17
