
theorem in_obj : Cond.instanceMethod objectInit ∈ tbW := tw 17 (by decide +kernel) (by decide +kernel)
theorem cd_obj : Cond.code objectInit ⟨#[0xb1]⟩ 1 none ∈ tbW := tw 18 (by decide +kernel) (by decide +kernel)
theorem ac_int : Cond.arrayClass (newarray.typeOf .int) ∈ tbW := tw 55 (by decide +kernel) (by decide +kernel)
theorem ac_boolean : Cond.arrayClass (newarray.typeOf .boolean) ∈ tbW := tw 56 (by decide +kernel) (by decide +kernel)
theorem ac_long : Cond.arrayClass (newarray.typeOf .long) ∈ tbW := tw 664 (by decide +kernel) (by decide +kernel)
theorem ra_int {s : State} : ∀ c c2 : ClassId, va_RA s c .int → va_RA s c2 .int → c = c2 := fun _ _ h h2 => Option.some.inj (h.symm.trans h2)
theorem ra_boolean {s : State} : ∀ c c2 : ClassId, va_RA s c .boolean → va_RA s c2 .boolean → c = c2 := fun _ _ h h2 => Option.some.inj (h.symm.trans h2)
theorem ra_long {s : State} : ∀ c c2 : ClassId, va_RA s c .long → va_RA s c2 .long → c = c2 := fun _ _ h h2 => Option.some.inj (h.symm.trans h2)
/-- a constructor's start: its object alone; it may make cells -/
def PcN (D : va_G) (cl : List vw_C) (tys : List (ClassId × FieldType)) (av : List Value) (sz : Nat) (wc : va_W) : Array Value → State → Prop := va_Pc av (fun U => U.heap.size = sz ∧ va_P D cl wc U.heap ∧ va_K D cl tys U ∧ va_D (fun _ => True) wc)
theorem blindN {D : va_G} {cl : List vw_C} {tys : List (ClassId × FieldType)} {av : List Value} {sz : Nat} {wc : va_W} : FrameBlind (PcN D cl tys av sz wc) := fun a U g mk q => ⟨q.1, q.2.1, q.2.2.1, va_K.moved (u := U) (U := U.calling g mk a) (Vm.Alike.refl U.vm) q.2.2.2.1, q.2.2.2.2⟩
section MyNew
variable {p : Program} {l : Launch} {e : Env} {R : Room} {s : State} {m : MethodId} {args : Array Value} {below : List Frame} {meth : Method} {c : Code} {H : Heap} {locs : List Loc} {cells slots : Nat} {Q : State → Prop}
variable {cc : ByteArray} {pc : Nat} {ls : Array Slot} {rest : List Value} {D : va_G} {cl : List vw_C} {tys : List (ClassId × FieldType)} {A : Nat → Prop} {H0 : Heap} {ws : va_W}
theorem newa_k (hexec : p.tables.exec = Jvm.exec) (hb : c.code = cc) {atype : ArrayType} (harr : (Cond.arrayClass (newarray.typeOf atype)).before args s = true) {ty : FieldType} (hty : newarray.typeOf atype = ty) (hK : va_K D cl tys s) (hP : va_P D cl ws H) (hD : va_D A ws) (hS : va_S A H0 H locs) (hA : ∀ q, H0.size ≤ q → A q) (t0 : Nat) {cA : ClassId} (ht : tys[t0]? = some (cA, ty)) (hu : ∀ c c2 : ClassId, va_RA s c ty → va_RA s c2 ty → c = c2)
    {n : Int32} {N' : Nat} {a0 : vp_A} (ha : ∀ cA : ClassId, vp_cell cA a0 = arrV cA N' (fun _ => defaultValue ty)) (hn : ¬ n < 0) (hN : n.toNatClampNeg = N') (hbytes : N' * componentBytes ty ≤ 536870912) (hcells : cells + 1 ≤ R.cells) (hslots : slots + N' ≤ R.slots) (hdg : decode cc pc = .ok (.newarray atype, 2))
    (kk : ∀ (q : Nat) (H1 : Heap), va_P D cl (ws ++ [(q, .inl (cA, a0))]) H1 → va_D A (ws ++ [(q, .inl (cA, a0))]) → va_S A H0 H1 locs →
      W p l e R s m args below meth c H1 locs (cells + 1) (slots + N') Q (F0 m (pc + 2) ls (.ref q :: rest))) : W p l e R s m args below meth c H locs cells slots Q (F0 m pc ls (.int n :: rest)) := by
  refine va_newa hexec hb harr hty hK hP hD hS hA ha hn hN hbytes hcells hslots hdg (fun q c2 H1 hK1 hP1 hD1 hS1 => ?_)
  have e1 := (hK.2 t0 _ ht).2
  have e2 := (hK1.2 tys.length (c2, ty) (by rw [List.getElem?_append_right (Nat.le_refl _), Nat.sub_self]; rfl)).2
  have e3 := hu _ _ e1 e2
  subst e3
  exact kk q H1 hP1 hD1 hS1
end MyNew
section MyCtor
variable {R : Room} {s : State} {args : Array Value} {bytes : ByteArray} {maxL n index mc ms : Nat} {own : String} {y : MethodName}
theorem cwi0 (hts : ∀ w ∈ tbW, w.before args s = true) (hcode : Cond.code y bytes maxL none ∈ tbW) (hlink : Cond.methodLink own index y ∈ tbW) (hinst : Cond.instanceMethod y ∈ tbW) {C : String} (hini : Cond.initialized C ∈ tbW) (hy1 : y.name = "<init>") (hd : y.cls = C ∧ y.cls ≠ "java/lang/invoke/MethodHandle" ∧ y.cls ≠ "java/lang/invoke/VarHandle" ∧ (parseMethodDescriptor y.desc).map (fun d => d.parameters.length) = some n) {fr lo : Nat} (hR : fr + 1 ≤ R.frames ∧ 8 + (maxL + 11) + lo ≤ R.locals) : CallB R s args own index y bytes maxL none (.code y bytes maxL none :: tbW) { frames := fr, cells := mc, slots := ms, locals := lo } mc ms n ∧ y.name = "<init>" ∧ (Cond.instanceMethod y).before args s = true := by
  obtain ⟨hC, hd⟩ := hd
  refine cwI n hts (good_TBs fun w hw => ?_) rfl rfl rfl (by rw [hC]; exact hts _ hini) (hts _ hlink) (hts _ hinst) hy1 hd hR
  rcases List.mem_cons.mp hw with rfl | hw
  · exact hcode
  · exact hw
end MyCtor
def zF : Fn := fun _ => 0
def zB : Bk := (zF, zF, zF, zF, zF)
def zV : Vs := (0, 0, zF, zF, zF)
abbrev w_V_init : List Cond := .code y_V_init b_V_init 1 none :: tbW
abbrev rm_V_init : Room := { frames := 1, cells := 3, slots := 1536, locals := 12 }
set_option maxHeartbeats 8000000 in
set_option maxRecDepth 100000 in
theorem c_V_init (l : Launch) (D : va_G) (cI cZ : ClassId) (a0 sz : Nat) : Met l y_V_init w_V_init rm_V_init (PcN D vwCl (tyK cI cZ) [.ref a0] sz [(a0, .inr (1, [.int 0, .int 0, .null, .null, .null]))]) (va_Qv (fun (u : GV) => u.1.1 = a0 ∧ u.2 = (512, 512, 512)) (fun (u : GV) (t : State) => va_P D vwCl (wV cI cZ u zV) t.heap ∧ va_D (va_A [(a0, .inr (1, [.int 0, .int 0, .null, .null, .null]))] sz) (wV cI cZ u zV)) (va_A [(a0, .inr (1, [.int 0, .int 0, .null, .null, .null]))] sz)) 3 1536 (va_A [(a0, .inr (1, [.int 0, .int 0, .null, .null, .null]))] sz) := by
  refine Met.ofW (cc := b_V_init) (maxL := 1) (ret := none) (by decide) rfl ?_
  intro p e s m args below meth c s₁ B hml hv
  obtain ⟨rfl, hsz, hP, hK, hD0⟩ := hv
  have hx := B.exec
  have hb := B.bytes
  have hr := B.returns
  have htb : ∀ w ∈ tbW, w.before _ s = true := fun w h => atoms_spec (ws := w_V_init) B.pre w (List.mem_cons_of_mem _ h)
  have hown : s.vm.findClass R_V = some m.cls := findClass_of_methodNamed B.named
  have hlocks := B.notSynchronized
  have hin : meth.name = "<init>" := (name_of_methodNamed B.named B.method).1
  subst hsz
  have hD := hD0.self (sz := s.heap.size)
  generalize hAe : va_A [(a0, .inr (1, [.int 0, .int 0, .null, .null, .null]))] s.heap.size = A at hD ⊢
  have hA : ∀ q : Nat, s.heap.size ≤ q → A q := fun q h => by rw [← hAe]; exact Or.inr h
  have hS : va_S A s.heap s.heap [] := va_S.rf
  have hP : va_P D vwCl [(a0, .inr (1, [.int 0, .int 0, .null, .null, .null]))] s.heap := hP
  have hl := lv_entry ([.ref a0]) (n := 1) (Nat.le_of_ble_eq_true rfl)
  rw [lg_entry_eq]
  generalize (lg_sl ([.ref a0]) ++ List.replicate (1 - (lg_sl ([.ref a0])).length) Slot.unset).toArray = ls at hl ⊢
  have hl : lv_has ls 1 [(0, .ref a0)] := hl
  refine lv_aload_n hx hb d_V_init_0 rfl (lv_at hl 0 rfl) ?_
  refine W.objInit hx hb hown (htb _ k_V_3) (htb _ in_obj) (htb _ cd_obj) rfl (by rw [hml]; exact hl.1) rfl d_V_init_1 (Nat.le_of_ble_eq_true rfl) (Nat.le_of_ble_eq_true rfl) ?_
  refine W.eq (g2 := F0 m 4 ls []) rfl ?_
  refine lv_aload_n hx hb d_V_init_4 rfl (lv_at hl 0 rfl) ?_
  refine lv_sipush (v := 512) hx hb d_V_init_5 (by decide) ?_
  have h_c : 0 + 1 ≤ 3 := by omega
  have h_s : 0 + 512 ≤ 1536 := by omega
  refine newa_k (ty := .int) (a0 := (512, .inl (fun _ => 0))) hx hb (htb _ ac_int) rfl hK hP hD hS hA 0 rfl ra_int (fun _ => rfl) (by decide) (by decide) (by show 512 * 4 ≤ 536870912; omega) h_c h_s d_V_init_8 (fun q8 H hP hD hS => ?_)
  have hP : va_P D vwCl [(a0, .inr (1, [.int 0, .int 0, .null, .null, .null])), (q8, .inl (cI, 512, .inl (fun _ => 0)))] H := hP
  have hD : va_D A [(a0, .inr (1, [.int 0, .int 0, .null, .null, .null])), (q8, .inl (cI, 512, .inl (fun _ => 0)))] := hD
  refine va_putF (D := D) (ci := 1) (v := .ref q8) (ty := (.array .int)) (C := R_V) (T := T_V) (N := 5) hx hb htb i_V ty_V tyo_V nm_V hown hK hP hD hS 0 rfl rfl 2 (by decide) (htb _ k_V_11) (fun _ h9 => h9) rfl hin rfl (by decide +kernel) rfl rfl (Nat.le_of_ble_eq_true rfl) d_V_init_10 (fun H locs hP hD hS => ?_)
  have hP : va_P D vwCl [(a0, .inr (1, [.int 0, .int 0, .ref q8, .null, .null])), (q8, .inl (cI, 512, .inl (fun _ => 0)))] H := hP
  have hD : va_D A [(a0, .inr (1, [.int 0, .int 0, .ref q8, .null, .null])), (q8, .inl (cI, 512, .inl (fun _ => 0)))] := hD
  refine lv_aload_n hx hb d_V_init_13 rfl (lv_at hl 0 rfl) ?_
  refine lv_sipush (v := 512) hx hb d_V_init_14 (by decide) ?_
  have h_c : (0 + 1) + 1 ≤ 3 := by omega
  have h_s : (0 + 512) + 512 ≤ 1536 := by omega
  refine newa_k (ty := .int) (a0 := (512, .inl (fun _ => 0))) hx hb (htb _ ac_int) rfl hK hP hD hS hA 0 rfl ra_int (fun _ => rfl) (by decide) (by decide) (by show 512 * 4 ≤ 536870912; omega) h_c h_s d_V_init_17 (fun q17 H hP hD hS => ?_)
  have hP : va_P D vwCl [(a0, .inr (1, [.int 0, .int 0, .ref q8, .null, .null])), (q8, .inl (cI, 512, .inl (fun _ => 0))), (q17, .inl (cI, 512, .inl (fun _ => 0)))] H := hP
  have hD : va_D A [(a0, .inr (1, [.int 0, .int 0, .ref q8, .null, .null])), (q8, .inl (cI, 512, .inl (fun _ => 0))), (q17, .inl (cI, 512, .inl (fun _ => 0)))] := hD
  refine va_putF (D := D) (ci := 1) (v := .ref q17) (ty := (.array .int)) (C := R_V) (T := T_V) (N := 5) hx hb htb i_V ty_V tyo_V nm_V hown hK hP hD hS 0 rfl rfl 3 (by decide) (htb _ k_V_15) (fun _ h9 => h9) rfl hin rfl (by decide +kernel) rfl rfl (Nat.le_of_ble_eq_true rfl) d_V_init_19 (fun H locs hP hD hS => ?_)
  have hP : va_P D vwCl [(a0, .inr (1, [.int 0, .int 0, .ref q8, .ref q17, .null])), (q8, .inl (cI, 512, .inl (fun _ => 0))), (q17, .inl (cI, 512, .inl (fun _ => 0)))] H := hP
  have hD : va_D A [(a0, .inr (1, [.int 0, .int 0, .ref q8, .ref q17, .null])), (q8, .inl (cI, 512, .inl (fun _ => 0))), (q17, .inl (cI, 512, .inl (fun _ => 0)))] := hD
  refine lv_aload_n hx hb d_V_init_22 rfl (lv_at hl 0 rfl) ?_
  refine lv_sipush (v := 512) hx hb d_V_init_23 (by decide) ?_
  have h_c : ((0 + 1) + 1) + 1 ≤ 3 := by omega
  have h_s : ((0 + 512) + 512) + 512 ≤ 1536 := by omega
  refine newa_k (ty := .int) (a0 := (512, .inl (fun _ => 0))) hx hb (htb _ ac_int) rfl hK hP hD hS hA 0 rfl ra_int (fun _ => rfl) (by decide) (by decide) (by show 512 * 4 ≤ 536870912; omega) h_c h_s d_V_init_26 (fun q26 H hP hD hS => ?_)
  have hP : va_P D vwCl [(a0, .inr (1, [.int 0, .int 0, .ref q8, .ref q17, .null])), (q8, .inl (cI, 512, .inl (fun _ => 0))), (q17, .inl (cI, 512, .inl (fun _ => 0))), (q26, .inl (cI, 512, .inl (fun _ => 0)))] H := hP
  have hD : va_D A [(a0, .inr (1, [.int 0, .int 0, .ref q8, .ref q17, .null])), (q8, .inl (cI, 512, .inl (fun _ => 0))), (q17, .inl (cI, 512, .inl (fun _ => 0))), (q26, .inl (cI, 512, .inl (fun _ => 0)))] := hD
  refine va_putF (D := D) (ci := 1) (v := .ref q26) (ty := (.array .int)) (C := R_V) (T := T_V) (N := 5) hx hb htb i_V ty_V tyo_V nm_V hown hK hP hD hS 0 rfl rfl 4 (by decide) (htb _ k_V_18) (fun _ h9 => h9) rfl hin rfl (by decide +kernel) rfl rfl (Nat.le_of_ble_eq_true rfl) d_V_init_28 (fun H locs hP hD hS => ?_)
  have hP : va_P D vwCl [(a0, .inr (1, [.int 0, .int 0, .ref q8, .ref q17, .ref q26])), (q8, .inl (cI, 512, .inl (fun _ => 0))), (q17, .inl (cI, 512, .inl (fun _ => 0))), (q26, .inl (cI, 512, .inl (fun _ => 0)))] H := hP
  have hD : va_D A [(a0, .inr (1, [.int 0, .int 0, .ref q8, .ref q17, .ref q26])), (q8, .inl (cI, 512, .inl (fun _ => 0))), (q17, .inl (cI, 512, .inl (fun _ => 0))), (q26, .inl (cI, 512, .inl (fun _ => 0)))] := hD
  have hP9 : va_P D vwCl (wV cI cZ ((a0, q8, q17, q26), (512, 512, 512)) zV) H := hP
  have hD9 : va_D A (wV cI cZ ((a0, q8, q17, q26), (512, 512, 512)) zV) := hD
  exact W.vret hx hb hr (fun t ht hW => ⟨⟨((a0, q8, q17, q26), (512, 512, 512)), rfl, ⟨rfl, rfl⟩, by dsimp only; rw [ht]; exact ⟨hP9, hD9⟩⟩, hS.F ht⟩) hS.2.2 d_V_init_31
abbrev w_B_init : List Cond := .code y_B_init b_B_init 5 none :: tbW
abbrev rm_B_init : Room := { frames := 1, cells := 5, slots := 320, locals := 15 }
set_option maxHeartbeats 8000000 in
set_option maxRecDepth 100000 in
theorem c_B_init (l : Launch) (D : va_G) (cI cZ : ClassId) (a0 sz : Nat) (p0 p1 p2 : Int32) (np nn : Nat) (hnp : ((if (1 : Int32) < p0 then p0 else (1 : Int32)) * (if (1 : Int32) < p1 then p1 else (1 : Int32))) = nI np) (hnn : (((if (1 : Int32) < p0 then p0 else (1 : Int32)) * (if (1 : Int32) < p1 then p1 else (1 : Int32))) * (if (1 : Int32) < p2 then p2 else (1 : Int32))) = nI nn) (hb1 : np ≤ 64) (hb2 : nn ≤ 64) : Met l y_B_init w_B_init rm_B_init (PcN D vwCl (tyK cI cZ) [.ref a0, .int p0, .int p1, .int p2] sz [(a0, .inr (0, [.int 0, .int 0, .null, .null, .null, .null, .null]))]) (va_Qv (fun (u : GB) => u.1.1 = a0 ∧ u.2 = (((if (1 : Int32) < p1 then p1 else (1 : Int32)), (if (1 : Int32) < p2 then p2 else (1 : Int32))), (np, nn))) (fun (u : GB) (t : State) => va_P D vwCl (wB cI cZ u zB) t.heap ∧ va_D (va_A [(a0, .inr (0, [.int 0, .int 0, .null, .null, .null, .null, .null]))] sz) (wB cI cZ u zB)) (va_A [(a0, .inr (0, [.int 0, .int 0, .null, .null, .null, .null, .null]))] sz)) 5 320 (va_A [(a0, .inr (0, [.int 0, .int 0, .null, .null, .null, .null, .null]))] sz) := by
  refine Met.ofW (cc := b_B_init) (maxL := 5) (ret := none) (by decide) rfl ?_
  intro p e s m args below meth c s₁ B hml hv
  obtain ⟨rfl, hsz, hP, hK, hD0⟩ := hv
  have hx := B.exec
  have hb := B.bytes
  have hr := B.returns
  have htb : ∀ w ∈ tbW, w.before _ s = true := fun w h => atoms_spec (ws := w_B_init) B.pre w (List.mem_cons_of_mem _ h)
  have hown : s.vm.findClass R_B = some m.cls := findClass_of_methodNamed B.named
  have hlocks := B.notSynchronized
  have hin : meth.name = "<init>" := (name_of_methodNamed B.named B.method).1
  subst hsz
  have hD := hD0.self (sz := s.heap.size)
  generalize hAe : va_A [(a0, .inr (0, [.int 0, .int 0, .null, .null, .null, .null, .null]))] s.heap.size = A at hD ⊢
  have hA : ∀ q : Nat, s.heap.size ≤ q → A q := fun q h => by rw [← hAe]; exact Or.inr h
  have hS : va_S A s.heap s.heap [] := va_S.rf
  have hP : va_P D vwCl [(a0, .inr (0, [.int 0, .int 0, .null, .null, .null, .null, .null]))] s.heap := hP
  have hl := lv_entry ([.ref a0, .int p0, .int p1, .int p2]) (n := 5) (Nat.le_of_ble_eq_true rfl)
  rw [lg_entry_eq]
  generalize (lg_sl ([.ref a0, .int p0, .int p1, .int p2]) ++ List.replicate (5 - (lg_sl ([.ref a0, .int p0, .int p1, .int p2])).length) Slot.unset).toArray = ls at hl ⊢
  have hl : lv_has ls 5 [(0, .ref a0), (1, .int p0), (2, .int p1), (3, .int p2)] := hl
  refine lv_aload_n hx hb d_B_init_0 rfl (lv_at hl 0 rfl) ?_
  refine W.objInit hx hb hown (htb _ k_B_3) (htb _ in_obj) (htb _ cd_obj) rfl (by rw [hml]; exact hl.1) rfl d_B_init_1 (Nat.le_of_ble_eq_true rfl) (Nat.le_of_ble_eq_true rfl) ?_
  refine W.eq (g2 := F0 m 4 ls []) rfl ?_
  refine lv_aload_n hx hb d_B_init_4 rfl (lv_at hl 0 rfl) ?_
  refine lv_iconst (v := 1) hx hb d_B_init_5 (by decide) ?_
  refine lv_iload_n hx hb d_B_init_6 rfl (lv_at hl 2 rfl) ?_
  refine va_mmax hx hb (hml.trans hl.1.symm) hown (htb _ k_B_9) (htb _ st_Math_max) (htb _ ini_Math) (htb _ cd_Math_max) (Nat.le_of_ble_eq_true rfl) (Nat.le_of_ble_eq_true rfl) (by show _ ≤ 5; omega) (by show _ ≤ 320; omega) d_B_init_7 ?_
  refine va_putF (D := D) (ci := 0) (v := .int (if (1 : Int32) < p1 then p1 else (1 : Int32))) (ty := .int) (C := R_B) (T := T_B) (N := 7) hx hb htb i_B ty_B tyo_B nm_B hown hK hP hD hS 0 rfl rfl 0 (by decide) (htb _ k_B_15) (fun _ h9 => h9) rfl hin rfl (by decide +kernel) rfl rfl (Nat.le_of_ble_eq_true rfl) d_B_init_10 (fun H locs hP hD hS => ?_)
  have hP : va_P D vwCl [(a0, .inr (0, [.int (if (1 : Int32) < p1 then p1 else (1 : Int32)), .int 0, .null, .null, .null, .null, .null]))] H := hP
  have hD : va_D A [(a0, .inr (0, [.int (if (1 : Int32) < p1 then p1 else (1 : Int32)), .int 0, .null, .null, .null, .null, .null]))] := hD
  refine lv_aload_n hx hb d_B_init_13 rfl (lv_at hl 0 rfl) ?_
  refine lv_iconst (v := 1) hx hb d_B_init_14 (by decide) ?_
  refine lv_iload_n hx hb d_B_init_15 rfl (lv_at hl 3 rfl) ?_
  refine va_mmax hx hb (hml.trans hl.1.symm) hown (htb _ k_B_9) (htb _ st_Math_max) (htb _ ini_Math) (htb _ cd_Math_max) (Nat.le_of_ble_eq_true rfl) (Nat.le_of_ble_eq_true rfl) (by show _ ≤ 5; omega) (by show _ ≤ 320; omega) d_B_init_16 ?_
  refine va_putF (D := D) (ci := 0) (v := .int (if (1 : Int32) < p2 then p2 else (1 : Int32))) (ty := .int) (C := R_B) (T := T_B) (N := 7) hx hb htb i_B ty_B tyo_B nm_B hown hK hP hD hS 0 rfl rfl 1 (by decide) (htb _ k_B_21) (fun _ h9 => h9) rfl hin rfl (by decide +kernel) rfl rfl (Nat.le_of_ble_eq_true rfl) d_B_init_19 (fun H locs hP hD hS => ?_)
  have hP : va_P D vwCl [(a0, .inr (0, [.int (if (1 : Int32) < p1 then p1 else (1 : Int32)), .int (if (1 : Int32) < p2 then p2 else (1 : Int32)), .null, .null, .null, .null, .null]))] H := hP
  have hD : va_D A [(a0, .inr (0, [.int (if (1 : Int32) < p1 then p1 else (1 : Int32)), .int (if (1 : Int32) < p2 then p2 else (1 : Int32)), .null, .null, .null, .null, .null]))] := hD
  refine lv_iconst (v := 1) hx hb d_B_init_22 (by decide) ?_
  refine lv_iload_n hx hb d_B_init_23 rfl (lv_at hl 1 rfl) ?_
  refine va_mmax hx hb (hml.trans hl.1.symm) hown (htb _ k_B_9) (htb _ st_Math_max) (htb _ ini_Math) (htb _ cd_Math_max) (Nat.le_of_ble_eq_true rfl) (Nat.le_of_ble_eq_true rfl) (by show _ ≤ 5; omega) (by show _ ≤ 320; omega) d_B_init_24 ?_
  refine lv_aload_n hx hb d_B_init_27 rfl (lv_at hl 0 rfl) ?_
  refine va_get (D := D) (ci := 0) (v := .int (if (1 : Int32) < p1 then p1 else (1 : Int32))) (C := R_B) (T := T_B) (N := 7) hx hb htb i_B hown hK hP 0 rfl rfl 0 (by decide) (htb _ k_B_15) (fun _ h9 => h9) rfl d_B_init_28 ?_
  refine lv_imul hx hb d_B_init_31 ?_
  refine lv_istore (lv' := [(4, .int ((if (1 : Int32) < p0 then p0 else (1 : Int32)) * (if (1 : Int32) < p1 then p1 else (1 : Int32)))), (0, .ref a0), (1, .int p0), (2, .int p1), (3, .int p2)]) hx hb d_B_init_32 hl (by decide) rfl (fun ls hl => ?_)
  refine lv_aload_n hx hb d_B_init_34 rfl (lv_at hl 1 rfl) ?_
  refine lv_iload hx hb d_B_init_35 (lv_at hl 0 rfl) ?_
  have h_c : 0 + 1 ≤ 5 := by omega
  have h_s : 0 + np ≤ 320 := by omega
  refine newa_k (ty := .int) (a0 := (np, .inl (fun _ => 0))) hx hb (htb _ ac_int) rfl hK hP hD hS hA 0 rfl ra_int (fun _ => rfl) (by rw [hnp]; exact nI_pos (by omega)) (by rw [hnp]; exact nI_clamp (by omega)) (by show np * 4 ≤ 536870912; omega) h_c h_s d_B_init_37 (fun q37 H hP hD hS => ?_)
  have hP : va_P D vwCl [(a0, .inr (0, [.int (if (1 : Int32) < p1 then p1 else (1 : Int32)), .int (if (1 : Int32) < p2 then p2 else (1 : Int32)), .null, .null, .null, .null, .null])), (q37, .inl (cI, np, .inl (fun _ => 0)))] H := hP
  have hD : va_D A [(a0, .inr (0, [.int (if (1 : Int32) < p1 then p1 else (1 : Int32)), .int (if (1 : Int32) < p2 then p2 else (1 : Int32)), .null, .null, .null, .null, .null])), (q37, .inl (cI, np, .inl (fun _ => 0)))] := hD
  refine va_putF (D := D) (ci := 0) (v := .ref q37) (ty := (.array .int)) (C := R_B) (T := T_B) (N := 7) hx hb htb i_B ty_B tyo_B nm_B hown hK hP hD hS 0 rfl rfl 2 (by decide) (htb _ k_B_24) (fun _ h9 => h9) rfl hin rfl (by decide +kernel) rfl rfl (Nat.le_of_ble_eq_true rfl) d_B_init_39 (fun H locs hP hD hS => ?_)
  have hP : va_P D vwCl [(a0, .inr (0, [.int (if (1 : Int32) < p1 then p1 else (1 : Int32)), .int (if (1 : Int32) < p2 then p2 else (1 : Int32)), .ref q37, .null, .null, .null, .null])), (q37, .inl (cI, np, .inl (fun _ => 0)))] H := hP
  have hD : va_D A [(a0, .inr (0, [.int (if (1 : Int32) < p1 then p1 else (1 : Int32)), .int (if (1 : Int32) < p2 then p2 else (1 : Int32)), .ref q37, .null, .null, .null, .null])), (q37, .inl (cI, np, .inl (fun _ => 0)))] := hD
  refine lv_aload_n hx hb d_B_init_42 rfl (lv_at hl 1 rfl) ?_
  refine lv_iload hx hb d_B_init_43 (lv_at hl 0 rfl) ?_
  refine lv_aload_n hx hb d_B_init_45 rfl (lv_at hl 1 rfl) ?_
  refine va_get (D := D) (ci := 0) (v := .int (if (1 : Int32) < p2 then p2 else (1 : Int32))) (C := R_B) (T := T_B) (N := 7) hx hb htb i_B hown hK hP 0 rfl rfl 1 (by decide) (htb _ k_B_21) (fun _ h9 => h9) rfl d_B_init_46 ?_
  refine lv_imul hx hb d_B_init_49 ?_
  have h_c : (0 + 1) + 1 ≤ 5 := by omega
  have h_s : (0 + np) + nn ≤ 320 := by omega
  refine newa_k (ty := .int) (a0 := (nn, .inl (fun _ => 0))) hx hb (htb _ ac_int) rfl hK hP hD hS hA 0 rfl ra_int (fun _ => rfl) (by rw [hnn]; exact nI_pos (by omega)) (by rw [hnn]; exact nI_clamp (by omega)) (by show nn * 4 ≤ 536870912; omega) h_c h_s d_B_init_50 (fun q50 H hP hD hS => ?_)
  have hP : va_P D vwCl [(a0, .inr (0, [.int (if (1 : Int32) < p1 then p1 else (1 : Int32)), .int (if (1 : Int32) < p2 then p2 else (1 : Int32)), .ref q37, .null, .null, .null, .null])), (q37, .inl (cI, np, .inl (fun _ => 0))), (q50, .inl (cI, nn, .inl (fun _ => 0)))] H := hP
  have hD : va_D A [(a0, .inr (0, [.int (if (1 : Int32) < p1 then p1 else (1 : Int32)), .int (if (1 : Int32) < p2 then p2 else (1 : Int32)), .ref q37, .null, .null, .null, .null])), (q37, .inl (cI, np, .inl (fun _ => 0))), (q50, .inl (cI, nn, .inl (fun _ => 0)))] := hD
  refine va_putF (D := D) (ci := 0) (v := .ref q50) (ty := (.array .int)) (C := R_B) (T := T_B) (N := 7) hx hb htb i_B ty_B tyo_B nm_B hown hK hP hD hS 0 rfl rfl 3 (by decide) (htb _ k_B_28) (fun _ h9 => h9) rfl hin rfl (by decide +kernel) rfl rfl (Nat.le_of_ble_eq_true rfl) d_B_init_52 (fun H locs hP hD hS => ?_)
  have hP : va_P D vwCl [(a0, .inr (0, [.int (if (1 : Int32) < p1 then p1 else (1 : Int32)), .int (if (1 : Int32) < p2 then p2 else (1 : Int32)), .ref q37, .ref q50, .null, .null, .null])), (q37, .inl (cI, np, .inl (fun _ => 0))), (q50, .inl (cI, nn, .inl (fun _ => 0)))] H := hP
  have hD : va_D A [(a0, .inr (0, [.int (if (1 : Int32) < p1 then p1 else (1 : Int32)), .int (if (1 : Int32) < p2 then p2 else (1 : Int32)), .ref q37, .ref q50, .null, .null, .null])), (q37, .inl (cI, np, .inl (fun _ => 0))), (q50, .inl (cI, nn, .inl (fun _ => 0)))] := hD
  refine lv_aload_n hx hb d_B_init_55 rfl (lv_at hl 1 rfl) ?_
  refine lv_iload hx hb d_B_init_56 (lv_at hl 0 rfl) ?_
  refine lv_aload_n hx hb d_B_init_58 rfl (lv_at hl 1 rfl) ?_
  refine va_get (D := D) (ci := 0) (v := .int (if (1 : Int32) < p2 then p2 else (1 : Int32))) (C := R_B) (T := T_B) (N := 7) hx hb htb i_B hown hK hP 0 rfl rfl 1 (by decide) (htb _ k_B_21) (fun _ h9 => h9) rfl d_B_init_59 ?_
  refine lv_imul hx hb d_B_init_62 ?_
  have h_c : ((0 + 1) + 1) + 1 ≤ 5 := by omega
  have h_s : ((0 + np) + nn) + nn ≤ 320 := by omega
  refine newa_k (ty := .int) (a0 := (nn, .inl (fun _ => 0))) hx hb (htb _ ac_int) rfl hK hP hD hS hA 0 rfl ra_int (fun _ => rfl) (by rw [hnn]; exact nI_pos (by omega)) (by rw [hnn]; exact nI_clamp (by omega)) (by show nn * 4 ≤ 536870912; omega) h_c h_s d_B_init_63 (fun q63 H hP hD hS => ?_)
  have hP : va_P D vwCl [(a0, .inr (0, [.int (if (1 : Int32) < p1 then p1 else (1 : Int32)), .int (if (1 : Int32) < p2 then p2 else (1 : Int32)), .ref q37, .ref q50, .null, .null, .null])), (q37, .inl (cI, np, .inl (fun _ => 0))), (q50, .inl (cI, nn, .inl (fun _ => 0))), (q63, .inl (cI, nn, .inl (fun _ => 0)))] H := hP
  have hD : va_D A [(a0, .inr (0, [.int (if (1 : Int32) < p1 then p1 else (1 : Int32)), .int (if (1 : Int32) < p2 then p2 else (1 : Int32)), .ref q37, .ref q50, .null, .null, .null])), (q37, .inl (cI, np, .inl (fun _ => 0))), (q50, .inl (cI, nn, .inl (fun _ => 0))), (q63, .inl (cI, nn, .inl (fun _ => 0)))] := hD
  refine va_putF (D := D) (ci := 0) (v := .ref q63) (ty := (.array .int)) (C := R_B) (T := T_B) (N := 7) hx hb htb i_B ty_B tyo_B nm_B hown hK hP hD hS 0 rfl rfl 4 (by decide) (htb _ k_B_31) (fun _ h9 => h9) rfl hin rfl (by decide +kernel) rfl rfl (Nat.le_of_ble_eq_true rfl) d_B_init_65 (fun H locs hP hD hS => ?_)
  have hP : va_P D vwCl [(a0, .inr (0, [.int (if (1 : Int32) < p1 then p1 else (1 : Int32)), .int (if (1 : Int32) < p2 then p2 else (1 : Int32)), .ref q37, .ref q50, .ref q63, .null, .null])), (q37, .inl (cI, np, .inl (fun _ => 0))), (q50, .inl (cI, nn, .inl (fun _ => 0))), (q63, .inl (cI, nn, .inl (fun _ => 0)))] H := hP
  have hD : va_D A [(a0, .inr (0, [.int (if (1 : Int32) < p1 then p1 else (1 : Int32)), .int (if (1 : Int32) < p2 then p2 else (1 : Int32)), .ref q37, .ref q50, .ref q63, .null, .null])), (q37, .inl (cI, np, .inl (fun _ => 0))), (q50, .inl (cI, nn, .inl (fun _ => 0))), (q63, .inl (cI, nn, .inl (fun _ => 0)))] := hD
  refine lv_aload_n hx hb d_B_init_68 rfl (lv_at hl 1 rfl) ?_
  refine lv_iload hx hb d_B_init_69 (lv_at hl 0 rfl) ?_
  refine lv_aload_n hx hb d_B_init_71 rfl (lv_at hl 1 rfl) ?_
  refine va_get (D := D) (ci := 0) (v := .int (if (1 : Int32) < p2 then p2 else (1 : Int32))) (C := R_B) (T := T_B) (N := 7) hx hb htb i_B hown hK hP 0 rfl rfl 1 (by decide) (htb _ k_B_21) (fun _ h9 => h9) rfl d_B_init_72 ?_
  refine lv_imul hx hb d_B_init_75 ?_
  have h_c : (((0 + 1) + 1) + 1) + 1 ≤ 5 := by omega
  have h_s : (((0 + np) + nn) + nn) + nn ≤ 320 := by omega
  refine newa_k (ty := .int) (a0 := (nn, .inl (fun _ => 0))) hx hb (htb _ ac_int) rfl hK hP hD hS hA 0 rfl ra_int (fun _ => rfl) (by rw [hnn]; exact nI_pos (by omega)) (by rw [hnn]; exact nI_clamp (by omega)) (by show nn * 4 ≤ 536870912; omega) h_c h_s d_B_init_76 (fun q76 H hP hD hS => ?_)
  have hP : va_P D vwCl [(a0, .inr (0, [.int (if (1 : Int32) < p1 then p1 else (1 : Int32)), .int (if (1 : Int32) < p2 then p2 else (1 : Int32)), .ref q37, .ref q50, .ref q63, .null, .null])), (q37, .inl (cI, np, .inl (fun _ => 0))), (q50, .inl (cI, nn, .inl (fun _ => 0))), (q63, .inl (cI, nn, .inl (fun _ => 0))), (q76, .inl (cI, nn, .inl (fun _ => 0)))] H := hP
  have hD : va_D A [(a0, .inr (0, [.int (if (1 : Int32) < p1 then p1 else (1 : Int32)), .int (if (1 : Int32) < p2 then p2 else (1 : Int32)), .ref q37, .ref q50, .ref q63, .null, .null])), (q37, .inl (cI, np, .inl (fun _ => 0))), (q50, .inl (cI, nn, .inl (fun _ => 0))), (q63, .inl (cI, nn, .inl (fun _ => 0))), (q76, .inl (cI, nn, .inl (fun _ => 0)))] := hD
  refine va_putF (D := D) (ci := 0) (v := .ref q76) (ty := (.array .int)) (C := R_B) (T := T_B) (N := 7) hx hb htb i_B ty_B tyo_B nm_B hown hK hP hD hS 0 rfl rfl 5 (by decide) (htb _ k_B_34) (fun _ h9 => h9) rfl hin rfl (by decide +kernel) rfl rfl (Nat.le_of_ble_eq_true rfl) d_B_init_78 (fun H locs hP hD hS => ?_)
  have hP : va_P D vwCl [(a0, .inr (0, [.int (if (1 : Int32) < p1 then p1 else (1 : Int32)), .int (if (1 : Int32) < p2 then p2 else (1 : Int32)), .ref q37, .ref q50, .ref q63, .ref q76, .null])), (q37, .inl (cI, np, .inl (fun _ => 0))), (q50, .inl (cI, nn, .inl (fun _ => 0))), (q63, .inl (cI, nn, .inl (fun _ => 0))), (q76, .inl (cI, nn, .inl (fun _ => 0)))] H := hP
  have hD : va_D A [(a0, .inr (0, [.int (if (1 : Int32) < p1 then p1 else (1 : Int32)), .int (if (1 : Int32) < p2 then p2 else (1 : Int32)), .ref q37, .ref q50, .ref q63, .ref q76, .null])), (q37, .inl (cI, np, .inl (fun _ => 0))), (q50, .inl (cI, nn, .inl (fun _ => 0))), (q63, .inl (cI, nn, .inl (fun _ => 0))), (q76, .inl (cI, nn, .inl (fun _ => 0)))] := hD
  refine lv_aload_n hx hb d_B_init_81 rfl (lv_at hl 1 rfl) ?_
  refine lv_iload hx hb d_B_init_82 (lv_at hl 0 rfl) ?_
  refine lv_aload_n hx hb d_B_init_84 rfl (lv_at hl 1 rfl) ?_
  refine va_get (D := D) (ci := 0) (v := .int (if (1 : Int32) < p2 then p2 else (1 : Int32))) (C := R_B) (T := T_B) (N := 7) hx hb htb i_B hown hK hP 0 rfl rfl 1 (by decide) (htb _ k_B_21) (fun _ h9 => h9) rfl d_B_init_85 ?_
  refine lv_imul hx hb d_B_init_88 ?_
  have h_c : ((((0 + 1) + 1) + 1) + 1) + 1 ≤ 5 := by omega
  have h_s : ((((0 + np) + nn) + nn) + nn) + nn ≤ 320 := by omega
  refine newa_k (ty := .boolean) (a0 := (nn, .inl (fun _ => 0))) hx hb (htb _ ac_boolean) rfl hK hP hD hS hA 1 rfl ra_boolean (fun _ => rfl) (by rw [hnn]; exact nI_pos (by omega)) (by rw [hnn]; exact nI_clamp (by omega)) (by show nn * 1 ≤ 536870912; omega) h_c h_s d_B_init_89 (fun q89 H hP hD hS => ?_)
  have hP : va_P D vwCl [(a0, .inr (0, [.int (if (1 : Int32) < p1 then p1 else (1 : Int32)), .int (if (1 : Int32) < p2 then p2 else (1 : Int32)), .ref q37, .ref q50, .ref q63, .ref q76, .null])), (q37, .inl (cI, np, .inl (fun _ => 0))), (q50, .inl (cI, nn, .inl (fun _ => 0))), (q63, .inl (cI, nn, .inl (fun _ => 0))), (q76, .inl (cI, nn, .inl (fun _ => 0))), (q89, .inl (cZ, nn, .inl (fun _ => 0)))] H := hP
  have hD : va_D A [(a0, .inr (0, [.int (if (1 : Int32) < p1 then p1 else (1 : Int32)), .int (if (1 : Int32) < p2 then p2 else (1 : Int32)), .ref q37, .ref q50, .ref q63, .ref q76, .null])), (q37, .inl (cI, np, .inl (fun _ => 0))), (q50, .inl (cI, nn, .inl (fun _ => 0))), (q63, .inl (cI, nn, .inl (fun _ => 0))), (q76, .inl (cI, nn, .inl (fun _ => 0))), (q89, .inl (cZ, nn, .inl (fun _ => 0)))] := hD
  refine va_putF (D := D) (ci := 0) (v := .ref q89) (ty := (.array .boolean)) (C := R_B) (T := T_B) (N := 7) hx hb htb i_B ty_B tyo_B nm_B hown hK hP hD hS 0 rfl rfl 6 (by decide) (htb _ k_B_37) (fun _ h9 => h9) rfl hin rfl (by decide +kernel) rfl rfl (Nat.le_of_ble_eq_true rfl) d_B_init_91 (fun H locs hP hD hS => ?_)
  have hP : va_P D vwCl [(a0, .inr (0, [.int (if (1 : Int32) < p1 then p1 else (1 : Int32)), .int (if (1 : Int32) < p2 then p2 else (1 : Int32)), .ref q37, .ref q50, .ref q63, .ref q76, .ref q89])), (q37, .inl (cI, np, .inl (fun _ => 0))), (q50, .inl (cI, nn, .inl (fun _ => 0))), (q63, .inl (cI, nn, .inl (fun _ => 0))), (q76, .inl (cI, nn, .inl (fun _ => 0))), (q89, .inl (cZ, nn, .inl (fun _ => 0)))] H := hP
  have hD : va_D A [(a0, .inr (0, [.int (if (1 : Int32) < p1 then p1 else (1 : Int32)), .int (if (1 : Int32) < p2 then p2 else (1 : Int32)), .ref q37, .ref q50, .ref q63, .ref q76, .ref q89])), (q37, .inl (cI, np, .inl (fun _ => 0))), (q50, .inl (cI, nn, .inl (fun _ => 0))), (q63, .inl (cI, nn, .inl (fun _ => 0))), (q76, .inl (cI, nn, .inl (fun _ => 0))), (q89, .inl (cZ, nn, .inl (fun _ => 0)))] := hD
  have hP9 : va_P D vwCl (wB cI cZ ((a0, q37, q50, q63, q76, q89), ((if (1 : Int32) < p1 then p1 else (1 : Int32)), (if (1 : Int32) < p2 then p2 else (1 : Int32))), (np, nn)) zB) H := hP
  have hD9 : va_D A (wB cI cZ ((a0, q37, q50, q63, q76, q89), ((if (1 : Int32) < p1 then p1 else (1 : Int32)), (if (1 : Int32) < p2 then p2 else (1 : Int32))), (np, nn)) zB) := hD
  refine W.widen (k := 5) (n := 320) (by omega) (by omega) ?_
  exact W.vret hx hb hr (fun t ht hW => ⟨⟨((a0, q37, q50, q63, q76, q89), ((if (1 : Int32) < p1 then p1 else (1 : Int32)), (if (1 : Int32) < p2 then p2 else (1 : Int32))), (np, nn)), rfl, ⟨rfl, rfl⟩, by dsimp only; rw [ht]; exact ⟨hP9, hD9⟩⟩, hS.F ht⟩) hS.2.2 d_B_init_94
abbrev w_M_init : List Cond := .code y_M_init b_M_init 5 none :: tbW
abbrev rm_M_init : Room := { frames := 1, cells := 10, slots := 3117, locals := 22 }
set_option maxHeartbeats 8000000 in
set_option maxRecDepth 100000 in
theorem c_M_init (l : Launch) (D : va_G) (cI cZ : ClassId) (a0 sz : Nat) (p0 p1 p2 p3 : Int32) : Met l y_M_init w_M_init rm_M_init (PcN D vwCl (tyK cI cZ) [.ref a0, .int p0, .int p1, .int p2, .int p3] sz [(a0, .inr (3, [.int 0, .int 0, .int 0, .int 0, .int 0, .null, .null, .null, .null, .null, .null, .int 0, .int 0, .int 0, .null, .null, .null, .null, .int 0, .int 0]))]) (va_Qv (fun (u : GM) => u.1.1 = a0 ∧ u.2 = (((1 : Int32) + ((p0 - (1 : Int32)) &&& (3 : Int32))), (M_M_modulo p1 (3 : Int32)), ((1 : Int32) + ((p2 - (1 : Int32)) &&& (7 : Int32))), ((1 : Int32) + ((p3 - (1 : Int32)) &&& (15 : Int32))))) (fun (u : GM) (t : State) => va_P D vwCl (wM cI cZ u ((0, 1, 0, 0, 0, 0), (zF, zF, zF, zF, zF), (upd (upd (upd (upd zF 0 4) 1 4) 2 4) 3 4), (zF, zF, zF), zF)) t.heap ∧ va_D (va_A [(a0, .inr (3, [.int 0, .int 0, .int 0, .int 0, .int 0, .null, .null, .null, .null, .null, .null, .int 0, .int 0, .int 0, .null, .null, .null, .null, .int 0, .int 0]))] sz) (wM cI cZ u ((0, 1, 0, 0, 0, 0), (zF, zF, zF, zF, zF), (upd (upd (upd (upd zF 0 4) 1 4) 2 4) 3 4), (zF, zF, zF), zF))) (va_A [(a0, .inr (3, [.int 0, .int 0, .int 0, .int 0, .int 0, .null, .null, .null, .null, .null, .null, .int 0, .int 0, .int 0, .null, .null, .null, .null, .int 0, .int 0]))] sz)) 10 3117 (va_A [(a0, .inr (3, [.int 0, .int 0, .int 0, .int 0, .int 0, .null, .null, .null, .null, .null, .null, .int 0, .int 0, .int 0, .null, .null, .null, .null, .int 0, .int 0]))] sz) := by
  refine Met.ofW (cc := b_M_init) (maxL := 5) (ret := none) (by decide) rfl ?_
  intro p e s m args below meth c s₁ B hml hv
  obtain ⟨rfl, hsz, hP, hK, hD0⟩ := hv
  have hx := B.exec
  have hb := B.bytes
  have hr := B.returns
  have htb : ∀ w ∈ tbW, w.before _ s = true := fun w h => atoms_spec (ws := w_M_init) B.pre w (List.mem_cons_of_mem _ h)
  have hown : s.vm.findClass R_M = some m.cls := findClass_of_methodNamed B.named
  have hlocks := B.notSynchronized
  have hin : meth.name = "<init>" := (name_of_methodNamed B.named B.method).1
  subst hsz
  have hD := hD0.self (sz := s.heap.size)
  generalize hAe : va_A [(a0, .inr (3, [.int 0, .int 0, .int 0, .int 0, .int 0, .null, .null, .null, .null, .null, .null, .int 0, .int 0, .int 0, .null, .null, .null, .null, .int 0, .int 0]))] s.heap.size = A at hD ⊢
  have hA : ∀ q : Nat, s.heap.size ≤ q → A q := fun q h => by rw [← hAe]; exact Or.inr h
  have hS : va_S A s.heap s.heap [] := va_S.rf
  have hP : va_P D vwCl [(a0, .inr (3, [.int 0, .int 0, .int 0, .int 0, .int 0, .null, .null, .null, .null, .null, .null, .int 0, .int 0, .int 0, .null, .null, .null, .null, .int 0, .int 0]))] s.heap := hP
  have hl := lv_entry ([.ref a0, .int p0, .int p1, .int p2, .int p3]) (n := 5) (Nat.le_of_ble_eq_true rfl)
  rw [lg_entry_eq]
  generalize (lg_sl ([.ref a0, .int p0, .int p1, .int p2, .int p3]) ++ List.replicate (5 - (lg_sl ([.ref a0, .int p0, .int p1, .int p2, .int p3])).length) Slot.unset).toArray = ls at hl ⊢
  have hl : lv_has ls 5 [(0, .ref a0), (1, .int p0), (2, .int p1), (3, .int p2), (4, .int p3)] := hl
  refine lv_aload_n hx hb d_M_init_0 rfl (lv_at hl 0 rfl) ?_
  refine W.objInit hx hb hown (htb _ k_M_1) (htb _ in_obj) (htb _ cd_obj) rfl (by rw [hml]; exact hl.1) rfl d_M_init_1 (Nat.le_of_ble_eq_true rfl) (Nat.le_of_ble_eq_true rfl) ?_
  refine W.eq (g2 := F0 m 4 ls []) rfl ?_
  refine lv_aload_n hx hb d_M_init_4 rfl (lv_at hl 0 rfl) ?_
  refine lv_iconst (v := 5) hx hb d_M_init_5 (by decide) ?_
  have h_c : 0 + 1 ≤ 10 := by omega
  have h_s : 0 + 5 ≤ 3117 := by omega
  refine newa_k (ty := .int) (a0 := (5, .inl (fun _ => 0))) hx hb (htb _ ac_int) rfl hK hP hD hS hA 0 rfl ra_int (fun _ => rfl) (by decide) (by decide) (by show 5 * 4 ≤ 536870912; omega) h_c h_s d_M_init_6 (fun q6 H hP hD hS => ?_)
  have hP : va_P D vwCl [(a0, .inr (3, [.int 0, .int 0, .int 0, .int 0, .int 0, .null, .null, .null, .null, .null, .null, .int 0, .int 0, .int 0, .null, .null, .null, .null, .int 0, .int 0])), (q6, .inl (cI, 5, .inl (fun _ => 0)))] H := hP
  have hD : va_D A [(a0, .inr (3, [.int 0, .int 0, .int 0, .int 0, .int 0, .null, .null, .null, .null, .null, .null, .int 0, .int 0, .int 0, .null, .null, .null, .null, .int 0, .int 0])), (q6, .inl (cI, 5, .inl (fun _ => 0)))] := hD
  refine va_putF (D := D) (ci := 3) (v := .ref q6) (ty := (.array .int)) (C := R_M) (T := T_M) (N := 20) hx hb htb i_M ty_M tyo_M nm_M hown hK hP hD hS 0 rfl rfl 5 (by decide) (htb _ k_M_7) (fun _ h9 => h9) rfl hin rfl (by decide +kernel) rfl rfl (Nat.le_of_ble_eq_true rfl) d_M_init_8 (fun H locs hP hD hS => ?_)
  have hP : va_P D vwCl [(a0, .inr (3, [.int 0, .int 0, .int 0, .int 0, .int 0, .ref q6, .null, .null, .null, .null, .null, .int 0, .int 0, .int 0, .null, .null, .null, .null, .int 0, .int 0])), (q6, .inl (cI, 5, .inl (fun _ => 0)))] H := hP
  have hD : va_D A [(a0, .inr (3, [.int 0, .int 0, .int 0, .int 0, .int 0, .ref q6, .null, .null, .null, .null, .null, .int 0, .int 0, .int 0, .null, .null, .null, .null, .int 0, .int 0])), (q6, .inl (cI, 5, .inl (fun _ => 0)))] := hD
  refine lv_aload_n hx hb d_M_init_11 rfl (lv_at hl 0 rfl) ?_
  refine lv_sipush (v := 320) hx hb d_M_init_12 (by decide) ?_
  have h_c : (0 + 1) + 1 ≤ 10 := by omega
  have h_s : (0 + 5) + 320 ≤ 3117 := by omega
  refine newa_k (ty := .int) (a0 := (320, .inl (fun _ => 0))) hx hb (htb _ ac_int) rfl hK hP hD hS hA 0 rfl ra_int (fun _ => rfl) (by decide) (by decide) (by show 320 * 4 ≤ 536870912; omega) h_c h_s d_M_init_15 (fun q15 H hP hD hS => ?_)
  have hP : va_P D vwCl [(a0, .inr (3, [.int 0, .int 0, .int 0, .int 0, .int 0, .ref q6, .null, .null, .null, .null, .null, .int 0, .int 0, .int 0, .null, .null, .null, .null, .int 0, .int 0])), (q6, .inl (cI, 5, .inl (fun _ => 0))), (q15, .inl (cI, 320, .inl (fun _ => 0)))] H := hP
  have hD : va_D A [(a0, .inr (3, [.int 0, .int 0, .int 0, .int 0, .int 0, .ref q6, .null, .null, .null, .null, .null, .int 0, .int 0, .int 0, .null, .null, .null, .null, .int 0, .int 0])), (q6, .inl (cI, 5, .inl (fun _ => 0))), (q15, .inl (cI, 320, .inl (fun _ => 0)))] := hD
  refine va_putF (D := D) (ci := 3) (v := .ref q15) (ty := (.array .int)) (C := R_M) (T := T_M) (N := 20) hx hb htb i_M ty_M tyo_M nm_M hown hK hP hD hS 0 rfl rfl 6 (by decide) (htb _ k_M_13) (fun _ h9 => h9) rfl hin rfl (by decide +kernel) rfl rfl (Nat.le_of_ble_eq_true rfl) d_M_init_17 (fun H locs hP hD hS => ?_)
  have hP : va_P D vwCl [(a0, .inr (3, [.int 0, .int 0, .int 0, .int 0, .int 0, .ref q6, .ref q15, .null, .null, .null, .null, .int 0, .int 0, .int 0, .null, .null, .null, .null, .int 0, .int 0])), (q6, .inl (cI, 5, .inl (fun _ => 0))), (q15, .inl (cI, 320, .inl (fun _ => 0)))] H := hP
  have hD : va_D A [(a0, .inr (3, [.int 0, .int 0, .int 0, .int 0, .int 0, .ref q6, .ref q15, .null, .null, .null, .null, .int 0, .int 0, .int 0, .null, .null, .null, .null, .int 0, .int 0])), (q6, .inl (cI, 5, .inl (fun _ => 0))), (q15, .inl (cI, 320, .inl (fun _ => 0)))] := hD
  refine lv_aload_n hx hb d_M_init_20 rfl (lv_at hl 0 rfl) ?_
  refine lv_sipush (v := 320) hx hb d_M_init_21 (by decide) ?_
  have h_c : ((0 + 1) + 1) + 1 ≤ 10 := by omega
  have h_s : ((0 + 5) + 320) + 320 ≤ 3117 := by omega
  refine newa_k (ty := .boolean) (a0 := (320, .inl (fun _ => 0))) hx hb (htb _ ac_boolean) rfl hK hP hD hS hA 1 rfl ra_boolean (fun _ => rfl) (by decide) (by decide) (by show 320 * 1 ≤ 536870912; omega) h_c h_s d_M_init_24 (fun q24 H hP hD hS => ?_)
  have hP : va_P D vwCl [(a0, .inr (3, [.int 0, .int 0, .int 0, .int 0, .int 0, .ref q6, .ref q15, .null, .null, .null, .null, .int 0, .int 0, .int 0, .null, .null, .null, .null, .int 0, .int 0])), (q6, .inl (cI, 5, .inl (fun _ => 0))), (q15, .inl (cI, 320, .inl (fun _ => 0))), (q24, .inl (cZ, 320, .inl (fun _ => 0)))] H := hP
  have hD : va_D A [(a0, .inr (3, [.int 0, .int 0, .int 0, .int 0, .int 0, .ref q6, .ref q15, .null, .null, .null, .null, .int 0, .int 0, .int 0, .null, .null, .null, .null, .int 0, .int 0])), (q6, .inl (cI, 5, .inl (fun _ => 0))), (q15, .inl (cI, 320, .inl (fun _ => 0))), (q24, .inl (cZ, 320, .inl (fun _ => 0)))] := hD
  refine va_putF (D := D) (ci := 3) (v := .ref q24) (ty := (.array .boolean)) (C := R_M) (T := T_M) (N := 20) hx hb htb i_M ty_M tyo_M nm_M hown hK hP hD hS 0 rfl rfl 7 (by decide) (htb _ k_M_16) (fun _ h9 => h9) rfl hin rfl (by decide +kernel) rfl rfl (Nat.le_of_ble_eq_true rfl) d_M_init_26 (fun H locs hP hD hS => ?_)
  have hP : va_P D vwCl [(a0, .inr (3, [.int 0, .int 0, .int 0, .int 0, .int 0, .ref q6, .ref q15, .ref q24, .null, .null, .null, .int 0, .int 0, .int 0, .null, .null, .null, .null, .int 0, .int 0])), (q6, .inl (cI, 5, .inl (fun _ => 0))), (q15, .inl (cI, 320, .inl (fun _ => 0))), (q24, .inl (cZ, 320, .inl (fun _ => 0)))] H := hP
  have hD : va_D A [(a0, .inr (3, [.int 0, .int 0, .int 0, .int 0, .int 0, .ref q6, .ref q15, .ref q24, .null, .null, .null, .int 0, .int 0, .int 0, .null, .null, .null, .null, .int 0, .int 0])), (q6, .inl (cI, 5, .inl (fun _ => 0))), (q15, .inl (cI, 320, .inl (fun _ => 0))), (q24, .inl (cZ, 320, .inl (fun _ => 0)))] := hD
  refine lv_aload_n hx hb d_M_init_29 rfl (lv_at hl 0 rfl) ?_
  refine lv_sipush (v := 320) hx hb d_M_init_30 (by decide) ?_
  have h_c : (((0 + 1) + 1) + 1) + 1 ≤ 10 := by omega
  have h_s : (((0 + 5) + 320) + 320) + 320 ≤ 3117 := by omega
  refine newa_k (ty := .int) (a0 := (320, .inl (fun _ => 0))) hx hb (htb _ ac_int) rfl hK hP hD hS hA 0 rfl ra_int (fun _ => rfl) (by decide) (by decide) (by show 320 * 4 ≤ 536870912; omega) h_c h_s d_M_init_33 (fun q33 H hP hD hS => ?_)
  have hP : va_P D vwCl [(a0, .inr (3, [.int 0, .int 0, .int 0, .int 0, .int 0, .ref q6, .ref q15, .ref q24, .null, .null, .null, .int 0, .int 0, .int 0, .null, .null, .null, .null, .int 0, .int 0])), (q6, .inl (cI, 5, .inl (fun _ => 0))), (q15, .inl (cI, 320, .inl (fun _ => 0))), (q24, .inl (cZ, 320, .inl (fun _ => 0))), (q33, .inl (cI, 320, .inl (fun _ => 0)))] H := hP
  have hD : va_D A [(a0, .inr (3, [.int 0, .int 0, .int 0, .int 0, .int 0, .ref q6, .ref q15, .ref q24, .null, .null, .null, .int 0, .int 0, .int 0, .null, .null, .null, .null, .int 0, .int 0])), (q6, .inl (cI, 5, .inl (fun _ => 0))), (q15, .inl (cI, 320, .inl (fun _ => 0))), (q24, .inl (cZ, 320, .inl (fun _ => 0))), (q33, .inl (cI, 320, .inl (fun _ => 0)))] := hD
  refine va_putF (D := D) (ci := 3) (v := .ref q33) (ty := (.array .int)) (C := R_M) (T := T_M) (N := 20) hx hb htb i_M ty_M tyo_M nm_M hown hK hP hD hS 0 rfl rfl 8 (by decide) (htb _ k_M_20) (fun _ h9 => h9) rfl hin rfl (by decide +kernel) rfl rfl (Nat.le_of_ble_eq_true rfl) d_M_init_35 (fun H locs hP hD hS => ?_)
  have hP : va_P D vwCl [(a0, .inr (3, [.int 0, .int 0, .int 0, .int 0, .int 0, .ref q6, .ref q15, .ref q24, .ref q33, .null, .null, .int 0, .int 0, .int 0, .null, .null, .null, .null, .int 0, .int 0])), (q6, .inl (cI, 5, .inl (fun _ => 0))), (q15, .inl (cI, 320, .inl (fun _ => 0))), (q24, .inl (cZ, 320, .inl (fun _ => 0))), (q33, .inl (cI, 320, .inl (fun _ => 0)))] H := hP
  have hD : va_D A [(a0, .inr (3, [.int 0, .int 0, .int 0, .int 0, .int 0, .ref q6, .ref q15, .ref q24, .ref q33, .null, .null, .int 0, .int 0, .int 0, .null, .null, .null, .null, .int 0, .int 0])), (q6, .inl (cI, 5, .inl (fun _ => 0))), (q15, .inl (cI, 320, .inl (fun _ => 0))), (q24, .inl (cZ, 320, .inl (fun _ => 0))), (q33, .inl (cI, 320, .inl (fun _ => 0)))] := hD
  refine lv_aload_n hx hb d_M_init_38 rfl (lv_at hl 0 rfl) ?_
  refine lv_sipush (v := 320) hx hb d_M_init_39 (by decide) ?_
  have h_c : ((((0 + 1) + 1) + 1) + 1) + 1 ≤ 10 := by omega
  have h_s : ((((0 + 5) + 320) + 320) + 320) + 320 ≤ 3117 := by omega
  refine newa_k (ty := .int) (a0 := (320, .inl (fun _ => 0))) hx hb (htb _ ac_int) rfl hK hP hD hS hA 0 rfl ra_int (fun _ => rfl) (by decide) (by decide) (by show 320 * 4 ≤ 536870912; omega) h_c h_s d_M_init_42 (fun q42 H hP hD hS => ?_)
  have hP : va_P D vwCl [(a0, .inr (3, [.int 0, .int 0, .int 0, .int 0, .int 0, .ref q6, .ref q15, .ref q24, .ref q33, .null, .null, .int 0, .int 0, .int 0, .null, .null, .null, .null, .int 0, .int 0])), (q6, .inl (cI, 5, .inl (fun _ => 0))), (q15, .inl (cI, 320, .inl (fun _ => 0))), (q24, .inl (cZ, 320, .inl (fun _ => 0))), (q33, .inl (cI, 320, .inl (fun _ => 0))), (q42, .inl (cI, 320, .inl (fun _ => 0)))] H := hP
  have hD : va_D A [(a0, .inr (3, [.int 0, .int 0, .int 0, .int 0, .int 0, .ref q6, .ref q15, .ref q24, .ref q33, .null, .null, .int 0, .int 0, .int 0, .null, .null, .null, .null, .int 0, .int 0])), (q6, .inl (cI, 5, .inl (fun _ => 0))), (q15, .inl (cI, 320, .inl (fun _ => 0))), (q24, .inl (cZ, 320, .inl (fun _ => 0))), (q33, .inl (cI, 320, .inl (fun _ => 0))), (q42, .inl (cI, 320, .inl (fun _ => 0)))] := hD
  refine va_putF (D := D) (ci := 3) (v := .ref q42) (ty := (.array .int)) (C := R_M) (T := T_M) (N := 20) hx hb htb i_M ty_M tyo_M nm_M hown hK hP hD hS 0 rfl rfl 9 (by decide) (htb _ k_M_23) (fun _ h9 => h9) rfl hin rfl (by decide +kernel) rfl rfl (Nat.le_of_ble_eq_true rfl) d_M_init_44 (fun H locs hP hD hS => ?_)
  have hP : va_P D vwCl [(a0, .inr (3, [.int 0, .int 0, .int 0, .int 0, .int 0, .ref q6, .ref q15, .ref q24, .ref q33, .ref q42, .null, .int 0, .int 0, .int 0, .null, .null, .null, .null, .int 0, .int 0])), (q6, .inl (cI, 5, .inl (fun _ => 0))), (q15, .inl (cI, 320, .inl (fun _ => 0))), (q24, .inl (cZ, 320, .inl (fun _ => 0))), (q33, .inl (cI, 320, .inl (fun _ => 0))), (q42, .inl (cI, 320, .inl (fun _ => 0)))] H := hP
  have hD : va_D A [(a0, .inr (3, [.int 0, .int 0, .int 0, .int 0, .int 0, .ref q6, .ref q15, .ref q24, .ref q33, .ref q42, .null, .int 0, .int 0, .int 0, .null, .null, .null, .null, .int 0, .int 0])), (q6, .inl (cI, 5, .inl (fun _ => 0))), (q15, .inl (cI, 320, .inl (fun _ => 0))), (q24, .inl (cZ, 320, .inl (fun _ => 0))), (q33, .inl (cI, 320, .inl (fun _ => 0))), (q42, .inl (cI, 320, .inl (fun _ => 0)))] := hD
  refine lv_aload_n hx hb d_M_init_47 rfl (lv_at hl 0 rfl) ?_
  refine lv_iconst (v := 4) hx hb d_M_init_48 (by decide) ?_
  have h_c : (((((0 + 1) + 1) + 1) + 1) + 1) + 1 ≤ 10 := by omega
  have h_s : (((((0 + 5) + 320) + 320) + 320) + 320) + 4 ≤ 3117 := by omega
  refine newa_k (ty := .int) (a0 := (4, .inl (fun _ => 0))) hx hb (htb _ ac_int) rfl hK hP hD hS hA 0 rfl ra_int (fun _ => rfl) (by decide) (by decide) (by show 4 * 4 ≤ 536870912; omega) h_c h_s d_M_init_49 (fun q49 H hP hD hS => ?_)
  have hP : va_P D vwCl [(a0, .inr (3, [.int 0, .int 0, .int 0, .int 0, .int 0, .ref q6, .ref q15, .ref q24, .ref q33, .ref q42, .null, .int 0, .int 0, .int 0, .null, .null, .null, .null, .int 0, .int 0])), (q6, .inl (cI, 5, .inl (fun _ => 0))), (q15, .inl (cI, 320, .inl (fun _ => 0))), (q24, .inl (cZ, 320, .inl (fun _ => 0))), (q33, .inl (cI, 320, .inl (fun _ => 0))), (q42, .inl (cI, 320, .inl (fun _ => 0))), (q49, .inl (cI, 4, .inl (fun _ => 0)))] H := hP
  have hD : va_D A [(a0, .inr (3, [.int 0, .int 0, .int 0, .int 0, .int 0, .ref q6, .ref q15, .ref q24, .ref q33, .ref q42, .null, .int 0, .int 0, .int 0, .null, .null, .null, .null, .int 0, .int 0])), (q6, .inl (cI, 5, .inl (fun _ => 0))), (q15, .inl (cI, 320, .inl (fun _ => 0))), (q24, .inl (cZ, 320, .inl (fun _ => 0))), (q33, .inl (cI, 320, .inl (fun _ => 0))), (q42, .inl (cI, 320, .inl (fun _ => 0))), (q49, .inl (cI, 4, .inl (fun _ => 0)))] := hD
  refine lv_dup hx hb d_M_init_51 rfl ?_
  refine lv_iconst (v := 0) hx hb d_M_init_52 (by decide) ?_
  refine lv_iconst (v := 4) hx hb d_M_init_53 (by decide) ?_
  refine va_iast hx hb hK hP hD hS 6 0 rfl rfl (by unfold vp_in; decide) d_M_init_54 (fun H locs hP hD hS => ?_)
  have hP : va_P D vwCl [(a0, .inr (3, [.int 0, .int 0, .int 0, .int 0, .int 0, .ref q6, .ref q15, .ref q24, .ref q33, .ref q42, .null, .int 0, .int 0, .int 0, .null, .null, .null, .null, .int 0, .int 0])), (q6, .inl (cI, 5, .inl (fun _ => 0))), (q15, .inl (cI, 320, .inl (fun _ => 0))), (q24, .inl (cZ, 320, .inl (fun _ => 0))), (q33, .inl (cI, 320, .inl (fun _ => 0))), (q42, .inl (cI, 320, .inl (fun _ => 0))), (q49, .inl (cI, 4, .inl (upd (fun _ => 0) (0 : Int32).toNatClampNeg (4 : Int32))))] H := hP
  have hD : va_D A [(a0, .inr (3, [.int 0, .int 0, .int 0, .int 0, .int 0, .ref q6, .ref q15, .ref q24, .ref q33, .ref q42, .null, .int 0, .int 0, .int 0, .null, .null, .null, .null, .int 0, .int 0])), (q6, .inl (cI, 5, .inl (fun _ => 0))), (q15, .inl (cI, 320, .inl (fun _ => 0))), (q24, .inl (cZ, 320, .inl (fun _ => 0))), (q33, .inl (cI, 320, .inl (fun _ => 0))), (q42, .inl (cI, 320, .inl (fun _ => 0))), (q49, .inl (cI, 4, .inl (upd (fun _ => 0) (0 : Int32).toNatClampNeg (4 : Int32))))] := hD
  refine lv_dup hx hb d_M_init_55 rfl ?_
  refine lv_iconst (v := 1) hx hb d_M_init_56 (by decide) ?_
  refine lv_iconst (v := 4) hx hb d_M_init_57 (by decide) ?_
  refine va_iast hx hb hK hP hD hS 6 0 rfl rfl (by unfold vp_in; decide) d_M_init_58 (fun H locs hP hD hS => ?_)
  have hP : va_P D vwCl [(a0, .inr (3, [.int 0, .int 0, .int 0, .int 0, .int 0, .ref q6, .ref q15, .ref q24, .ref q33, .ref q42, .null, .int 0, .int 0, .int 0, .null, .null, .null, .null, .int 0, .int 0])), (q6, .inl (cI, 5, .inl (fun _ => 0))), (q15, .inl (cI, 320, .inl (fun _ => 0))), (q24, .inl (cZ, 320, .inl (fun _ => 0))), (q33, .inl (cI, 320, .inl (fun _ => 0))), (q42, .inl (cI, 320, .inl (fun _ => 0))), (q49, .inl (cI, 4, .inl (upd (upd (fun _ => 0) (0 : Int32).toNatClampNeg (4 : Int32)) (1 : Int32).toNatClampNeg (4 : Int32))))] H := hP
  have hD : va_D A [(a0, .inr (3, [.int 0, .int 0, .int 0, .int 0, .int 0, .ref q6, .ref q15, .ref q24, .ref q33, .ref q42, .null, .int 0, .int 0, .int 0, .null, .null, .null, .null, .int 0, .int 0])), (q6, .inl (cI, 5, .inl (fun _ => 0))), (q15, .inl (cI, 320, .inl (fun _ => 0))), (q24, .inl (cZ, 320, .inl (fun _ => 0))), (q33, .inl (cI, 320, .inl (fun _ => 0))), (q42, .inl (cI, 320, .inl (fun _ => 0))), (q49, .inl (cI, 4, .inl (upd (upd (fun _ => 0) (0 : Int32).toNatClampNeg (4 : Int32)) (1 : Int32).toNatClampNeg (4 : Int32))))] := hD
  refine lv_dup hx hb d_M_init_59 rfl ?_
  refine lv_iconst (v := 2) hx hb d_M_init_60 (by decide) ?_
  refine lv_iconst (v := 4) hx hb d_M_init_61 (by decide) ?_
  refine va_iast hx hb hK hP hD hS 6 0 rfl rfl (by unfold vp_in; decide) d_M_init_62 (fun H locs hP hD hS => ?_)
  have hP : va_P D vwCl [(a0, .inr (3, [.int 0, .int 0, .int 0, .int 0, .int 0, .ref q6, .ref q15, .ref q24, .ref q33, .ref q42, .null, .int 0, .int 0, .int 0, .null, .null, .null, .null, .int 0, .int 0])), (q6, .inl (cI, 5, .inl (fun _ => 0))), (q15, .inl (cI, 320, .inl (fun _ => 0))), (q24, .inl (cZ, 320, .inl (fun _ => 0))), (q33, .inl (cI, 320, .inl (fun _ => 0))), (q42, .inl (cI, 320, .inl (fun _ => 0))), (q49, .inl (cI, 4, .inl (upd (upd (upd (fun _ => 0) (0 : Int32).toNatClampNeg (4 : Int32)) (1 : Int32).toNatClampNeg (4 : Int32)) (2 : Int32).toNatClampNeg (4 : Int32))))] H := hP
  have hD : va_D A [(a0, .inr (3, [.int 0, .int 0, .int 0, .int 0, .int 0, .ref q6, .ref q15, .ref q24, .ref q33, .ref q42, .null, .int 0, .int 0, .int 0, .null, .null, .null, .null, .int 0, .int 0])), (q6, .inl (cI, 5, .inl (fun _ => 0))), (q15, .inl (cI, 320, .inl (fun _ => 0))), (q24, .inl (cZ, 320, .inl (fun _ => 0))), (q33, .inl (cI, 320, .inl (fun _ => 0))), (q42, .inl (cI, 320, .inl (fun _ => 0))), (q49, .inl (cI, 4, .inl (upd (upd (upd (fun _ => 0) (0 : Int32).toNatClampNeg (4 : Int32)) (1 : Int32).toNatClampNeg (4 : Int32)) (2 : Int32).toNatClampNeg (4 : Int32))))] := hD
  refine lv_dup hx hb d_M_init_63 rfl ?_
  refine lv_iconst (v := 3) hx hb d_M_init_64 (by decide) ?_
  refine lv_iconst (v := 4) hx hb d_M_init_65 (by decide) ?_
  refine va_iast hx hb hK hP hD hS 6 0 rfl rfl (by unfold vp_in; decide) d_M_init_66 (fun H locs hP hD hS => ?_)
  have hP : va_P D vwCl [(a0, .inr (3, [.int 0, .int 0, .int 0, .int 0, .int 0, .ref q6, .ref q15, .ref q24, .ref q33, .ref q42, .null, .int 0, .int 0, .int 0, .null, .null, .null, .null, .int 0, .int 0])), (q6, .inl (cI, 5, .inl (fun _ => 0))), (q15, .inl (cI, 320, .inl (fun _ => 0))), (q24, .inl (cZ, 320, .inl (fun _ => 0))), (q33, .inl (cI, 320, .inl (fun _ => 0))), (q42, .inl (cI, 320, .inl (fun _ => 0))), (q49, .inl (cI, 4, .inl (upd (upd (upd (upd (fun _ => 0) (0 : Int32).toNatClampNeg (4 : Int32)) (1 : Int32).toNatClampNeg (4 : Int32)) (2 : Int32).toNatClampNeg (4 : Int32)) (3 : Int32).toNatClampNeg (4 : Int32))))] H := hP
  have hD : va_D A [(a0, .inr (3, [.int 0, .int 0, .int 0, .int 0, .int 0, .ref q6, .ref q15, .ref q24, .ref q33, .ref q42, .null, .int 0, .int 0, .int 0, .null, .null, .null, .null, .int 0, .int 0])), (q6, .inl (cI, 5, .inl (fun _ => 0))), (q15, .inl (cI, 320, .inl (fun _ => 0))), (q24, .inl (cZ, 320, .inl (fun _ => 0))), (q33, .inl (cI, 320, .inl (fun _ => 0))), (q42, .inl (cI, 320, .inl (fun _ => 0))), (q49, .inl (cI, 4, .inl (upd (upd (upd (upd (fun _ => 0) (0 : Int32).toNatClampNeg (4 : Int32)) (1 : Int32).toNatClampNeg (4 : Int32)) (2 : Int32).toNatClampNeg (4 : Int32)) (3 : Int32).toNatClampNeg (4 : Int32))))] := hD
  refine va_putF (D := D) (ci := 3) (v := .ref q49) (ty := (.array .int)) (C := R_M) (T := T_M) (N := 20) hx hb htb i_M ty_M tyo_M nm_M hown hK hP hD hS 0 rfl rfl 10 (by decide) (htb _ k_M_26) (fun _ h9 => h9) rfl hin rfl (by decide +kernel) rfl rfl (Nat.le_of_ble_eq_true rfl) d_M_init_67 (fun H locs hP hD hS => ?_)
  have hP : va_P D vwCl [(a0, .inr (3, [.int 0, .int 0, .int 0, .int 0, .int 0, .ref q6, .ref q15, .ref q24, .ref q33, .ref q42, .ref q49, .int 0, .int 0, .int 0, .null, .null, .null, .null, .int 0, .int 0])), (q6, .inl (cI, 5, .inl (fun _ => 0))), (q15, .inl (cI, 320, .inl (fun _ => 0))), (q24, .inl (cZ, 320, .inl (fun _ => 0))), (q33, .inl (cI, 320, .inl (fun _ => 0))), (q42, .inl (cI, 320, .inl (fun _ => 0))), (q49, .inl (cI, 4, .inl (upd (upd (upd (upd (fun _ => 0) (0 : Int32).toNatClampNeg (4 : Int32)) (1 : Int32).toNatClampNeg (4 : Int32)) (2 : Int32).toNatClampNeg (4 : Int32)) (3 : Int32).toNatClampNeg (4 : Int32))))] H := hP
  have hD : va_D A [(a0, .inr (3, [.int 0, .int 0, .int 0, .int 0, .int 0, .ref q6, .ref q15, .ref q24, .ref q33, .ref q42, .ref q49, .int 0, .int 0, .int 0, .null, .null, .null, .null, .int 0, .int 0])), (q6, .inl (cI, 5, .inl (fun _ => 0))), (q15, .inl (cI, 320, .inl (fun _ => 0))), (q24, .inl (cZ, 320, .inl (fun _ => 0))), (q33, .inl (cI, 320, .inl (fun _ => 0))), (q42, .inl (cI, 320, .inl (fun _ => 0))), (q49, .inl (cI, 4, .inl (upd (upd (upd (upd (fun _ => 0) (0 : Int32).toNatClampNeg (4 : Int32)) (1 : Int32).toNatClampNeg (4 : Int32)) (2 : Int32).toNatClampNeg (4 : Int32)) (3 : Int32).toNatClampNeg (4 : Int32))))] := hD
  refine lv_aload_n hx hb d_M_init_70 rfl (lv_at hl 0 rfl) ?_
  refine lv_iconst (v := 1) hx hb d_M_init_71 (by decide) ?_
  refine va_put (D := D) (ci := 3) (v := .int (1 : Int32)) (ty := .int) (C := R_M) (T := T_M) (N := 20) hx hb htb i_M ty_M tyo_M nm_M hown hK hP hD hS 0 rfl rfl 11 (by decide) (htb _ k_M_29) (fun _ h9 => h9) rfl (by decide +kernel) rfl rfl (Nat.le_of_ble_eq_true rfl) d_M_init_72 (fun H locs hP hD hS => ?_)
  have hP : va_P D vwCl [(a0, .inr (3, [.int 0, .int 0, .int 0, .int 0, .int 0, .ref q6, .ref q15, .ref q24, .ref q33, .ref q42, .ref q49, .int (1 : Int32), .int 0, .int 0, .null, .null, .null, .null, .int 0, .int 0])), (q6, .inl (cI, 5, .inl (fun _ => 0))), (q15, .inl (cI, 320, .inl (fun _ => 0))), (q24, .inl (cZ, 320, .inl (fun _ => 0))), (q33, .inl (cI, 320, .inl (fun _ => 0))), (q42, .inl (cI, 320, .inl (fun _ => 0))), (q49, .inl (cI, 4, .inl (upd (upd (upd (upd (fun _ => 0) (0 : Int32).toNatClampNeg (4 : Int32)) (1 : Int32).toNatClampNeg (4 : Int32)) (2 : Int32).toNatClampNeg (4 : Int32)) (3 : Int32).toNatClampNeg (4 : Int32))))] H := hP
  have hD : va_D A [(a0, .inr (3, [.int 0, .int 0, .int 0, .int 0, .int 0, .ref q6, .ref q15, .ref q24, .ref q33, .ref q42, .ref q49, .int (1 : Int32), .int 0, .int 0, .null, .null, .null, .null, .int 0, .int 0])), (q6, .inl (cI, 5, .inl (fun _ => 0))), (q15, .inl (cI, 320, .inl (fun _ => 0))), (q24, .inl (cZ, 320, .inl (fun _ => 0))), (q33, .inl (cI, 320, .inl (fun _ => 0))), (q42, .inl (cI, 320, .inl (fun _ => 0))), (q49, .inl (cI, 4, .inl (upd (upd (upd (upd (fun _ => 0) (0 : Int32).toNatClampNeg (4 : Int32)) (1 : Int32).toNatClampNeg (4 : Int32)) (2 : Int32).toNatClampNeg (4 : Int32)) (3 : Int32).toNatClampNeg (4 : Int32))))] := hD
  refine lv_aload_n hx hb d_M_init_75 rfl (lv_at hl 0 rfl) ?_
  refine lv_sipush (v := 600) hx hb d_M_init_76 (by decide) ?_
  have h_c : ((((((0 + 1) + 1) + 1) + 1) + 1) + 1) + 1 ≤ 10 := by omega
  have h_s : ((((((0 + 5) + 320) + 320) + 320) + 320) + 4) + 600 ≤ 3117 := by omega
  refine newa_k (ty := .int) (a0 := (600, .inl (fun _ => 0))) hx hb (htb _ ac_int) rfl hK hP hD hS hA 0 rfl ra_int (fun _ => rfl) (by decide) (by decide) (by show 600 * 4 ≤ 536870912; omega) h_c h_s d_M_init_79 (fun q79 H hP hD hS => ?_)
  have hP : va_P D vwCl [(a0, .inr (3, [.int 0, .int 0, .int 0, .int 0, .int 0, .ref q6, .ref q15, .ref q24, .ref q33, .ref q42, .ref q49, .int (1 : Int32), .int 0, .int 0, .null, .null, .null, .null, .int 0, .int 0])), (q6, .inl (cI, 5, .inl (fun _ => 0))), (q15, .inl (cI, 320, .inl (fun _ => 0))), (q24, .inl (cZ, 320, .inl (fun _ => 0))), (q33, .inl (cI, 320, .inl (fun _ => 0))), (q42, .inl (cI, 320, .inl (fun _ => 0))), (q49, .inl (cI, 4, .inl (upd (upd (upd (upd (fun _ => 0) (0 : Int32).toNatClampNeg (4 : Int32)) (1 : Int32).toNatClampNeg (4 : Int32)) (2 : Int32).toNatClampNeg (4 : Int32)) (3 : Int32).toNatClampNeg (4 : Int32)))), (q79, .inl (cI, 600, .inl (fun _ => 0)))] H := hP
  have hD : va_D A [(a0, .inr (3, [.int 0, .int 0, .int 0, .int 0, .int 0, .ref q6, .ref q15, .ref q24, .ref q33, .ref q42, .ref q49, .int (1 : Int32), .int 0, .int 0, .null, .null, .null, .null, .int 0, .int 0])), (q6, .inl (cI, 5, .inl (fun _ => 0))), (q15, .inl (cI, 320, .inl (fun _ => 0))), (q24, .inl (cZ, 320, .inl (fun _ => 0))), (q33, .inl (cI, 320, .inl (fun _ => 0))), (q42, .inl (cI, 320, .inl (fun _ => 0))), (q49, .inl (cI, 4, .inl (upd (upd (upd (upd (fun _ => 0) (0 : Int32).toNatClampNeg (4 : Int32)) (1 : Int32).toNatClampNeg (4 : Int32)) (2 : Int32).toNatClampNeg (4 : Int32)) (3 : Int32).toNatClampNeg (4 : Int32)))), (q79, .inl (cI, 600, .inl (fun _ => 0)))] := hD
  refine va_putF (D := D) (ci := 3) (v := .ref q79) (ty := (.array .int)) (C := R_M) (T := T_M) (N := 20) hx hb htb i_M ty_M tyo_M nm_M hown hK hP hD hS 0 rfl rfl 14 (by decide) (htb _ k_M_33) (fun _ h9 => h9) rfl hin rfl (by decide +kernel) rfl rfl (Nat.le_of_ble_eq_true rfl) d_M_init_81 (fun H locs hP hD hS => ?_)
  have hP : va_P D vwCl [(a0, .inr (3, [.int 0, .int 0, .int 0, .int 0, .int 0, .ref q6, .ref q15, .ref q24, .ref q33, .ref q42, .ref q49, .int (1 : Int32), .int 0, .int 0, .ref q79, .null, .null, .null, .int 0, .int 0])), (q6, .inl (cI, 5, .inl (fun _ => 0))), (q15, .inl (cI, 320, .inl (fun _ => 0))), (q24, .inl (cZ, 320, .inl (fun _ => 0))), (q33, .inl (cI, 320, .inl (fun _ => 0))), (q42, .inl (cI, 320, .inl (fun _ => 0))), (q49, .inl (cI, 4, .inl (upd (upd (upd (upd (fun _ => 0) (0 : Int32).toNatClampNeg (4 : Int32)) (1 : Int32).toNatClampNeg (4 : Int32)) (2 : Int32).toNatClampNeg (4 : Int32)) (3 : Int32).toNatClampNeg (4 : Int32)))), (q79, .inl (cI, 600, .inl (fun _ => 0)))] H := hP
  have hD : va_D A [(a0, .inr (3, [.int 0, .int 0, .int 0, .int 0, .int 0, .ref q6, .ref q15, .ref q24, .ref q33, .ref q42, .ref q49, .int (1 : Int32), .int 0, .int 0, .ref q79, .null, .null, .null, .int 0, .int 0])), (q6, .inl (cI, 5, .inl (fun _ => 0))), (q15, .inl (cI, 320, .inl (fun _ => 0))), (q24, .inl (cZ, 320, .inl (fun _ => 0))), (q33, .inl (cI, 320, .inl (fun _ => 0))), (q42, .inl (cI, 320, .inl (fun _ => 0))), (q49, .inl (cI, 4, .inl (upd (upd (upd (upd (fun _ => 0) (0 : Int32).toNatClampNeg (4 : Int32)) (1 : Int32).toNatClampNeg (4 : Int32)) (2 : Int32).toNatClampNeg (4 : Int32)) (3 : Int32).toNatClampNeg (4 : Int32)))), (q79, .inl (cI, 600, .inl (fun _ => 0)))] := hD
  refine lv_aload_n hx hb d_M_init_84 rfl (lv_at hl 0 rfl) ?_
  refine lv_sipush (v := 600) hx hb d_M_init_85 (by decide) ?_
  have h_c : (((((((0 + 1) + 1) + 1) + 1) + 1) + 1) + 1) + 1 ≤ 10 := by omega
  have h_s : (((((((0 + 5) + 320) + 320) + 320) + 320) + 4) + 600) + 600 ≤ 3117 := by omega
  refine newa_k (ty := .int) (a0 := (600, .inl (fun _ => 0))) hx hb (htb _ ac_int) rfl hK hP hD hS hA 0 rfl ra_int (fun _ => rfl) (by decide) (by decide) (by show 600 * 4 ≤ 536870912; omega) h_c h_s d_M_init_88 (fun q88 H hP hD hS => ?_)
  have hP : va_P D vwCl [(a0, .inr (3, [.int 0, .int 0, .int 0, .int 0, .int 0, .ref q6, .ref q15, .ref q24, .ref q33, .ref q42, .ref q49, .int (1 : Int32), .int 0, .int 0, .ref q79, .null, .null, .null, .int 0, .int 0])), (q6, .inl (cI, 5, .inl (fun _ => 0))), (q15, .inl (cI, 320, .inl (fun _ => 0))), (q24, .inl (cZ, 320, .inl (fun _ => 0))), (q33, .inl (cI, 320, .inl (fun _ => 0))), (q42, .inl (cI, 320, .inl (fun _ => 0))), (q49, .inl (cI, 4, .inl (upd (upd (upd (upd (fun _ => 0) (0 : Int32).toNatClampNeg (4 : Int32)) (1 : Int32).toNatClampNeg (4 : Int32)) (2 : Int32).toNatClampNeg (4 : Int32)) (3 : Int32).toNatClampNeg (4 : Int32)))), (q79, .inl (cI, 600, .inl (fun _ => 0))), (q88, .inl (cI, 600, .inl (fun _ => 0)))] H := hP
  have hD : va_D A [(a0, .inr (3, [.int 0, .int 0, .int 0, .int 0, .int 0, .ref q6, .ref q15, .ref q24, .ref q33, .ref q42, .ref q49, .int (1 : Int32), .int 0, .int 0, .ref q79, .null, .null, .null, .int 0, .int 0])), (q6, .inl (cI, 5, .inl (fun _ => 0))), (q15, .inl (cI, 320, .inl (fun _ => 0))), (q24, .inl (cZ, 320, .inl (fun _ => 0))), (q33, .inl (cI, 320, .inl (fun _ => 0))), (q42, .inl (cI, 320, .inl (fun _ => 0))), (q49, .inl (cI, 4, .inl (upd (upd (upd (upd (fun _ => 0) (0 : Int32).toNatClampNeg (4 : Int32)) (1 : Int32).toNatClampNeg (4 : Int32)) (2 : Int32).toNatClampNeg (4 : Int32)) (3 : Int32).toNatClampNeg (4 : Int32)))), (q79, .inl (cI, 600, .inl (fun _ => 0))), (q88, .inl (cI, 600, .inl (fun _ => 0)))] := hD
  refine va_putF (D := D) (ci := 3) (v := .ref q88) (ty := (.array .int)) (C := R_M) (T := T_M) (N := 20) hx hb htb i_M ty_M tyo_M nm_M hown hK hP hD hS 0 rfl rfl 15 (by decide) (htb _ k_M_36) (fun _ h9 => h9) rfl hin rfl (by decide +kernel) rfl rfl (Nat.le_of_ble_eq_true rfl) d_M_init_90 (fun H locs hP hD hS => ?_)
  have hP : va_P D vwCl [(a0, .inr (3, [.int 0, .int 0, .int 0, .int 0, .int 0, .ref q6, .ref q15, .ref q24, .ref q33, .ref q42, .ref q49, .int (1 : Int32), .int 0, .int 0, .ref q79, .ref q88, .null, .null, .int 0, .int 0])), (q6, .inl (cI, 5, .inl (fun _ => 0))), (q15, .inl (cI, 320, .inl (fun _ => 0))), (q24, .inl (cZ, 320, .inl (fun _ => 0))), (q33, .inl (cI, 320, .inl (fun _ => 0))), (q42, .inl (cI, 320, .inl (fun _ => 0))), (q49, .inl (cI, 4, .inl (upd (upd (upd (upd (fun _ => 0) (0 : Int32).toNatClampNeg (4 : Int32)) (1 : Int32).toNatClampNeg (4 : Int32)) (2 : Int32).toNatClampNeg (4 : Int32)) (3 : Int32).toNatClampNeg (4 : Int32)))), (q79, .inl (cI, 600, .inl (fun _ => 0))), (q88, .inl (cI, 600, .inl (fun _ => 0)))] H := hP
  have hD : va_D A [(a0, .inr (3, [.int 0, .int 0, .int 0, .int 0, .int 0, .ref q6, .ref q15, .ref q24, .ref q33, .ref q42, .ref q49, .int (1 : Int32), .int 0, .int 0, .ref q79, .ref q88, .null, .null, .int 0, .int 0])), (q6, .inl (cI, 5, .inl (fun _ => 0))), (q15, .inl (cI, 320, .inl (fun _ => 0))), (q24, .inl (cZ, 320, .inl (fun _ => 0))), (q33, .inl (cI, 320, .inl (fun _ => 0))), (q42, .inl (cI, 320, .inl (fun _ => 0))), (q49, .inl (cI, 4, .inl (upd (upd (upd (upd (fun _ => 0) (0 : Int32).toNatClampNeg (4 : Int32)) (1 : Int32).toNatClampNeg (4 : Int32)) (2 : Int32).toNatClampNeg (4 : Int32)) (3 : Int32).toNatClampNeg (4 : Int32)))), (q79, .inl (cI, 600, .inl (fun _ => 0))), (q88, .inl (cI, 600, .inl (fun _ => 0)))] := hD
  refine lv_aload_n hx hb d_M_init_93 rfl (lv_at hl 0 rfl) ?_
  refine lv_sipush (v := 600) hx hb d_M_init_94 (by decide) ?_
  have h_c : ((((((((0 + 1) + 1) + 1) + 1) + 1) + 1) + 1) + 1) + 1 ≤ 10 := by omega
  have h_s : ((((((((0 + 5) + 320) + 320) + 320) + 320) + 4) + 600) + 600) + 600 ≤ 3117 := by omega
  refine newa_k (ty := .int) (a0 := (600, .inl (fun _ => 0))) hx hb (htb _ ac_int) rfl hK hP hD hS hA 0 rfl ra_int (fun _ => rfl) (by decide) (by decide) (by show 600 * 4 ≤ 536870912; omega) h_c h_s d_M_init_97 (fun q97 H hP hD hS => ?_)
  have hP : va_P D vwCl [(a0, .inr (3, [.int 0, .int 0, .int 0, .int 0, .int 0, .ref q6, .ref q15, .ref q24, .ref q33, .ref q42, .ref q49, .int (1 : Int32), .int 0, .int 0, .ref q79, .ref q88, .null, .null, .int 0, .int 0])), (q6, .inl (cI, 5, .inl (fun _ => 0))), (q15, .inl (cI, 320, .inl (fun _ => 0))), (q24, .inl (cZ, 320, .inl (fun _ => 0))), (q33, .inl (cI, 320, .inl (fun _ => 0))), (q42, .inl (cI, 320, .inl (fun _ => 0))), (q49, .inl (cI, 4, .inl (upd (upd (upd (upd (fun _ => 0) (0 : Int32).toNatClampNeg (4 : Int32)) (1 : Int32).toNatClampNeg (4 : Int32)) (2 : Int32).toNatClampNeg (4 : Int32)) (3 : Int32).toNatClampNeg (4 : Int32)))), (q79, .inl (cI, 600, .inl (fun _ => 0))), (q88, .inl (cI, 600, .inl (fun _ => 0))), (q97, .inl (cI, 600, .inl (fun _ => 0)))] H := hP
  have hD : va_D A [(a0, .inr (3, [.int 0, .int 0, .int 0, .int 0, .int 0, .ref q6, .ref q15, .ref q24, .ref q33, .ref q42, .ref q49, .int (1 : Int32), .int 0, .int 0, .ref q79, .ref q88, .null, .null, .int 0, .int 0])), (q6, .inl (cI, 5, .inl (fun _ => 0))), (q15, .inl (cI, 320, .inl (fun _ => 0))), (q24, .inl (cZ, 320, .inl (fun _ => 0))), (q33, .inl (cI, 320, .inl (fun _ => 0))), (q42, .inl (cI, 320, .inl (fun _ => 0))), (q49, .inl (cI, 4, .inl (upd (upd (upd (upd (fun _ => 0) (0 : Int32).toNatClampNeg (4 : Int32)) (1 : Int32).toNatClampNeg (4 : Int32)) (2 : Int32).toNatClampNeg (4 : Int32)) (3 : Int32).toNatClampNeg (4 : Int32)))), (q79, .inl (cI, 600, .inl (fun _ => 0))), (q88, .inl (cI, 600, .inl (fun _ => 0))), (q97, .inl (cI, 600, .inl (fun _ => 0)))] := hD
  refine va_putF (D := D) (ci := 3) (v := .ref q97) (ty := (.array .int)) (C := R_M) (T := T_M) (N := 20) hx hb htb i_M ty_M tyo_M nm_M hown hK hP hD hS 0 rfl rfl 16 (by decide) (htb _ k_M_39) (fun _ h9 => h9) rfl hin rfl (by decide +kernel) rfl rfl (Nat.le_of_ble_eq_true rfl) d_M_init_99 (fun H locs hP hD hS => ?_)
  have hP : va_P D vwCl [(a0, .inr (3, [.int 0, .int 0, .int 0, .int 0, .int 0, .ref q6, .ref q15, .ref q24, .ref q33, .ref q42, .ref q49, .int (1 : Int32), .int 0, .int 0, .ref q79, .ref q88, .ref q97, .null, .int 0, .int 0])), (q6, .inl (cI, 5, .inl (fun _ => 0))), (q15, .inl (cI, 320, .inl (fun _ => 0))), (q24, .inl (cZ, 320, .inl (fun _ => 0))), (q33, .inl (cI, 320, .inl (fun _ => 0))), (q42, .inl (cI, 320, .inl (fun _ => 0))), (q49, .inl (cI, 4, .inl (upd (upd (upd (upd (fun _ => 0) (0 : Int32).toNatClampNeg (4 : Int32)) (1 : Int32).toNatClampNeg (4 : Int32)) (2 : Int32).toNatClampNeg (4 : Int32)) (3 : Int32).toNatClampNeg (4 : Int32)))), (q79, .inl (cI, 600, .inl (fun _ => 0))), (q88, .inl (cI, 600, .inl (fun _ => 0))), (q97, .inl (cI, 600, .inl (fun _ => 0)))] H := hP
  have hD : va_D A [(a0, .inr (3, [.int 0, .int 0, .int 0, .int 0, .int 0, .ref q6, .ref q15, .ref q24, .ref q33, .ref q42, .ref q49, .int (1 : Int32), .int 0, .int 0, .ref q79, .ref q88, .ref q97, .null, .int 0, .int 0])), (q6, .inl (cI, 5, .inl (fun _ => 0))), (q15, .inl (cI, 320, .inl (fun _ => 0))), (q24, .inl (cZ, 320, .inl (fun _ => 0))), (q33, .inl (cI, 320, .inl (fun _ => 0))), (q42, .inl (cI, 320, .inl (fun _ => 0))), (q49, .inl (cI, 4, .inl (upd (upd (upd (upd (fun _ => 0) (0 : Int32).toNatClampNeg (4 : Int32)) (1 : Int32).toNatClampNeg (4 : Int32)) (2 : Int32).toNatClampNeg (4 : Int32)) (3 : Int32).toNatClampNeg (4 : Int32)))), (q79, .inl (cI, 600, .inl (fun _ => 0))), (q88, .inl (cI, 600, .inl (fun _ => 0))), (q97, .inl (cI, 600, .inl (fun _ => 0)))] := hD
  refine lv_aload_n hx hb d_M_init_102 rfl (lv_at hl 0 rfl) ?_
  refine lv_bipush (v := 28) hx hb d_M_init_103 (by decide) ?_
  have h_c : (((((((((0 + 1) + 1) + 1) + 1) + 1) + 1) + 1) + 1) + 1) + 1 ≤ 10 := by omega
  have h_s : (((((((((0 + 5) + 320) + 320) + 320) + 320) + 4) + 600) + 600) + 600) + 28 ≤ 3117 := by omega
  refine newa_k (ty := .int) (a0 := (28, .inl (fun _ => 0))) hx hb (htb _ ac_int) rfl hK hP hD hS hA 0 rfl ra_int (fun _ => rfl) (by decide) (by decide) (by show 28 * 4 ≤ 536870912; omega) h_c h_s d_M_init_105 (fun q105 H hP hD hS => ?_)
  have hP : va_P D vwCl [(a0, .inr (3, [.int 0, .int 0, .int 0, .int 0, .int 0, .ref q6, .ref q15, .ref q24, .ref q33, .ref q42, .ref q49, .int (1 : Int32), .int 0, .int 0, .ref q79, .ref q88, .ref q97, .null, .int 0, .int 0])), (q6, .inl (cI, 5, .inl (fun _ => 0))), (q15, .inl (cI, 320, .inl (fun _ => 0))), (q24, .inl (cZ, 320, .inl (fun _ => 0))), (q33, .inl (cI, 320, .inl (fun _ => 0))), (q42, .inl (cI, 320, .inl (fun _ => 0))), (q49, .inl (cI, 4, .inl (upd (upd (upd (upd (fun _ => 0) (0 : Int32).toNatClampNeg (4 : Int32)) (1 : Int32).toNatClampNeg (4 : Int32)) (2 : Int32).toNatClampNeg (4 : Int32)) (3 : Int32).toNatClampNeg (4 : Int32)))), (q79, .inl (cI, 600, .inl (fun _ => 0))), (q88, .inl (cI, 600, .inl (fun _ => 0))), (q97, .inl (cI, 600, .inl (fun _ => 0))), (q105, .inl (cI, 28, .inl (fun _ => 0)))] H := hP
  have hD : va_D A [(a0, .inr (3, [.int 0, .int 0, .int 0, .int 0, .int 0, .ref q6, .ref q15, .ref q24, .ref q33, .ref q42, .ref q49, .int (1 : Int32), .int 0, .int 0, .ref q79, .ref q88, .ref q97, .null, .int 0, .int 0])), (q6, .inl (cI, 5, .inl (fun _ => 0))), (q15, .inl (cI, 320, .inl (fun _ => 0))), (q24, .inl (cZ, 320, .inl (fun _ => 0))), (q33, .inl (cI, 320, .inl (fun _ => 0))), (q42, .inl (cI, 320, .inl (fun _ => 0))), (q49, .inl (cI, 4, .inl (upd (upd (upd (upd (fun _ => 0) (0 : Int32).toNatClampNeg (4 : Int32)) (1 : Int32).toNatClampNeg (4 : Int32)) (2 : Int32).toNatClampNeg (4 : Int32)) (3 : Int32).toNatClampNeg (4 : Int32)))), (q79, .inl (cI, 600, .inl (fun _ => 0))), (q88, .inl (cI, 600, .inl (fun _ => 0))), (q97, .inl (cI, 600, .inl (fun _ => 0))), (q105, .inl (cI, 28, .inl (fun _ => 0)))] := hD
  refine va_putF (D := D) (ci := 3) (v := .ref q105) (ty := (.array .int)) (C := R_M) (T := T_M) (N := 20) hx hb htb i_M ty_M tyo_M nm_M hown hK hP hD hS 0 rfl rfl 17 (by decide) (htb _ k_M_42) (fun _ h9 => h9) rfl hin rfl (by decide +kernel) rfl rfl (Nat.le_of_ble_eq_true rfl) d_M_init_107 (fun H locs hP hD hS => ?_)
  have hP : va_P D vwCl [(a0, .inr (3, [.int 0, .int 0, .int 0, .int 0, .int 0, .ref q6, .ref q15, .ref q24, .ref q33, .ref q42, .ref q49, .int (1 : Int32), .int 0, .int 0, .ref q79, .ref q88, .ref q97, .ref q105, .int 0, .int 0])), (q6, .inl (cI, 5, .inl (fun _ => 0))), (q15, .inl (cI, 320, .inl (fun _ => 0))), (q24, .inl (cZ, 320, .inl (fun _ => 0))), (q33, .inl (cI, 320, .inl (fun _ => 0))), (q42, .inl (cI, 320, .inl (fun _ => 0))), (q49, .inl (cI, 4, .inl (upd (upd (upd (upd (fun _ => 0) (0 : Int32).toNatClampNeg (4 : Int32)) (1 : Int32).toNatClampNeg (4 : Int32)) (2 : Int32).toNatClampNeg (4 : Int32)) (3 : Int32).toNatClampNeg (4 : Int32)))), (q79, .inl (cI, 600, .inl (fun _ => 0))), (q88, .inl (cI, 600, .inl (fun _ => 0))), (q97, .inl (cI, 600, .inl (fun _ => 0))), (q105, .inl (cI, 28, .inl (fun _ => 0)))] H := hP
  have hD : va_D A [(a0, .inr (3, [.int 0, .int 0, .int 0, .int 0, .int 0, .ref q6, .ref q15, .ref q24, .ref q33, .ref q42, .ref q49, .int (1 : Int32), .int 0, .int 0, .ref q79, .ref q88, .ref q97, .ref q105, .int 0, .int 0])), (q6, .inl (cI, 5, .inl (fun _ => 0))), (q15, .inl (cI, 320, .inl (fun _ => 0))), (q24, .inl (cZ, 320, .inl (fun _ => 0))), (q33, .inl (cI, 320, .inl (fun _ => 0))), (q42, .inl (cI, 320, .inl (fun _ => 0))), (q49, .inl (cI, 4, .inl (upd (upd (upd (upd (fun _ => 0) (0 : Int32).toNatClampNeg (4 : Int32)) (1 : Int32).toNatClampNeg (4 : Int32)) (2 : Int32).toNatClampNeg (4 : Int32)) (3 : Int32).toNatClampNeg (4 : Int32)))), (q79, .inl (cI, 600, .inl (fun _ => 0))), (q88, .inl (cI, 600, .inl (fun _ => 0))), (q97, .inl (cI, 600, .inl (fun _ => 0))), (q105, .inl (cI, 28, .inl (fun _ => 0)))] := hD
  refine lv_aload_n hx hb d_M_init_110 rfl (lv_at hl 0 rfl) ?_
  refine lv_iconst (v := 1) hx hb d_M_init_111 (by decide) ?_
  refine lv_iload_n hx hb d_M_init_112 rfl (lv_at hl 1 rfl) ?_
  refine lv_iconst (v := 1) hx hb d_M_init_113 (by decide) ?_
  refine lv_isub hx hb d_M_init_114 ?_
  refine lv_iconst (v := 3) hx hb d_M_init_115 (by decide) ?_
  refine lv_iand hx hb d_M_init_116 ?_
  refine lv_iadd hx hb d_M_init_117 ?_
  refine va_putF (D := D) (ci := 3) (v := .int ((1 : Int32) + ((p0 - (1 : Int32)) &&& (3 : Int32)))) (ty := .int) (C := R_M) (T := T_M) (N := 20) hx hb htb i_M ty_M tyo_M nm_M hown hK hP hD hS 0 rfl rfl 1 (by decide) (htb _ k_M_45) (fun _ h9 => h9) rfl hin rfl (by decide +kernel) rfl rfl (Nat.le_of_ble_eq_true rfl) d_M_init_118 (fun H locs hP hD hS => ?_)
  have hP : va_P D vwCl [(a0, .inr (3, [.int 0, .int ((1 : Int32) + ((p0 - (1 : Int32)) &&& (3 : Int32))), .int 0, .int 0, .int 0, .ref q6, .ref q15, .ref q24, .ref q33, .ref q42, .ref q49, .int (1 : Int32), .int 0, .int 0, .ref q79, .ref q88, .ref q97, .ref q105, .int 0, .int 0])), (q6, .inl (cI, 5, .inl (fun _ => 0))), (q15, .inl (cI, 320, .inl (fun _ => 0))), (q24, .inl (cZ, 320, .inl (fun _ => 0))), (q33, .inl (cI, 320, .inl (fun _ => 0))), (q42, .inl (cI, 320, .inl (fun _ => 0))), (q49, .inl (cI, 4, .inl (upd (upd (upd (upd (fun _ => 0) (0 : Int32).toNatClampNeg (4 : Int32)) (1 : Int32).toNatClampNeg (4 : Int32)) (2 : Int32).toNatClampNeg (4 : Int32)) (3 : Int32).toNatClampNeg (4 : Int32)))), (q79, .inl (cI, 600, .inl (fun _ => 0))), (q88, .inl (cI, 600, .inl (fun _ => 0))), (q97, .inl (cI, 600, .inl (fun _ => 0))), (q105, .inl (cI, 28, .inl (fun _ => 0)))] H := hP
  have hD : va_D A [(a0, .inr (3, [.int 0, .int ((1 : Int32) + ((p0 - (1 : Int32)) &&& (3 : Int32))), .int 0, .int 0, .int 0, .ref q6, .ref q15, .ref q24, .ref q33, .ref q42, .ref q49, .int (1 : Int32), .int 0, .int 0, .ref q79, .ref q88, .ref q97, .ref q105, .int 0, .int 0])), (q6, .inl (cI, 5, .inl (fun _ => 0))), (q15, .inl (cI, 320, .inl (fun _ => 0))), (q24, .inl (cZ, 320, .inl (fun _ => 0))), (q33, .inl (cI, 320, .inl (fun _ => 0))), (q42, .inl (cI, 320, .inl (fun _ => 0))), (q49, .inl (cI, 4, .inl (upd (upd (upd (upd (fun _ => 0) (0 : Int32).toNatClampNeg (4 : Int32)) (1 : Int32).toNatClampNeg (4 : Int32)) (2 : Int32).toNatClampNeg (4 : Int32)) (3 : Int32).toNatClampNeg (4 : Int32)))), (q79, .inl (cI, 600, .inl (fun _ => 0))), (q88, .inl (cI, 600, .inl (fun _ => 0))), (q97, .inl (cI, 600, .inl (fun _ => 0))), (q105, .inl (cI, 28, .inl (fun _ => 0)))] := hD
  refine lv_aload_n hx hb d_M_init_121 rfl (lv_at hl 0 rfl) ?_
  refine lv_iload_n hx hb d_M_init_122 rfl (lv_at hl 2 rfl) ?_
  refine lv_iconst (v := 3) hx hb d_M_init_123 (by decide) ?_
  refine cps (As := [.int p1, .int (3 : Int32)]) (rest := [.ref a0]) ⟨hx, hb, hml, hown, htb⟩ (c_M_modulo l p1 (3 : Int32) ⟨(by decide), (by decide), trivial⟩) (cws (n := 2) htb cd_M_modulo k_M_48 st_M_modulo ini_M hd_M_modulo ⟨Nat.le_of_ble_eq_true rfl, Nat.le_of_ble_eq_true rfl⟩) rfl hl.1 rfl (Nat.le_of_ble_eq_true rfl) d_M_init_124 ⟨(by show _ ≤ 10; omega), (by show _ ≤ 3117; omega)⟩ (fun r_124 hw_124 => ?_)
  subst hw_124
  refine va_putF (D := D) (ci := 3) (v := .int (M_M_modulo p1 (3 : Int32))) (ty := .int) (C := R_M) (T := T_M) (N := 20) hx hb htb i_M ty_M tyo_M nm_M hown hK hP hD hS 0 rfl rfl 2 (by decide) (htb _ k_M_52) (fun _ h9 => h9) rfl hin rfl (by decide +kernel) rfl rfl (Nat.le_of_ble_eq_true rfl) d_M_init_127 (fun H locs hP hD hS => ?_)
  have hP : va_P D vwCl [(a0, .inr (3, [.int 0, .int ((1 : Int32) + ((p0 - (1 : Int32)) &&& (3 : Int32))), .int (M_M_modulo p1 (3 : Int32)), .int 0, .int 0, .ref q6, .ref q15, .ref q24, .ref q33, .ref q42, .ref q49, .int (1 : Int32), .int 0, .int 0, .ref q79, .ref q88, .ref q97, .ref q105, .int 0, .int 0])), (q6, .inl (cI, 5, .inl (fun _ => 0))), (q15, .inl (cI, 320, .inl (fun _ => 0))), (q24, .inl (cZ, 320, .inl (fun _ => 0))), (q33, .inl (cI, 320, .inl (fun _ => 0))), (q42, .inl (cI, 320, .inl (fun _ => 0))), (q49, .inl (cI, 4, .inl (upd (upd (upd (upd (fun _ => 0) (0 : Int32).toNatClampNeg (4 : Int32)) (1 : Int32).toNatClampNeg (4 : Int32)) (2 : Int32).toNatClampNeg (4 : Int32)) (3 : Int32).toNatClampNeg (4 : Int32)))), (q79, .inl (cI, 600, .inl (fun _ => 0))), (q88, .inl (cI, 600, .inl (fun _ => 0))), (q97, .inl (cI, 600, .inl (fun _ => 0))), (q105, .inl (cI, 28, .inl (fun _ => 0)))] H := hP
  have hD : va_D A [(a0, .inr (3, [.int 0, .int ((1 : Int32) + ((p0 - (1 : Int32)) &&& (3 : Int32))), .int (M_M_modulo p1 (3 : Int32)), .int 0, .int 0, .ref q6, .ref q15, .ref q24, .ref q33, .ref q42, .ref q49, .int (1 : Int32), .int 0, .int 0, .ref q79, .ref q88, .ref q97, .ref q105, .int 0, .int 0])), (q6, .inl (cI, 5, .inl (fun _ => 0))), (q15, .inl (cI, 320, .inl (fun _ => 0))), (q24, .inl (cZ, 320, .inl (fun _ => 0))), (q33, .inl (cI, 320, .inl (fun _ => 0))), (q42, .inl (cI, 320, .inl (fun _ => 0))), (q49, .inl (cI, 4, .inl (upd (upd (upd (upd (fun _ => 0) (0 : Int32).toNatClampNeg (4 : Int32)) (1 : Int32).toNatClampNeg (4 : Int32)) (2 : Int32).toNatClampNeg (4 : Int32)) (3 : Int32).toNatClampNeg (4 : Int32)))), (q79, .inl (cI, 600, .inl (fun _ => 0))), (q88, .inl (cI, 600, .inl (fun _ => 0))), (q97, .inl (cI, 600, .inl (fun _ => 0))), (q105, .inl (cI, 28, .inl (fun _ => 0)))] := hD
  refine lv_aload_n hx hb d_M_init_130 rfl (lv_at hl 0 rfl) ?_
  refine lv_iconst (v := 1) hx hb d_M_init_131 (by decide) ?_
  refine lv_iload_n hx hb d_M_init_132 rfl (lv_at hl 3 rfl) ?_
  refine lv_iconst (v := 1) hx hb d_M_init_133 (by decide) ?_
  refine lv_isub hx hb d_M_init_134 ?_
  refine lv_bipush (v := 7) hx hb d_M_init_135 (by decide) ?_
  refine lv_iand hx hb d_M_init_137 ?_
  refine lv_iadd hx hb d_M_init_138 ?_
  refine va_putF (D := D) (ci := 3) (v := .int ((1 : Int32) + ((p2 - (1 : Int32)) &&& (7 : Int32)))) (ty := .int) (C := R_M) (T := T_M) (N := 20) hx hb htb i_M ty_M tyo_M nm_M hown hK hP hD hS 0 rfl rfl 3 (by decide) (htb _ k_M_55) (fun _ h9 => h9) rfl hin rfl (by decide +kernel) rfl rfl (Nat.le_of_ble_eq_true rfl) d_M_init_139 (fun H locs hP hD hS => ?_)
  have hP : va_P D vwCl [(a0, .inr (3, [.int 0, .int ((1 : Int32) + ((p0 - (1 : Int32)) &&& (3 : Int32))), .int (M_M_modulo p1 (3 : Int32)), .int ((1 : Int32) + ((p2 - (1 : Int32)) &&& (7 : Int32))), .int 0, .ref q6, .ref q15, .ref q24, .ref q33, .ref q42, .ref q49, .int (1 : Int32), .int 0, .int 0, .ref q79, .ref q88, .ref q97, .ref q105, .int 0, .int 0])), (q6, .inl (cI, 5, .inl (fun _ => 0))), (q15, .inl (cI, 320, .inl (fun _ => 0))), (q24, .inl (cZ, 320, .inl (fun _ => 0))), (q33, .inl (cI, 320, .inl (fun _ => 0))), (q42, .inl (cI, 320, .inl (fun _ => 0))), (q49, .inl (cI, 4, .inl (upd (upd (upd (upd (fun _ => 0) (0 : Int32).toNatClampNeg (4 : Int32)) (1 : Int32).toNatClampNeg (4 : Int32)) (2 : Int32).toNatClampNeg (4 : Int32)) (3 : Int32).toNatClampNeg (4 : Int32)))), (q79, .inl (cI, 600, .inl (fun _ => 0))), (q88, .inl (cI, 600, .inl (fun _ => 0))), (q97, .inl (cI, 600, .inl (fun _ => 0))), (q105, .inl (cI, 28, .inl (fun _ => 0)))] H := hP
  have hD : va_D A [(a0, .inr (3, [.int 0, .int ((1 : Int32) + ((p0 - (1 : Int32)) &&& (3 : Int32))), .int (M_M_modulo p1 (3 : Int32)), .int ((1 : Int32) + ((p2 - (1 : Int32)) &&& (7 : Int32))), .int 0, .ref q6, .ref q15, .ref q24, .ref q33, .ref q42, .ref q49, .int (1 : Int32), .int 0, .int 0, .ref q79, .ref q88, .ref q97, .ref q105, .int 0, .int 0])), (q6, .inl (cI, 5, .inl (fun _ => 0))), (q15, .inl (cI, 320, .inl (fun _ => 0))), (q24, .inl (cZ, 320, .inl (fun _ => 0))), (q33, .inl (cI, 320, .inl (fun _ => 0))), (q42, .inl (cI, 320, .inl (fun _ => 0))), (q49, .inl (cI, 4, .inl (upd (upd (upd (upd (fun _ => 0) (0 : Int32).toNatClampNeg (4 : Int32)) (1 : Int32).toNatClampNeg (4 : Int32)) (2 : Int32).toNatClampNeg (4 : Int32)) (3 : Int32).toNatClampNeg (4 : Int32)))), (q79, .inl (cI, 600, .inl (fun _ => 0))), (q88, .inl (cI, 600, .inl (fun _ => 0))), (q97, .inl (cI, 600, .inl (fun _ => 0))), (q105, .inl (cI, 28, .inl (fun _ => 0)))] := hD
  refine lv_aload_n hx hb d_M_init_142 rfl (lv_at hl 0 rfl) ?_
  refine lv_iconst (v := 1) hx hb d_M_init_143 (by decide) ?_
  refine lv_iload hx hb d_M_init_144 (lv_at hl 4 rfl) ?_
  refine lv_iconst (v := 1) hx hb d_M_init_146 (by decide) ?_
  refine lv_isub hx hb d_M_init_147 ?_
  refine lv_bipush (v := 15) hx hb d_M_init_148 (by decide) ?_
  refine lv_iand hx hb d_M_init_150 ?_
  refine lv_iadd hx hb d_M_init_151 ?_
  refine va_putF (D := D) (ci := 3) (v := .int ((1 : Int32) + ((p3 - (1 : Int32)) &&& (15 : Int32)))) (ty := .int) (C := R_M) (T := T_M) (N := 20) hx hb htb i_M ty_M tyo_M nm_M hown hK hP hD hS 0 rfl rfl 4 (by decide) (htb _ k_M_58) (fun _ h9 => h9) rfl hin rfl (by decide +kernel) rfl rfl (Nat.le_of_ble_eq_true rfl) d_M_init_152 (fun H locs hP hD hS => ?_)
  have hP : va_P D vwCl [(a0, .inr (3, [.int 0, .int ((1 : Int32) + ((p0 - (1 : Int32)) &&& (3 : Int32))), .int (M_M_modulo p1 (3 : Int32)), .int ((1 : Int32) + ((p2 - (1 : Int32)) &&& (7 : Int32))), .int ((1 : Int32) + ((p3 - (1 : Int32)) &&& (15 : Int32))), .ref q6, .ref q15, .ref q24, .ref q33, .ref q42, .ref q49, .int (1 : Int32), .int 0, .int 0, .ref q79, .ref q88, .ref q97, .ref q105, .int 0, .int 0])), (q6, .inl (cI, 5, .inl (fun _ => 0))), (q15, .inl (cI, 320, .inl (fun _ => 0))), (q24, .inl (cZ, 320, .inl (fun _ => 0))), (q33, .inl (cI, 320, .inl (fun _ => 0))), (q42, .inl (cI, 320, .inl (fun _ => 0))), (q49, .inl (cI, 4, .inl (upd (upd (upd (upd (fun _ => 0) (0 : Int32).toNatClampNeg (4 : Int32)) (1 : Int32).toNatClampNeg (4 : Int32)) (2 : Int32).toNatClampNeg (4 : Int32)) (3 : Int32).toNatClampNeg (4 : Int32)))), (q79, .inl (cI, 600, .inl (fun _ => 0))), (q88, .inl (cI, 600, .inl (fun _ => 0))), (q97, .inl (cI, 600, .inl (fun _ => 0))), (q105, .inl (cI, 28, .inl (fun _ => 0)))] H := hP
  have hD : va_D A [(a0, .inr (3, [.int 0, .int ((1 : Int32) + ((p0 - (1 : Int32)) &&& (3 : Int32))), .int (M_M_modulo p1 (3 : Int32)), .int ((1 : Int32) + ((p2 - (1 : Int32)) &&& (7 : Int32))), .int ((1 : Int32) + ((p3 - (1 : Int32)) &&& (15 : Int32))), .ref q6, .ref q15, .ref q24, .ref q33, .ref q42, .ref q49, .int (1 : Int32), .int 0, .int 0, .ref q79, .ref q88, .ref q97, .ref q105, .int 0, .int 0])), (q6, .inl (cI, 5, .inl (fun _ => 0))), (q15, .inl (cI, 320, .inl (fun _ => 0))), (q24, .inl (cZ, 320, .inl (fun _ => 0))), (q33, .inl (cI, 320, .inl (fun _ => 0))), (q42, .inl (cI, 320, .inl (fun _ => 0))), (q49, .inl (cI, 4, .inl (upd (upd (upd (upd (fun _ => 0) (0 : Int32).toNatClampNeg (4 : Int32)) (1 : Int32).toNatClampNeg (4 : Int32)) (2 : Int32).toNatClampNeg (4 : Int32)) (3 : Int32).toNatClampNeg (4 : Int32)))), (q79, .inl (cI, 600, .inl (fun _ => 0))), (q88, .inl (cI, 600, .inl (fun _ => 0))), (q97, .inl (cI, 600, .inl (fun _ => 0))), (q105, .inl (cI, 28, .inl (fun _ => 0)))] := hD
  have hP9 : va_P D vwCl (wM cI cZ ((a0, q6, q15, q24, q33, q42, q49, q79, q88, q97, q105), (((1 : Int32) + ((p0 - (1 : Int32)) &&& (3 : Int32))), (M_M_modulo p1 (3 : Int32)), ((1 : Int32) + ((p2 - (1 : Int32)) &&& (7 : Int32))), ((1 : Int32) + ((p3 - (1 : Int32)) &&& (15 : Int32))))) ((0, 1, 0, 0, 0, 0), (zF, zF, zF, zF, zF), (upd (upd (upd (upd zF 0 4) 1 4) 2 4) 3 4), (zF, zF, zF), zF)) H := hP
  have hD9 : va_D A (wM cI cZ ((a0, q6, q15, q24, q33, q42, q49, q79, q88, q97, q105), (((1 : Int32) + ((p0 - (1 : Int32)) &&& (3 : Int32))), (M_M_modulo p1 (3 : Int32)), ((1 : Int32) + ((p2 - (1 : Int32)) &&& (7 : Int32))), ((1 : Int32) + ((p3 - (1 : Int32)) &&& (15 : Int32))))) ((0, 1, 0, 0, 0, 0), (zF, zF, zF, zF, zF), (upd (upd (upd (upd zF 0 4) 1 4) 2 4) 3 4), (zF, zF, zF), zF)) := hD
  exact W.vret hx hb hr (fun t ht hW => ⟨⟨((a0, q6, q15, q24, q33, q42, q49, q79, q88, q97, q105), (((1 : Int32) + ((p0 - (1 : Int32)) &&& (3 : Int32))), (M_M_modulo p1 (3 : Int32)), ((1 : Int32) + ((p2 - (1 : Int32)) &&& (7 : Int32))), ((1 : Int32) + ((p3 - (1 : Int32)) &&& (15 : Int32))))), rfl, ⟨rfl, rfl⟩, by dsimp only; rw [ht]; exact ⟨hP9, hD9⟩⟩, hS.F ht⟩) hS.2.2 d_M_init_155
theorem max1 {a : Nat} (h : 1 ≤ a) (hb : a < 2 ^ 31) : (if (1 : Int32) < nI a then nI a else (1 : Int32)) = nI a := by
  have e1 : (1 : Int32) = nI 1 := by decide
  by_cases c : (1 : Int32) < nI a
  · rw [if_pos c]
  · rw [if_neg c]
    rw [e1] at c
    have : ¬ 1 < a := fun q => c (nI_lt q hb)
    rw [e1, show a = 1 by omega]

abbrev w_C_init : List Cond := .code y_C_init b_C_init 6 none :: tbW
abbrev rm_C_init : Room := { frames := 2, cells := 18, slots := 2227, locals := 39 }
set_option maxHeartbeats 8000000 in
set_option maxRecDepth 100000 in
theorem c_C_init (l : Launch) (D : va_G) (cI cZ : ClassId) (a0 sz : Nat) (p0 p1 p2 p3 : Int32) (c1 n1 n3 : Nat) (hc : ((1 : Int32) + (M_Math_floorMod (p0 - (1 : Int32)) (4 : Int32))) = nI c1) (hn : ((1 : Int32) + (M_Math_floorMod (p2 - (1 : Int32)) (8 : Int32))) = nI n1) (hm : ((1 : Int32) + (M_Math_floorMod (p3 - (1 : Int32)) (16 : Int32))) = nI n3) (hc1 : 1 ≤ c1) (hc2 : c1 ≤ 4) (hn1 : 1 ≤ n1) (hn2 : n1 ≤ 8) (hm1 : 1 ≤ n3) (hm2 : n3 ≤ 16) : Met l y_C_init w_C_init rm_C_init (PcN D vwCl (tyK cI cZ) [.ref a0, .int p0, .int p1, .int p2, .int p3] sz [(a0, .inr (2, [.int 0, .int 0, .null, .null, .null, .null, .null, .int 0, .int 0, .int 0]))]) (va_Qv (fun (u : GC × Fn) => u.1.1.1 = a0 ∧ u.1.2.1 = (((1 : Int32) + (M_Math_floorMod (p0 - (1 : Int32)) (4 : Int32))), (M_Math_floorMod p1 (3 : Int32))) ∧ u.1.2.2.1 = (c1, c1 * 7) ∧ u.1.2.2.2.1.2 = (((if (1 : Int32) < ((1 : Int32) + (M_Math_floorMod (p2 - (1 : Int32)) (8 : Int32))) then ((1 : Int32) + (M_Math_floorMod (p2 - (1 : Int32)) (8 : Int32))) else (1 : Int32)), (if (1 : Int32) < (2 : Int32) then (2 : Int32) else (1 : Int32))), (c1 * n1, c1 * n1 * 2)) ∧ u.1.2.2.2.2.1.2 = (((if (1 : Int32) < ((1 : Int32) + (M_Math_floorMod (p3 - (1 : Int32)) (16 : Int32))) then ((1 : Int32) + (M_Math_floorMod (p3 - (1 : Int32)) (16 : Int32))) else (1 : Int32)), (if (1 : Int32) < (4 : Int32) then (4 : Int32) else (1 : Int32))), (n3, n3 * 4)) ∧ u.1.2.2.2.2.2.2 = (512, 512, 512) ∧ ∀ j : Nat, j < c1 → u.2 j = 4) (fun (u : GC × Fn) (t : State) => va_P D vwCl (wC cI cZ u.1 ((0, -1, 0), zB, zB, zV, u.2, zF)) t.heap ∧ va_D (va_A [(a0, .inr (2, [.int 0, .int 0, .null, .null, .null, .null, .null, .int 0, .int 0, .int 0]))] sz) (wC cI cZ u.1 ((0, -1, 0), zB, zB, zV, u.2, zF))) (va_A [(a0, .inr (2, [.int 0, .int 0, .null, .null, .null, .null, .null, .int 0, .int 0, .int 0]))] sz)) 18 2227 (va_A [(a0, .inr (2, [.int 0, .int 0, .null, .null, .null, .null, .null, .int 0, .int 0, .int 0]))] sz) := by
  refine Met.ofW (cc := b_C_init) (maxL := 6) (ret := none) (by decide) rfl ?_
  intro p e s m args below meth c s₁ B hml hv
  obtain ⟨rfl, hsz, hP, hK, hD0⟩ := hv
  have hx := B.exec
  have hb := B.bytes
  have hr := B.returns
  have htb : ∀ w ∈ tbW, w.before _ s = true := fun w h => atoms_spec (ws := w_C_init) B.pre w (List.mem_cons_of_mem _ h)
  have hown : s.vm.findClass R_C = some m.cls := findClass_of_methodNamed B.named
  have hlocks := B.notSynchronized
  have hin : meth.name = "<init>" := (name_of_methodNamed B.named B.method).1
  subst hsz
  have hD := hD0.self (sz := s.heap.size)
  generalize hAe : va_A [(a0, .inr (2, [.int 0, .int 0, .null, .null, .null, .null, .null, .int 0, .int 0, .int 0]))] s.heap.size = A at hD ⊢
  have hA : ∀ q : Nat, s.heap.size ≤ q → A q := fun q h => by rw [← hAe]; exact Or.inr h
  have hS : va_S A s.heap s.heap [] := va_S.rf
  have hP : va_P D vwCl [(a0, .inr (2, [.int 0, .int 0, .null, .null, .null, .null, .null, .int 0, .int 0, .int 0]))] s.heap := hP
  have hl := lv_entry ([.ref a0, .int p0, .int p1, .int p2, .int p3]) (n := 6) (Nat.le_of_ble_eq_true rfl)
  rw [lg_entry_eq]
  generalize (lg_sl ([.ref a0, .int p0, .int p1, .int p2, .int p3]) ++ List.replicate (6 - (lg_sl ([.ref a0, .int p0, .int p1, .int p2, .int p3])).length) Slot.unset).toArray = ls at hl ⊢
  have hl : lv_has ls 6 [(0, .ref a0), (1, .int p0), (2, .int p1), (3, .int p2), (4, .int p3)] := hl
  have hc7 : (((1 : Int32) + (M_Math_floorMod (p0 - (1 : Int32)) (4 : Int32))) * (7 : Int32)) = nI (c1 * 7) := by rw [hc, show (7 : Int32) = nI 7 by decide, pk_mul]
  have e2 : (2 : Int32) = nI 2 := by decide
  have e4 : (4 : Int32) = nI 4 := by decide
  have e1 : (1 : Int32) = nI 1 := by decide
  have hb1a : ((if (1 : Int32) < ((1 : Int32) + (M_Math_floorMod (p0 - (1 : Int32)) (4 : Int32))) then ((1 : Int32) + (M_Math_floorMod (p0 - (1 : Int32)) (4 : Int32))) else (1 : Int32)) * (if (1 : Int32) < ((1 : Int32) + (M_Math_floorMod (p2 - (1 : Int32)) (8 : Int32))) then ((1 : Int32) + (M_Math_floorMod (p2 - (1 : Int32)) (8 : Int32))) else (1 : Int32))) = nI (c1 * n1) := by rw [hc, hn, max1 hc1 (by omega), max1 hn1 (by omega), pk_mul]
  have hb1b : (((if (1 : Int32) < ((1 : Int32) + (M_Math_floorMod (p0 - (1 : Int32)) (4 : Int32))) then ((1 : Int32) + (M_Math_floorMod (p0 - (1 : Int32)) (4 : Int32))) else (1 : Int32)) * (if (1 : Int32) < ((1 : Int32) + (M_Math_floorMod (p2 - (1 : Int32)) (8 : Int32))) then ((1 : Int32) + (M_Math_floorMod (p2 - (1 : Int32)) (8 : Int32))) else (1 : Int32))) * (if (1 : Int32) < (2 : Int32) then (2 : Int32) else (1 : Int32))) = nI (c1 * n1 * 2) := by rw [hb1a, show (if (1 : Int32) < (2 : Int32) then (2 : Int32) else (1 : Int32)) = nI 2 by decide, pk_mul]
  have hb2a : ((if (1 : Int32) < (1 : Int32) then (1 : Int32) else (1 : Int32)) * (if (1 : Int32) < ((1 : Int32) + (M_Math_floorMod (p3 - (1 : Int32)) (16 : Int32))) then ((1 : Int32) + (M_Math_floorMod (p3 - (1 : Int32)) (16 : Int32))) else (1 : Int32))) = nI n3 := by rw [hm, max1 hm1 (by omega), show (if (1 : Int32) < (1 : Int32) then (1 : Int32) else (1 : Int32)) = nI 1 by decide, pk_mul, Nat.one_mul]
  have hb2b : (((if (1 : Int32) < (1 : Int32) then (1 : Int32) else (1 : Int32)) * (if (1 : Int32) < ((1 : Int32) + (M_Math_floorMod (p3 - (1 : Int32)) (16 : Int32))) then ((1 : Int32) + (M_Math_floorMod (p3 - (1 : Int32)) (16 : Int32))) else (1 : Int32))) * (if (1 : Int32) < (4 : Int32) then (4 : Int32) else (1 : Int32))) = nI (n3 * 4) := by rw [hb2a, show (if (1 : Int32) < (4 : Int32) then (4 : Int32) else (1 : Int32)) = nI 4 by decide, pk_mul]
  refine lv_aload_n hx hb d_C_init_0 rfl (lv_at hl 0 rfl) ?_
  refine W.objInit hx hb hown (htb _ k_C_3) (htb _ in_obj) (htb _ cd_obj) rfl (by rw [hml]; exact hl.1) rfl d_C_init_1 (Nat.le_of_ble_eq_true rfl) (Nat.le_of_ble_eq_true rfl) ?_
  refine W.eq (g2 := F0 m 4 ls []) rfl ?_
  refine lv_aload_n hx hb d_C_init_4 rfl (lv_at hl 0 rfl) ?_
  refine lv_iconst (v := 1) hx hb d_C_init_5 (by decide) ?_
  refine lv_iload_n hx hb d_C_init_6 rfl (lv_at hl 1 rfl) ?_
  refine lv_iconst (v := 1) hx hb d_C_init_7 (by decide) ?_
  refine lv_isub hx hb d_C_init_8 ?_
  refine lv_iconst (v := 4) hx hb d_C_init_9 (by decide) ?_
  refine cps (As := [.int (p0 - (1 : Int32)), .int (4 : Int32)]) (rest := [.int (1 : Int32), .ref a0]) ⟨hx, hb, hml, hown, htb⟩ (c_Math_floorMod l (p0 - (1 : Int32)) (4 : Int32) (by decide)) (cws (n := 2) htb cd_Math_floorMod k_C_9 st_Math_floorMod ini_Math hd_Math_floorMod ⟨Nat.le_of_ble_eq_true rfl, Nat.le_of_ble_eq_true rfl⟩) rfl hl.1 rfl (Nat.le_of_ble_eq_true rfl) d_C_init_10 ⟨(by show _ ≤ 18; omega), (by show _ ≤ 2227; omega)⟩ (fun r_10 hw_10 => ?_)
  subst hw_10
  refine lv_iadd hx hb d_C_init_13 ?_
  refine va_putF (D := D) (ci := 2) (v := .int ((1 : Int32) + (M_Math_floorMod (p0 - (1 : Int32)) (4 : Int32)))) (ty := .int) (C := R_C) (T := T_C) (N := 10) hx hb htb i_C ty_C tyo_C nm_C hown hK hP hD hS 0 rfl rfl 0 (by decide) (htb _ k_C_15) (fun _ h9 => h9) rfl hin rfl (by decide +kernel) rfl rfl (Nat.le_of_ble_eq_true rfl) d_C_init_14 (fun H locs hP hD hS => ?_)
  have hP : va_P D vwCl [(a0, .inr (2, [.int ((1 : Int32) + (M_Math_floorMod (p0 - (1 : Int32)) (4 : Int32))), .int 0, .null, .null, .null, .null, .null, .int 0, .int 0, .int 0]))] H := hP
  have hD : va_D A [(a0, .inr (2, [.int ((1 : Int32) + (M_Math_floorMod (p0 - (1 : Int32)) (4 : Int32))), .int 0, .null, .null, .null, .null, .null, .int 0, .int 0, .int 0]))] := hD
  refine lv_aload_n hx hb d_C_init_17 rfl (lv_at hl 0 rfl) ?_
  refine lv_iload_n hx hb d_C_init_18 rfl (lv_at hl 2 rfl) ?_
  refine lv_iconst (v := 3) hx hb d_C_init_19 (by decide) ?_
  refine cps (As := [.int p1, .int (3 : Int32)]) (rest := [.ref a0]) ⟨hx, hb, hml, hown, htb⟩ (c_Math_floorMod l p1 (3 : Int32) (by decide)) (cws (n := 2) htb cd_Math_floorMod k_C_9 st_Math_floorMod ini_Math hd_Math_floorMod ⟨Nat.le_of_ble_eq_true rfl, Nat.le_of_ble_eq_true rfl⟩) rfl hl.1 rfl (Nat.le_of_ble_eq_true rfl) d_C_init_20 ⟨(by show _ ≤ 18; omega), (by show _ ≤ 2227; omega)⟩ (fun r_20 hw_20 => ?_)
  subst hw_20
  refine va_putF (D := D) (ci := 2) (v := .int (M_Math_floorMod p1 (3 : Int32))) (ty := .int) (C := R_C) (T := T_C) (N := 10) hx hb htb i_C ty_C tyo_C nm_C hown hK hP hD hS 0 rfl rfl 1 (by decide) (htb _ k_C_19) (fun _ h9 => h9) rfl hin rfl (by decide +kernel) rfl rfl (Nat.le_of_ble_eq_true rfl) d_C_init_23 (fun H locs hP hD hS => ?_)
  have hP : va_P D vwCl [(a0, .inr (2, [.int ((1 : Int32) + (M_Math_floorMod (p0 - (1 : Int32)) (4 : Int32))), .int (M_Math_floorMod p1 (3 : Int32)), .null, .null, .null, .null, .null, .int 0, .int 0, .int 0]))] H := hP
  have hD : va_D A [(a0, .inr (2, [.int ((1 : Int32) + (M_Math_floorMod (p0 - (1 : Int32)) (4 : Int32))), .int (M_Math_floorMod p1 (3 : Int32)), .null, .null, .null, .null, .null, .int 0, .int 0, .int 0]))] := hD
  refine lv_aload_n hx hb d_C_init_26 rfl (lv_at hl 0 rfl) ?_
  have h_c : 0 + 1 ≤ 18 := by omega
  have h_s : 0 + 7 ≤ 2227 := by omega
  refine va_new (ci := 0) (fs := [.int 0, .int 0, .null, .null, .null, .null, .null]) (C := R_B) (T := T_B) (N := 7) hx hb htb i_B ty_B tyo_B hown (htb _ k_C_22) (htb _ it_B) (htb _ ini_B) hK hP hD hS hA rfl (fun j hj => by rcases (show j = 0 ∨ j = 1 ∨ j = 2 ∨ j = 3 ∨ j = 4 ∨ j = 5 ∨ j = 6 by omega) with rfl | rfl | rfl | rfl | rfl | rfl | rfl <;> rfl) h_c h_s d_C_init_27 (fun q27 H hP hD hS => ?_)
  have hP : va_P D vwCl [(a0, .inr (2, [.int ((1 : Int32) + (M_Math_floorMod (p0 - (1 : Int32)) (4 : Int32))), .int (M_Math_floorMod p1 (3 : Int32)), .null, .null, .null, .null, .null, .int 0, .int 0, .int 0])), (q27, .inr (0, [.int 0, .int 0, .null, .null, .null, .null, .null]))] H := hP
  have hD : va_D A [(a0, .inr (2, [.int ((1 : Int32) + (M_Math_floorMod (p0 - (1 : Int32)) (4 : Int32))), .int (M_Math_floorMod p1 (3 : Int32)), .null, .null, .null, .null, .null, .int 0, .int 0, .int 0])), (q27, .inr (0, [.int 0, .int 0, .null, .null, .null, .null, .null]))] := hD
  refine lv_dup hx hb d_C_init_30 rfl ?_
  refine lv_aload_n hx hb d_C_init_31 rfl (lv_at hl 0 rfl) ?_
  refine va_get (D := D) (ci := 2) (v := .int ((1 : Int32) + (M_Math_floorMod (p0 - (1 : Int32)) (4 : Int32)))) (C := R_C) (T := T_C) (N := 10) hx hb htb i_C hown hK hP 0 rfl rfl 0 (by decide) (htb _ k_C_15) (fun _ h9 => h9) rfl d_C_init_32 ?_
  refine lv_iconst (v := 1) hx hb d_C_init_35 (by decide) ?_
  refine lv_iload_n hx hb d_C_init_36 rfl (lv_at hl 3 rfl) ?_
  refine lv_iconst (v := 1) hx hb d_C_init_37 (by decide) ?_
  refine lv_isub hx hb d_C_init_38 ?_
  refine lv_bipush (v := 8) hx hb d_C_init_39 (by decide) ?_
  refine cps (As := [.int (p2 - (1 : Int32)), .int (8 : Int32)]) (rest := [.int (1 : Int32), .int ((1 : Int32) + (M_Math_floorMod (p0 - (1 : Int32)) (4 : Int32))), .ref q27, .ref q27, .ref a0]) ⟨hx, hb, hml, hown, htb⟩ (c_Math_floorMod l (p2 - (1 : Int32)) (8 : Int32) (by decide)) (cws (n := 2) htb cd_Math_floorMod k_C_9 st_Math_floorMod ini_Math hd_Math_floorMod ⟨Nat.le_of_ble_eq_true rfl, Nat.le_of_ble_eq_true rfl⟩) rfl hl.1 rfl (Nat.le_of_ble_eq_true rfl) d_C_init_41 ⟨(by show _ ≤ 18; omega), (by show _ ≤ 2227; omega)⟩ (fun r_41 hw_41 => ?_)
  subst hw_41
  refine lv_iadd hx hb d_C_init_44 ?_
  refine lv_iconst (v := 2) hx hb d_C_init_45 (by decide) ?_
  have h_c : (0 + 1) + 5 ≤ 18 := by omega
  have h_s : (0 + 7) + 320 ≤ 2227 := by omega
  have hPc := hP.sub (ws' := [(q27, .inr (0, [.int 0, .int 0, .null, .null, .null, .null, .null]))]) [1] rfl
  have hDc := hD.sub (ws' := [(q27, .inr (0, [.int 0, .int 0, .null, .null, .null, .null, .null]))]) [1] (by decide) rfl
  have hFc := va_free (wc := [(q27, .inr (0, [.int 0, .int 0, .null, .null, .null, .null, .null]))]) hD hS hA [1] rfl
  refine va_callv (va_runI (As := [.int ((1 : Int32) + (M_Math_floorMod (p0 - (1 : Int32)) (4 : Int32))), .int ((1 : Int32) + (M_Math_floorMod (p2 - (1 : Int32)) (8 : Int32))), .int (2 : Int32)]) (rest := [.ref q27, .ref a0]) ⟨hx, hb, hml, hown, htb⟩ (c_B_init l D cI cZ q27 H.size ((1 : Int32) + (M_Math_floorMod (p0 - (1 : Int32)) (4 : Int32))) ((1 : Int32) + (M_Math_floorMod (p2 - (1 : Int32)) (8 : Int32))) (2 : Int32) (c1 * n1) (c1 * n1 * 2) hb1a hb1b (by have := Nat.mul_le_mul hc2 hn2; omega) (by have := Nat.mul_le_mul hc2 hn2; omega)) (cwi0 (n := 3) htb cd_B_init k_C_24 in_B_init ini_B rfl hd_B_init ⟨Nat.le_of_ble_eq_true rfl, Nat.le_of_ble_eq_true rfl⟩) ⟨blindN, fun U hU hW => ⟨rfl, by rw [hU], by rw [hU]; exact hPc, va_K.moved hW.alike hK, hDc.weaken (fun _ _ _ _ => trivial)⟩⟩ rfl rfl hl.1 rfl (lv_room (Nat.le_of_ble_eq_true rfl)) d_C_init_46 ⟨h_c, h_s⟩) hS (fun q _ h => hFc q h) hFc (fun u46 t H1 locs ht hvm hw46 hB hz1 hk1 hS => ?_)
  obtain ⟨hP1, hD1⟩ := hB
  rw [ht] at hP1
  obtain ⟨hP, hD⟩ := va_join (wr := [(a0, .inr (2, [.int ((1 : Int32) + (M_Math_floorMod (p0 - (1 : Int32)) (4 : Int32))), .int (M_Math_floorMod p1 (3 : Int32)), .null, .null, .null, .null, .null, .int 0, .int 0, .int 0]))]) (w1 := (wB cI cZ u46 zB)) hP hD [1] [0] rfl rfl (by decide) (by decide) hk1 hFc hP1 hD1
  generalize H1 = H at hP hS ⊢
  have hP : va_P D vwCl ([(a0, .inr (2, [.int ((1 : Int32) + (M_Math_floorMod (p0 - (1 : Int32)) (4 : Int32))), .int (M_Math_floorMod p1 (3 : Int32)), .null, .null, .null, .null, .null, .int 0, .int 0, .int 0]))] ++ (wB cI cZ u46 zB)) H := hP
  have hD : va_D A ([(a0, .inr (2, [.int ((1 : Int32) + (M_Math_floorMod (p0 - (1 : Int32)) (4 : Int32))), .int (M_Math_floorMod p1 (3 : Int32)), .null, .null, .null, .null, .null, .int 0, .int 0, .int 0]))] ++ (wB cI cZ u46 zB)) := hD
  obtain ⟨e46, f46⟩ := hw46
  rw [← e46]
  refine va_putF (D := D) (ci := 2) (v := .ref u46.1.1) (ty := (.object "CacheLevels$Bank")) (C := R_C) (T := T_C) (N := 10) hx hb htb i_C ty_C tyo_C nm_C hown hK hP hD hS 0 rfl rfl 2 (by decide) (htb _ k_C_27) (fun _ h9 => h9) rfl hin rfl (by decide +kernel) rfl rfl (Nat.le_of_ble_eq_true rfl) d_C_init_49 (fun H locs hP hD hS => ?_)
  have hP : va_P D vwCl ([(a0, .inr (2, [.int ((1 : Int32) + (M_Math_floorMod (p0 - (1 : Int32)) (4 : Int32))), .int (M_Math_floorMod p1 (3 : Int32)), .ref u46.1.1, .null, .null, .null, .null, .int 0, .int 0, .int 0]))] ++ (wB cI cZ u46 zB)) H := hP
  have hD : va_D A ([(a0, .inr (2, [.int ((1 : Int32) + (M_Math_floorMod (p0 - (1 : Int32)) (4 : Int32))), .int (M_Math_floorMod p1 (3 : Int32)), .ref u46.1.1, .null, .null, .null, .null, .int 0, .int 0, .int 0]))] ++ (wB cI cZ u46 zB)) := hD
  refine lv_aload_n hx hb d_C_init_52 rfl (lv_at hl 0 rfl) ?_
  have h_c : ((0 + 1) + 5) + 1 ≤ 18 := by omega
  have h_s : ((0 + 7) + 320) + 7 ≤ 2227 := by omega
  refine va_new (ci := 0) (fs := [.int 0, .int 0, .null, .null, .null, .null, .null]) (C := R_B) (T := T_B) (N := 7) hx hb htb i_B ty_B tyo_B hown (htb _ k_C_22) (htb _ it_B) (htb _ ini_B) hK hP hD hS hA rfl (fun j hj => by rcases (show j = 0 ∨ j = 1 ∨ j = 2 ∨ j = 3 ∨ j = 4 ∨ j = 5 ∨ j = 6 by omega) with rfl | rfl | rfl | rfl | rfl | rfl | rfl <;> rfl) h_c h_s d_C_init_53 (fun q53 H hP hD hS => ?_)
  have hP : va_P D vwCl ([(a0, .inr (2, [.int ((1 : Int32) + (M_Math_floorMod (p0 - (1 : Int32)) (4 : Int32))), .int (M_Math_floorMod p1 (3 : Int32)), .ref u46.1.1, .null, .null, .null, .null, .int 0, .int 0, .int 0]))] ++ (wB cI cZ u46 zB) ++ [(q53, .inr (0, [.int 0, .int 0, .null, .null, .null, .null, .null]))]) H := hP
  have hD : va_D A ([(a0, .inr (2, [.int ((1 : Int32) + (M_Math_floorMod (p0 - (1 : Int32)) (4 : Int32))), .int (M_Math_floorMod p1 (3 : Int32)), .ref u46.1.1, .null, .null, .null, .null, .int 0, .int 0, .int 0]))] ++ (wB cI cZ u46 zB) ++ [(q53, .inr (0, [.int 0, .int 0, .null, .null, .null, .null, .null]))]) := hD
  refine lv_dup hx hb d_C_init_56 rfl ?_
  refine lv_iconst (v := 1) hx hb d_C_init_57 (by decide) ?_
  refine lv_iconst (v := 1) hx hb d_C_init_58 (by decide) ?_
  refine lv_iload hx hb d_C_init_59 (lv_at hl 4 rfl) ?_
  refine lv_iconst (v := 1) hx hb d_C_init_61 (by decide) ?_
  refine lv_isub hx hb d_C_init_62 ?_
  refine lv_bipush (v := 16) hx hb d_C_init_63 (by decide) ?_
  refine cps (As := [.int (p3 - (1 : Int32)), .int (16 : Int32)]) (rest := [.int (1 : Int32), .int (1 : Int32), .ref q53, .ref q53, .ref a0]) ⟨hx, hb, hml, hown, htb⟩ (c_Math_floorMod l (p3 - (1 : Int32)) (16 : Int32) (by decide)) (cws (n := 2) htb cd_Math_floorMod k_C_9 st_Math_floorMod ini_Math hd_Math_floorMod ⟨Nat.le_of_ble_eq_true rfl, Nat.le_of_ble_eq_true rfl⟩) rfl hl.1 rfl (Nat.le_of_ble_eq_true rfl) d_C_init_65 ⟨(by show _ ≤ 18; omega), (by show _ ≤ 2227; omega)⟩ (fun r_65 hw_65 => ?_)
  subst hw_65
  refine lv_iadd hx hb d_C_init_68 ?_
  refine lv_iconst (v := 4) hx hb d_C_init_69 (by decide) ?_
  have h_c : (((0 + 1) + 5) + 1) + 5 ≤ 18 := by omega
  have h_s : (((0 + 7) + 320) + 7) + 320 ≤ 2227 := by omega
  have hPc := hP.sub (ws' := [(q53, .inr (0, [.int 0, .int 0, .null, .null, .null, .null, .null]))]) [7] rfl
  have hDc := hD.sub (ws' := [(q53, .inr (0, [.int 0, .int 0, .null, .null, .null, .null, .null]))]) [7] (by decide) rfl
  have hFc := va_free (wc := [(q53, .inr (0, [.int 0, .int 0, .null, .null, .null, .null, .null]))]) hD hS hA [7] rfl
  refine va_callv (va_runI (As := [.int (1 : Int32), .int ((1 : Int32) + (M_Math_floorMod (p3 - (1 : Int32)) (16 : Int32))), .int (4 : Int32)]) (rest := [.ref q53, .ref a0]) ⟨hx, hb, hml, hown, htb⟩ (c_B_init l D cI cZ q53 H.size (1 : Int32) ((1 : Int32) + (M_Math_floorMod (p3 - (1 : Int32)) (16 : Int32))) (4 : Int32) n3 (n3 * 4) hb2a hb2b (by omega) (by omega)) (cwi0 (n := 3) htb cd_B_init k_C_24 in_B_init ini_B rfl hd_B_init ⟨Nat.le_of_ble_eq_true rfl, Nat.le_of_ble_eq_true rfl⟩) ⟨blindN, fun U hU hW => ⟨rfl, by rw [hU], by rw [hU]; exact hPc, va_K.moved hW.alike hK, hDc.weaken (fun _ _ _ _ => trivial)⟩⟩ rfl rfl hl.1 rfl (lv_room (Nat.le_of_ble_eq_true rfl)) d_C_init_70 ⟨h_c, h_s⟩) hS (fun q _ h => hFc q h) hFc (fun u70 t H1 locs ht hvm hw70 hB hz1 hk1 hS => ?_)
  obtain ⟨hP1, hD1⟩ := hB
  rw [ht] at hP1
  obtain ⟨hP, hD⟩ := va_join (wr := ([(a0, .inr (2, [.int ((1 : Int32) + (M_Math_floorMod (p0 - (1 : Int32)) (4 : Int32))), .int (M_Math_floorMod p1 (3 : Int32)), .ref u46.1.1, .null, .null, .null, .null, .int 0, .int 0, .int 0]))] ++ (wB cI cZ u46 zB))) (w1 := (wB cI cZ u70 zB)) hP hD [7] [0, 1, 2, 3, 4, 5, 6] rfl rfl (by decide) (by decide) hk1 hFc hP1 hD1
  generalize H1 = H at hP hS ⊢
  have hP : va_P D vwCl ([(a0, .inr (2, [.int ((1 : Int32) + (M_Math_floorMod (p0 - (1 : Int32)) (4 : Int32))), .int (M_Math_floorMod p1 (3 : Int32)), .ref u46.1.1, .null, .null, .null, .null, .int 0, .int 0, .int 0]))] ++ (wB cI cZ u46 zB) ++ (wB cI cZ u70 zB)) H := hP
  have hD : va_D A ([(a0, .inr (2, [.int ((1 : Int32) + (M_Math_floorMod (p0 - (1 : Int32)) (4 : Int32))), .int (M_Math_floorMod p1 (3 : Int32)), .ref u46.1.1, .null, .null, .null, .null, .int 0, .int 0, .int 0]))] ++ (wB cI cZ u46 zB) ++ (wB cI cZ u70 zB)) := hD
  obtain ⟨e70, f70⟩ := hw70
  rw [← e70]
  refine va_putF (D := D) (ci := 2) (v := .ref u70.1.1) (ty := (.object "CacheLevels$Bank")) (C := R_C) (T := T_C) (N := 10) hx hb htb i_C ty_C tyo_C nm_C hown hK hP hD hS 0 rfl rfl 3 (by decide) (htb _ k_C_31) (fun _ h9 => h9) rfl hin rfl (by decide +kernel) rfl rfl (Nat.le_of_ble_eq_true rfl) d_C_init_73 (fun H locs hP hD hS => ?_)
  have hP : va_P D vwCl ([(a0, .inr (2, [.int ((1 : Int32) + (M_Math_floorMod (p0 - (1 : Int32)) (4 : Int32))), .int (M_Math_floorMod p1 (3 : Int32)), .ref u46.1.1, .ref u70.1.1, .null, .null, .null, .int 0, .int 0, .int 0]))] ++ (wB cI cZ u46 zB) ++ (wB cI cZ u70 zB)) H := hP
  have hD : va_D A ([(a0, .inr (2, [.int ((1 : Int32) + (M_Math_floorMod (p0 - (1 : Int32)) (4 : Int32))), .int (M_Math_floorMod p1 (3 : Int32)), .ref u46.1.1, .ref u70.1.1, .null, .null, .null, .int 0, .int 0, .int 0]))] ++ (wB cI cZ u46 zB) ++ (wB cI cZ u70 zB)) := hD
  refine lv_aload_n hx hb d_C_init_76 rfl (lv_at hl 0 rfl) ?_
  have h_c : ((((0 + 1) + 5) + 1) + 5) + 1 ≤ 18 := by omega
  have h_s : ((((0 + 7) + 320) + 7) + 320) + 5 ≤ 2227 := by omega
  refine va_new (ci := 1) (fs := [.int 0, .int 0, .null, .null, .null]) (C := R_V) (T := T_V) (N := 5) hx hb htb i_V ty_V tyo_V hown (htb _ k_C_34) (htb _ it_V) (htb _ ini_V) hK hP hD hS hA rfl (fun j hj => by rcases (show j = 0 ∨ j = 1 ∨ j = 2 ∨ j = 3 ∨ j = 4 by omega) with rfl | rfl | rfl | rfl | rfl <;> rfl) h_c h_s d_C_init_77 (fun q77 H hP hD hS => ?_)
  have hP : va_P D vwCl ([(a0, .inr (2, [.int ((1 : Int32) + (M_Math_floorMod (p0 - (1 : Int32)) (4 : Int32))), .int (M_Math_floorMod p1 (3 : Int32)), .ref u46.1.1, .ref u70.1.1, .null, .null, .null, .int 0, .int 0, .int 0]))] ++ (wB cI cZ u46 zB) ++ (wB cI cZ u70 zB) ++ [(q77, .inr (1, [.int 0, .int 0, .null, .null, .null]))]) H := hP
  have hD : va_D A ([(a0, .inr (2, [.int ((1 : Int32) + (M_Math_floorMod (p0 - (1 : Int32)) (4 : Int32))), .int (M_Math_floorMod p1 (3 : Int32)), .ref u46.1.1, .ref u70.1.1, .null, .null, .null, .int 0, .int 0, .int 0]))] ++ (wB cI cZ u46 zB) ++ (wB cI cZ u70 zB) ++ [(q77, .inr (1, [.int 0, .int 0, .null, .null, .null]))]) := hD
  refine lv_dup hx hb d_C_init_80 rfl ?_
  have h_c : (((((0 + 1) + 5) + 1) + 5) + 1) + 3 ≤ 18 := by omega
  have h_s : (((((0 + 7) + 320) + 7) + 320) + 5) + 1536 ≤ 2227 := by omega
  have hPc := hP.sub (ws' := [(q77, .inr (1, [.int 0, .int 0, .null, .null, .null]))]) [13] rfl
  have hDc := hD.sub (ws' := [(q77, .inr (1, [.int 0, .int 0, .null, .null, .null]))]) [13] (by decide) rfl
  have hFc := va_free (wc := [(q77, .inr (1, [.int 0, .int 0, .null, .null, .null]))]) hD hS hA [13] rfl
  refine va_callv (va_runI (As := []) (rest := [.ref q77, .ref a0]) ⟨hx, hb, hml, hown, htb⟩ (c_V_init l D cI cZ q77 H.size) (cwi0 (n := 0) htb cd_V_init k_C_36 in_V_init ini_V rfl hd_V_init ⟨Nat.le_of_ble_eq_true rfl, Nat.le_of_ble_eq_true rfl⟩) ⟨blindN, fun U hU hW => ⟨rfl, by rw [hU], by rw [hU]; exact hPc, va_K.moved hW.alike hK, hDc.weaken (fun _ _ _ _ => trivial)⟩⟩ rfl rfl hl.1 rfl (lv_room (Nat.le_of_ble_eq_true rfl)) d_C_init_81 ⟨h_c, h_s⟩) hS (fun q _ h => hFc q h) hFc (fun u81 t H1 locs ht hvm hw81 hB hz1 hk1 hS => ?_)
  obtain ⟨hP1, hD1⟩ := hB
  rw [ht] at hP1
  obtain ⟨hP, hD⟩ := va_join (wr := ([(a0, .inr (2, [.int ((1 : Int32) + (M_Math_floorMod (p0 - (1 : Int32)) (4 : Int32))), .int (M_Math_floorMod p1 (3 : Int32)), .ref u46.1.1, .ref u70.1.1, .null, .null, .null, .int 0, .int 0, .int 0]))] ++ (wB cI cZ u46 zB) ++ (wB cI cZ u70 zB))) (w1 := (wV cI cZ u81 zV)) hP hD [13] [0, 1, 2, 3, 4, 5, 6, 7, 8, 9, 10, 11, 12] rfl rfl (by decide) (by decide) hk1 hFc hP1 hD1
  generalize H1 = H at hP hS ⊢
  have hP : va_P D vwCl ([(a0, .inr (2, [.int ((1 : Int32) + (M_Math_floorMod (p0 - (1 : Int32)) (4 : Int32))), .int (M_Math_floorMod p1 (3 : Int32)), .ref u46.1.1, .ref u70.1.1, .null, .null, .null, .int 0, .int 0, .int 0]))] ++ (wB cI cZ u46 zB) ++ (wB cI cZ u70 zB) ++ (wV cI cZ u81 zV)) H := hP
  have hD : va_D A ([(a0, .inr (2, [.int ((1 : Int32) + (M_Math_floorMod (p0 - (1 : Int32)) (4 : Int32))), .int (M_Math_floorMod p1 (3 : Int32)), .ref u46.1.1, .ref u70.1.1, .null, .null, .null, .int 0, .int 0, .int 0]))] ++ (wB cI cZ u46 zB) ++ (wB cI cZ u70 zB) ++ (wV cI cZ u81 zV)) := hD
  obtain ⟨e81, f81⟩ := hw81
  rw [← e81]
  refine va_putF (D := D) (ci := 2) (v := .ref u81.1.1) (ty := (.object "CacheLevels$Versions")) (C := R_C) (T := T_C) (N := 10) hx hb htb i_C ty_C tyo_C nm_C hown hK hP hD hS 0 rfl rfl 4 (by decide) (htb _ k_C_37) (fun _ h9 => h9) rfl hin rfl (by decide +kernel) rfl rfl (Nat.le_of_ble_eq_true rfl) d_C_init_84 (fun H locs hP hD hS => ?_)
  have hP : va_P D vwCl ([(a0, .inr (2, [.int ((1 : Int32) + (M_Math_floorMod (p0 - (1 : Int32)) (4 : Int32))), .int (M_Math_floorMod p1 (3 : Int32)), .ref u46.1.1, .ref u70.1.1, .ref u81.1.1, .null, .null, .int 0, .int 0, .int 0]))] ++ (wB cI cZ u46 zB) ++ (wB cI cZ u70 zB) ++ (wV cI cZ u81 zV)) H := hP
  have hD : va_D A ([(a0, .inr (2, [.int ((1 : Int32) + (M_Math_floorMod (p0 - (1 : Int32)) (4 : Int32))), .int (M_Math_floorMod p1 (3 : Int32)), .ref u46.1.1, .ref u70.1.1, .ref u81.1.1, .null, .null, .int 0, .int 0, .int 0]))] ++ (wB cI cZ u46 zB) ++ (wB cI cZ u70 zB) ++ (wV cI cZ u81 zV)) := hD
  refine lv_aload_n hx hb d_C_init_87 rfl (lv_at hl 0 rfl) ?_
  refine lv_aload_n hx hb d_C_init_88 rfl (lv_at hl 0 rfl) ?_
  refine va_get (D := D) (ci := 2) (v := .int ((1 : Int32) + (M_Math_floorMod (p0 - (1 : Int32)) (4 : Int32)))) (C := R_C) (T := T_C) (N := 10) hx hb htb i_C hown hK hP 0 rfl rfl 0 (by decide) (htb _ k_C_15) (fun _ h9 => h9) rfl d_C_init_89 ?_
  have h_c : ((((((0 + 1) + 5) + 1) + 5) + 1) + 3) + 1 ≤ 18 := by omega
  have h_s : ((((((0 + 7) + 320) + 7) + 320) + 5) + 1536) + c1 ≤ 2227 := by omega
  refine newa_k (ty := .int) (a0 := (c1, .inl (fun _ => 0))) hx hb (htb _ ac_int) rfl hK hP hD hS hA 0 rfl ra_int (fun _ => rfl) (by rw [hc]; exact nI_pos (by omega)) (by rw [hc]; exact nI_clamp (by omega)) (by show c1 * 4 ≤ 536870912; omega) h_c h_s d_C_init_92 (fun q92 H hP hD hS => ?_)
  have hP : va_P D vwCl ([(a0, .inr (2, [.int ((1 : Int32) + (M_Math_floorMod (p0 - (1 : Int32)) (4 : Int32))), .int (M_Math_floorMod p1 (3 : Int32)), .ref u46.1.1, .ref u70.1.1, .ref u81.1.1, .null, .null, .int 0, .int 0, .int 0]))] ++ (wB cI cZ u46 zB) ++ (wB cI cZ u70 zB) ++ (wV cI cZ u81 zV) ++ [(q92, .inl (cI, c1, .inl (fun _ => 0)))]) H := hP
  have hD : va_D A ([(a0, .inr (2, [.int ((1 : Int32) + (M_Math_floorMod (p0 - (1 : Int32)) (4 : Int32))), .int (M_Math_floorMod p1 (3 : Int32)), .ref u46.1.1, .ref u70.1.1, .ref u81.1.1, .null, .null, .int 0, .int 0, .int 0]))] ++ (wB cI cZ u46 zB) ++ (wB cI cZ u70 zB) ++ (wV cI cZ u81 zV) ++ [(q92, .inl (cI, c1, .inl (fun _ => 0)))]) := hD
  refine va_putF (D := D) (ci := 2) (v := .ref q92) (ty := (.array .int)) (C := R_C) (T := T_C) (N := 10) hx hb htb i_C ty_C tyo_C nm_C hown hK hP hD hS 0 rfl rfl 5 (by decide) (htb _ k_C_41) (fun _ h9 => h9) rfl hin rfl (by decide +kernel) rfl rfl (Nat.le_of_ble_eq_true rfl) d_C_init_94 (fun H locs hP hD hS => ?_)
  have hP : va_P D vwCl ([(a0, .inr (2, [.int ((1 : Int32) + (M_Math_floorMod (p0 - (1 : Int32)) (4 : Int32))), .int (M_Math_floorMod p1 (3 : Int32)), .ref u46.1.1, .ref u70.1.1, .ref u81.1.1, .ref q92, .null, .int 0, .int 0, .int 0]))] ++ (wB cI cZ u46 zB) ++ (wB cI cZ u70 zB) ++ (wV cI cZ u81 zV) ++ [(q92, .inl (cI, c1, .inl (fun _ => 0)))]) H := hP
  have hD : va_D A ([(a0, .inr (2, [.int ((1 : Int32) + (M_Math_floorMod (p0 - (1 : Int32)) (4 : Int32))), .int (M_Math_floorMod p1 (3 : Int32)), .ref u46.1.1, .ref u70.1.1, .ref u81.1.1, .ref q92, .null, .int 0, .int 0, .int 0]))] ++ (wB cI cZ u46 zB) ++ (wB cI cZ u70 zB) ++ (wV cI cZ u81 zV) ++ [(q92, .inl (cI, c1, .inl (fun _ => 0)))]) := hD
  refine lv_iconst (v := 0) hx hb d_C_init_97 (by decide) ?_
  refine lv_istore (lv' := [(5, .int (0 : Int32)), (0, .ref a0), (1, .int p0), (2, .int p1), (3, .int p2), (4, .int p3)]) hx hb d_C_init_98 hl (by decide) rfl (fun ls hl => ?_)
  refine W.widen (k := 17) (n := 2199) (by omega) (by omega) ?_
  have cut_100 : ∀ (n i : Nat) (f : Fn) (H : Heap) (locs : List Loc) (ls : Array Slot), i ≤ c1 → c1 - i < n → (∀ j : Nat, j < i → f j = 4) → va_P D vwCl ([(a0, .inr (2, [.int ((1 : Int32) + (M_Math_floorMod (p0 - (1 : Int32)) (4 : Int32))), .int (M_Math_floorMod p1 (3 : Int32)), .ref u46.1.1, .ref u70.1.1, .ref u81.1.1, .ref q92, .null, .int 0, .int 0, .int 0]))] ++ (wB cI cZ u46 zB) ++ (wB cI cZ u70 zB) ++ (wV cI cZ u81 zV) ++ [(q92, .inl (cI, c1, .inl f))]) H → va_D A ([(a0, .inr (2, [.int ((1 : Int32) + (M_Math_floorMod (p0 - (1 : Int32)) (4 : Int32))), .int (M_Math_floorMod p1 (3 : Int32)), .ref u46.1.1, .ref u70.1.1, .ref u81.1.1, .ref q92, .null, .int 0, .int 0, .int 0]))] ++ (wB cI cZ u46 zB) ++ (wB cI cZ u70 zB) ++ (wV cI cZ u81 zV) ++ [(q92, .inl (cI, c1, .inl f))]) → va_S A s.heap H locs → lv_has ls 6 [(0, .ref a0), (1, .int p0), (2, .int p1), (3, .int p2), (4, .int p3), (5, .int (nI i))] → W p l e (headSpec w_C_init rm_C_init).room s m ([.ref a0, .int p0, .int p1, .int p2, .int p3] : List Value).toArray below meth c H locs 17 2199 (MQ below (va_Qv (fun (u : GC × Fn) => u.1.1.1 = a0 ∧ u.1.2.1 = (((1 : Int32) + (M_Math_floorMod (p0 - (1 : Int32)) (4 : Int32))), (M_Math_floorMod p1 (3 : Int32))) ∧ u.1.2.2.1 = (c1, c1 * 7) ∧ u.1.2.2.2.1.2 = (((if (1 : Int32) < ((1 : Int32) + (M_Math_floorMod (p2 - (1 : Int32)) (8 : Int32))) then ((1 : Int32) + (M_Math_floorMod (p2 - (1 : Int32)) (8 : Int32))) else (1 : Int32)), (if (1 : Int32) < (2 : Int32) then (2 : Int32) else (1 : Int32))), (c1 * n1, c1 * n1 * 2)) ∧ u.1.2.2.2.2.1.2 = (((if (1 : Int32) < ((1 : Int32) + (M_Math_floorMod (p3 - (1 : Int32)) (16 : Int32))) then ((1 : Int32) + (M_Math_floorMod (p3 - (1 : Int32)) (16 : Int32))) else (1 : Int32)), (if (1 : Int32) < (4 : Int32) then (4 : Int32) else (1 : Int32))), (n3, n3 * 4)) ∧ u.1.2.2.2.2.2.2 = (512, 512, 512) ∧ ∀ j : Nat, j < c1 → u.2 j = 4) (fun (u : GC × Fn) (t : State) => va_P D vwCl (wC cI cZ u.1 ((0, -1, 0), zB, zB, zV, u.2, zF)) t.heap ∧ va_D A (wC cI cZ u.1 ((0, -1, 0), zB, zB, zV, u.2, zF))) A) ([.ref a0, .int p0, .int p1, .int p2, .int p3] : List Value).toArray s 18 2227 A) (F0 m 100 ls []) := by
    intro n
    induction n with
    | zero => intro i f H locs ls _ hm; exact absurd hm (Nat.not_lt_zero _)
    | succ n ih =>
      intro i f H locs ls hi0 hm hf hP hD hS hl
      refine lv_iload hx hb d_C_init_100 (lv_at hl 5 rfl) ?_
      refine lv_aload_n hx hb d_C_init_102 rfl (lv_at hl 0 rfl) ?_
      refine va_get (D := D) (ci := 2) (v := .ref q92) (C := R_C) (T := T_C) (N := 10) hx hb htb i_C hown hK hP 0 rfl rfl 5 (by decide) (htb _ k_C_41) (fun _ h9 => h9) rfl d_C_init_103 ?_
      refine va_alen hx hb hK hP 17 0 rfl rfl (v := nI c1) rfl d_C_init_106 ?_
      refine lv_icmp_ge (tgt := 124) hx hb d_C_init_107 (by decide) (fun c_107 => ?_) (fun c_107 => ?_)
      · have hi : i = c1 := by
          have h9 := (nI_leI (by omega) (by omega)).mp c_107
          omega
        have hf : ∀ j : Nat, j < c1 → f j = 4 := fun j hj => hf j (by omega)
        refine lv_aload_n hx hb d_C_init_124 rfl (lv_at hl 0 rfl) ?_
        refine lv_aload_n hx hb d_C_init_125 rfl (lv_at hl 0 rfl) ?_
        refine va_get (D := D) (ci := 2) (v := .int ((1 : Int32) + (M_Math_floorMod (p0 - (1 : Int32)) (4 : Int32)))) (C := R_C) (T := T_C) (N := 10) hx hb htb i_C hown hK hP 0 rfl rfl 0 (by decide) (htb _ k_C_15) (fun _ h9 => h9) rfl d_C_init_126 ?_
        refine lv_bipush (v := 7) hx hb d_C_init_129 (by decide) ?_
        refine lv_imul hx hb d_C_init_131 ?_
        have h_c : 17 + 1 ≤ 18 := by omega
        have h_s : 2199 + (c1 * 7) ≤ 2227 := by omega
        refine newa_k (ty := .int) (a0 := ((c1 * 7), .inl (fun _ => 0))) hx hb (htb _ ac_int) rfl hK hP hD hS hA 0 rfl ra_int (fun _ => rfl) (by rw [hc7]; exact nI_pos (by omega)) (by rw [hc7]; exact nI_clamp (by omega)) (by show (c1 * 7) * 4 ≤ 536870912; omega) h_c h_s d_C_init_132 (fun q132 H hP hD hS => ?_)
        have hP : va_P D vwCl ([(a0, .inr (2, [.int ((1 : Int32) + (M_Math_floorMod (p0 - (1 : Int32)) (4 : Int32))), .int (M_Math_floorMod p1 (3 : Int32)), .ref u46.1.1, .ref u70.1.1, .ref u81.1.1, .ref q92, .null, .int 0, .int 0, .int 0]))] ++ (wB cI cZ u46 zB) ++ (wB cI cZ u70 zB) ++ (wV cI cZ u81 zV) ++ [(q92, .inl (cI, c1, .inl f)), (q132, .inl (cI, (c1 * 7), .inl (fun _ => 0)))]) H := hP
        have hD : va_D A ([(a0, .inr (2, [.int ((1 : Int32) + (M_Math_floorMod (p0 - (1 : Int32)) (4 : Int32))), .int (M_Math_floorMod p1 (3 : Int32)), .ref u46.1.1, .ref u70.1.1, .ref u81.1.1, .ref q92, .null, .int 0, .int 0, .int 0]))] ++ (wB cI cZ u46 zB) ++ (wB cI cZ u70 zB) ++ (wV cI cZ u81 zV) ++ [(q92, .inl (cI, c1, .inl f)), (q132, .inl (cI, (c1 * 7), .inl (fun _ => 0)))]) := hD
        refine va_putF (D := D) (ci := 2) (v := .ref q132) (ty := (.array .int)) (C := R_C) (T := T_C) (N := 10) hx hb htb i_C ty_C tyo_C nm_C hown hK hP hD hS 0 rfl rfl 6 (by decide) (htb _ k_C_45) (fun _ h9 => h9) rfl hin rfl (by decide +kernel) rfl rfl (Nat.le_of_ble_eq_true rfl) d_C_init_134 (fun H locs hP hD hS => ?_)
        have hP : va_P D vwCl ([(a0, .inr (2, [.int ((1 : Int32) + (M_Math_floorMod (p0 - (1 : Int32)) (4 : Int32))), .int (M_Math_floorMod p1 (3 : Int32)), .ref u46.1.1, .ref u70.1.1, .ref u81.1.1, .ref q92, .ref q132, .int 0, .int 0, .int 0]))] ++ (wB cI cZ u46 zB) ++ (wB cI cZ u70 zB) ++ (wV cI cZ u81 zV) ++ [(q92, .inl (cI, c1, .inl f)), (q132, .inl (cI, (c1 * 7), .inl (fun _ => 0)))]) H := hP
        have hD : va_D A ([(a0, .inr (2, [.int ((1 : Int32) + (M_Math_floorMod (p0 - (1 : Int32)) (4 : Int32))), .int (M_Math_floorMod p1 (3 : Int32)), .ref u46.1.1, .ref u70.1.1, .ref u81.1.1, .ref q92, .ref q132, .int 0, .int 0, .int 0]))] ++ (wB cI cZ u46 zB) ++ (wB cI cZ u70 zB) ++ (wV cI cZ u81 zV) ++ [(q92, .inl (cI, c1, .inl f)), (q132, .inl (cI, (c1 * 7), .inl (fun _ => 0)))]) := hD
        refine lv_aload_n hx hb d_C_init_137 rfl (lv_at hl 0 rfl) ?_
        refine lv_iconst (v := 0) hx hb d_C_init_138 (by decide) ?_
        refine va_put (D := D) (ci := 2) (v := .int (0 : Int32)) (ty := .int) (C := R_C) (T := T_C) (N := 10) hx hb htb i_C ty_C tyo_C nm_C hown hK hP hD hS 0 rfl rfl 7 (by decide) (htb _ k_C_48) (fun _ h9 => h9) rfl (by decide +kernel) rfl rfl (Nat.le_of_ble_eq_true rfl) d_C_init_139 (fun H locs hP hD hS => ?_)
        have hP : va_P D vwCl ([(a0, .inr (2, [.int ((1 : Int32) + (M_Math_floorMod (p0 - (1 : Int32)) (4 : Int32))), .int (M_Math_floorMod p1 (3 : Int32)), .ref u46.1.1, .ref u70.1.1, .ref u81.1.1, .ref q92, .ref q132, .int (0 : Int32), .int 0, .int 0]))] ++ (wB cI cZ u46 zB) ++ (wB cI cZ u70 zB) ++ (wV cI cZ u81 zV) ++ [(q92, .inl (cI, c1, .inl f)), (q132, .inl (cI, (c1 * 7), .inl (fun _ => 0)))]) H := hP
        have hD : va_D A ([(a0, .inr (2, [.int ((1 : Int32) + (M_Math_floorMod (p0 - (1 : Int32)) (4 : Int32))), .int (M_Math_floorMod p1 (3 : Int32)), .ref u46.1.1, .ref u70.1.1, .ref u81.1.1, .ref q92, .ref q132, .int (0 : Int32), .int 0, .int 0]))] ++ (wB cI cZ u46 zB) ++ (wB cI cZ u70 zB) ++ (wV cI cZ u81 zV) ++ [(q92, .inl (cI, c1, .inl f)), (q132, .inl (cI, (c1 * 7), .inl (fun _ => 0)))]) := hD
        refine lv_aload_n hx hb d_C_init_142 rfl (lv_at hl 0 rfl) ?_
        refine lv_iconst (v := -1) hx hb d_C_init_143 (by decide) ?_
        refine va_put (D := D) (ci := 2) (v := .int (-1 : Int32)) (ty := .int) (C := R_C) (T := T_C) (N := 10) hx hb htb i_C ty_C tyo_C nm_C hown hK hP hD hS 0 rfl rfl 8 (by decide) (htb _ k_C_51) (fun _ h9 => h9) rfl (by decide +kernel) rfl rfl (Nat.le_of_ble_eq_true rfl) d_C_init_144 (fun H locs hP hD hS => ?_)
        have hP : va_P D vwCl ([(a0, .inr (2, [.int ((1 : Int32) + (M_Math_floorMod (p0 - (1 : Int32)) (4 : Int32))), .int (M_Math_floorMod p1 (3 : Int32)), .ref u46.1.1, .ref u70.1.1, .ref u81.1.1, .ref q92, .ref q132, .int (0 : Int32), .int (-1 : Int32), .int 0]))] ++ (wB cI cZ u46 zB) ++ (wB cI cZ u70 zB) ++ (wV cI cZ u81 zV) ++ [(q92, .inl (cI, c1, .inl f)), (q132, .inl (cI, (c1 * 7), .inl (fun _ => 0)))]) H := hP
        have hD : va_D A ([(a0, .inr (2, [.int ((1 : Int32) + (M_Math_floorMod (p0 - (1 : Int32)) (4 : Int32))), .int (M_Math_floorMod p1 (3 : Int32)), .ref u46.1.1, .ref u70.1.1, .ref u81.1.1, .ref q92, .ref q132, .int (0 : Int32), .int (-1 : Int32), .int 0]))] ++ (wB cI cZ u46 zB) ++ (wB cI cZ u70 zB) ++ (wV cI cZ u81 zV) ++ [(q92, .inl (cI, c1, .inl f)), (q132, .inl (cI, (c1 * 7), .inl (fun _ => 0)))]) := hD
        refine lv_aload_n hx hb d_C_init_147 rfl (lv_at hl 0 rfl) ?_
        refine lv_iconst (v := 0) hx hb d_C_init_148 (by decide) ?_
        refine va_put (D := D) (ci := 2) (v := .int (0 : Int32)) (ty := .int) (C := R_C) (T := T_C) (N := 10) hx hb htb i_C ty_C tyo_C nm_C hown hK hP hD hS 0 rfl rfl 9 (by decide) (htb _ k_C_54) (fun _ h9 => h9) rfl (by decide +kernel) rfl rfl (Nat.le_of_ble_eq_true rfl) d_C_init_149 (fun H locs hP hD hS => ?_)
        have hP : va_P D vwCl ([(a0, .inr (2, [.int ((1 : Int32) + (M_Math_floorMod (p0 - (1 : Int32)) (4 : Int32))), .int (M_Math_floorMod p1 (3 : Int32)), .ref u46.1.1, .ref u70.1.1, .ref u81.1.1, .ref q92, .ref q132, .int (0 : Int32), .int (-1 : Int32), .int (0 : Int32)]))] ++ (wB cI cZ u46 zB) ++ (wB cI cZ u70 zB) ++ (wV cI cZ u81 zV) ++ [(q92, .inl (cI, c1, .inl f)), (q132, .inl (cI, (c1 * 7), .inl (fun _ => 0)))]) H := hP
        have hD : va_D A ([(a0, .inr (2, [.int ((1 : Int32) + (M_Math_floorMod (p0 - (1 : Int32)) (4 : Int32))), .int (M_Math_floorMod p1 (3 : Int32)), .ref u46.1.1, .ref u70.1.1, .ref u81.1.1, .ref q92, .ref q132, .int (0 : Int32), .int (-1 : Int32), .int (0 : Int32)]))] ++ (wB cI cZ u46 zB) ++ (wB cI cZ u70 zB) ++ (wV cI cZ u81 zV) ++ [(q92, .inl (cI, c1, .inl f)), (q132, .inl (cI, (c1 * 7), .inl (fun _ => 0)))]) := hD
        have hP9 : va_P D vwCl (wC cI cZ ((a0, q92, q132), (((1 : Int32) + (M_Math_floorMod (p0 - (1 : Int32)) (4 : Int32))), (M_Math_floorMod p1 (3 : Int32))), (c1, c1 * 7), u46, u70, u81) ((0, -1, 0), zB, zB, zV, f, zF)) H := hP.sub [0, 1, 2, 3, 4, 5, 6, 7, 8, 9, 10, 11, 12, 13, 14, 15, 16, 17, 18] rfl
        have hD9 : va_D A (wC cI cZ ((a0, q92, q132), (((1 : Int32) + (M_Math_floorMod (p0 - (1 : Int32)) (4 : Int32))), (M_Math_floorMod p1 (3 : Int32))), (c1, c1 * 7), u46, u70, u81) ((0, -1, 0), zB, zB, zV, f, zF)) := hD.sub [0, 1, 2, 3, 4, 5, 6, 7, 8, 9, 10, 11, 12, 13, 14, 15, 16, 17, 18] (by decide) rfl
        refine W.widen (k := 18) (n := 2227) (by omega) (by omega) ?_
        exact W.vret hx hb hr (fun t ht hW => ⟨⟨(((a0, q92, q132), (((1 : Int32) + (M_Math_floorMod (p0 - (1 : Int32)) (4 : Int32))), (M_Math_floorMod p1 (3 : Int32))), (c1, c1 * 7), u46, u70, u81), f), rfl, ⟨rfl, rfl, rfl, f46, f70, f81, hf⟩, by dsimp only; rw [ht]; exact ⟨hP9, hD9⟩⟩, hS.F ht⟩) hS.2.2 d_C_init_152
      · have hi2 : i < c1 := by
          rcases Nat.lt_or_ge i c1 with q | q
          · exact q
          · exact absurd (nI_le q (by omega)) c_107
        refine lv_aload_n hx hb d_C_init_110 rfl (lv_at hl 0 rfl) ?_
        refine va_get (D := D) (ci := 2) (v := .ref q92) (C := R_C) (T := T_C) (N := 10) hx hb htb i_C hown hK hP 0 rfl rfl 5 (by decide) (htb _ k_C_41) (fun _ h9 => h9) rfl d_C_init_111 ?_
        refine lv_iload hx hb d_C_init_114 (lv_at hl 5 rfl) ?_
        refine lv_iconst (v := 4) hx hb d_C_init_116 (by decide) ?_
        refine va_iast hx hb hK hP hD hS 17 0 rfl rfl (vp_in_nI hi2 (by omega)) d_C_init_117 (fun H locs hP hD hS => ?_)
        have hP : va_P D vwCl ([(a0, .inr (2, [.int ((1 : Int32) + (M_Math_floorMod (p0 - (1 : Int32)) (4 : Int32))), .int (M_Math_floorMod p1 (3 : Int32)), .ref u46.1.1, .ref u70.1.1, .ref u81.1.1, .ref q92, .null, .int 0, .int 0, .int 0]))] ++ (wB cI cZ u46 zB) ++ (wB cI cZ u70 zB) ++ (wV cI cZ u81 zV) ++ [(q92, .inl (cI, c1, .inl (upd f (nI i).toNatClampNeg 4)))]) H := hP
        have hD : va_D A ([(a0, .inr (2, [.int ((1 : Int32) + (M_Math_floorMod (p0 - (1 : Int32)) (4 : Int32))), .int (M_Math_floorMod p1 (3 : Int32)), .ref u46.1.1, .ref u70.1.1, .ref u81.1.1, .ref q92, .null, .int 0, .int 0, .int 0]))] ++ (wB cI cZ u46 zB) ++ (wB cI cZ u70 zB) ++ (wV cI cZ u81 zV) ++ [(q92, .inl (cI, c1, .inl (upd f (nI i).toNatClampNeg 4)))]) := hD
        refine lv_iinc (v := nI (i + 1)) (lv' := [(5, .int (nI (i + 1))), (0, .ref a0), (1, .int p0), (2, .int p1), (3, .int p2), (4, .int p3)]) hx hb d_C_init_118 hl (k := 5) rfl (nI_1 i) (by decide) rfl (fun ls hl => ?_)
        refine lv_goto (tgt := 100) hx hb d_C_init_121 (by decide) ?_
        have hl := lv_sub (l' := [(0, .ref a0), (1, .int p0), (2, .int p1), (3, .int p2), (4, .int p3), (5, .int (nI (i + 1)))]) hl [1, 2, 3, 4, 5, 0] rfl
        refine ih (i + 1) _ _ _ _ hi2 (by omega) (fun j hj => ?_) hP hD hS hl
        rw [nI_clamp (by omega)]
        by_cases hj2 : j = i
        · rw [hj2]; exact pk_us
        · rw [pk_un hj2]; exact hf j (by omega)
  have hl := lv_sub (l' := [(0, .ref a0), (1, .int p0), (2, .int p1), (3, .int p2), (4, .int p3), (5, .int (nI 0))]) hl [1, 2, 3, 4, 5, 0] rfl
  exact cut_100 (c1 + 1) 0 _ _ _ _ (Nat.zero_le _) (by omega) (fun j hj => absurd hj (Nat.not_lt_zero j)) hP hD hS hl
