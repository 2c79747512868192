-- the law's helpers: what they need, and a call that throws
abbrev tyL (cI cZ cL : ClassId) : List (ClassId × FieldType) := [(cI, .int), (cZ, .boolean), (cL, .long)]
abbrev Fl : Type := Nat → Int64
def wCo (cI cZ cL : ClassId) (g : GC) (x : Cs) (ao : Nat) (f : Fl) : va_W := wC cI cZ g x ++ [(ao, .inl (cL, 1, .inr (.inl f)))]
def PcH (D : va_G) (cl : List vw_C) (tys : List (ClassId × FieldType)) (av : List Value) (wc : va_W) : Array Value → State → Prop := va_Pc av (fun U => va_P D cl wc U.heap ∧ va_K D cl tys U ∧ va_D (fun _ => True) wc ∧ ThrA (fun _ => False) U U.heap ∧ va_Nc EA EI U)
theorem blindH {D : va_G} {cl : List vw_C} {tys : List (ClassId × FieldType)} {av : List Value} {wc : va_W} : FrameBlind (PcH D cl tys av wc) := fun a U g mk q => ⟨q.1, q.2.1, va_K.moved (u := U) (U := U.calling g mk a) (Vm.Alike.refl U.vm) q.2.2.1, q.2.2.2.1, ThrA.at (s := U) (U := U.calling g mk a) (H0 := U.heap) (H := U.heap) (State.WarmedH.refl U) (fun _ _ _ => rfl) q.2.2.2.2.1, va_Nc.moved (u := U) (U := U.calling g mk a) (Vm.Alike.refl U.vm) q.2.2.2.2.2⟩
theorem vP_same {D : va_G} {cl : List vw_C} {Wd : va_W} {H H1 : Heap} (hP : va_P D cl Wd H) (hk : ∀ q : Nat, q < H.size → ¬ False → H1[q]? = H[q]?) : va_P D cl Wd H1 := fun k q hq => (hP k q hq).kept (hk q.1 (hP k q hq).lt id)
theorem one_in0 : vp_in (0 : Int32) 1 := by rw [← nI_0]; exact vp_in_nI (by omega) (by decide)
theorem out0 {f : Fl} {v : Int64} : vp_updL f (0 : Int32).toNatClampNeg v 0 = v := if_pos (by decide)
section MyHelp
variable {p : Program} {l : Launch} {e : Env} {R : Room} {s : State} {m : MethodId} {args : Array Value} {below : List Frame} {meth : Method} {c : Code} {Q : State → Prop}
variable {cc bytes : ByteArray} {pc nL maxL n index : Nat} {ls : Array Slot} {rest As st0 : List Value} {D : va_G} {cl : List vw_C} {tys : List (ClassId × FieldType)} {Ts wsy : List Cond} {own C : String} {y : MethodName} {ret : Option FieldType} {rm : Room} {b : Nat} {wc Wd : va_W} {E0 : String} {A : Nat → Prop}
theorem cth (SF : CallFix p m c cc nL s args Ts own) (hM : vx_Met l y wsy rm (PcT D cl tys (.ref b :: As) wc) (va_Qi (fun (_ : Int32) (_ : Unit) => False) (fun _ _ => True) (fun _ => False)) (XT E0) 1 6 (fun _ => False)) (cw : CallW R s args own C index y bytes maxL ret wsy rm 1 6 n) (hK : va_K D cl tys s) (hP : va_P D cl Wd s.heap) (is : List Nat) (hs : is.filterMap (fun i => Wd[i]?) = wc) (hT : ThrA (fun _ => False) s s.heap) {ci : Nat} {fs : List Value} {T : u_T} {N : Nat} (hrec : wc[0]? = some (b, .inr (ci, fs))) (hc : cl[ci]? = some (C, T, N)) (hn : As.length = n) (hsz : ls.size = nL) (hst : st0 = As.reverse ++ .ref b :: rest) (hrm : (rest.map fun v => v.category).sum ≤ 8) (hdg : decode cc pc = .ok (.invokevirtual index, 3)) (hf : 1 ≤ R.cells ∧ 6 ≤ R.slots)
    (kx : ∀ (q : Addr) (ce : Cell) (H1 : Heap) (locs1 : List Loc), va_P D cl Wd H1 → va_S A s.heap H1 locs1 → H1[q]? = some ce → ce.vm = .none → s.vm.findClass E0 = some ce.cls → vx_W p l e R s m args below meth c H1 locs1 1 6 Q (F0 m pc ls rest) q) : W p l e R s m args below meth c s.heap [] 0 0 Q (F0 m pc ls st0) := by
  have hPc := hP.sub is hs
  refine vx_calli (A0 := A) (H0 := s.heap) (vx_runV (As := As) (rest := rest) SF hM cw ⟨blindT, va_recv hK hPc hc hrec, fun U hU hW => ⟨rfl, by rw [hU]; exact hPc, va_K.moved hW.alike hK, by rw [hU]; exact hT.at hW (fun _ _ _ => rfl)⟩⟩ rfl hn hsz hst (lv_room hrm) hdg ⟨by have := hf.1; omega, by have := hf.2; omega⟩) va_S.rf (fun _ _ h => h.elim) (fun _ h => h.elim) (fun _ _ h => h.elim) (fun E ce q9 u t H1 locs1 ht _ _ hE _ hk hS hce hcv hcl => ?_) (fun r u t H1 locs1 _ _ hw _ _ _ _ => absurd hw id)
  have hE : E = E0 := hE
  rw [hE] at hcl
  have h9 := kx q9 ce H1 locs1 (vP_same hP hk) hS hce hcv hcl
  exact h9
end MyHelp
