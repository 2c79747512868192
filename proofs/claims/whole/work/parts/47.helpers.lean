abbrev rm_L : Room := { frames := 9, cells := 1, slots := 6, locals := 220 }
abbrev w_L_access : List Cond := .codeWith y_L_access b_L_access 6 (some .int) hh_L_access :: tbW
set_option maxHeartbeats 4000000 in
set_option maxRecDepth 100000 in
theorem c_L_access_t (l : Launch) (hlt : l.stackTraces = false) (D : va_G) (cI cZ cL : ClassId) (g : GC) (hg : okC g) (x : Cs) (ao : Nat) (f : Fl) (p0 p1 p2 : Int32) (hbad : p0 < 0 ∨ ¬ p0 < g.2.1.1) : Met l y_L_access w_L_access rm_L (PcH D vwCl (tyL cI cZ cL) [.ref g.1.1, .int p0, .int p1, .int p2, .ref ao] (wCo cI cZ cL g x ao f)) (va_Qi (fun (r : Int32) (u : Cs × Fl) => r = 1 ∧ u.1 = x) (fun (u : Cs × Fl) (t : State) => va_P D vwCl (wCo cI cZ cL g u.1 ao u.2) t.heap) (Aw (wCo cI cZ cL g x ao f))) 1 6 (Aw (wCo cI cZ cL g x ao f)) := by
  refine va_MetW (cc := b_L_access) (maxL := 6) (ret := (some .int)) (hh := hh_L_access) (by decide) rfl ?_
  intro p e s m args below meth c s₁ B hml hv
  obtain ⟨rfl, hP, hK, hD0, hT, hNc⟩ := hv
  have hx := B.exec
  have hb := B.bytes
  have hr := B.returns
  have htb : ∀ w ∈ tbW, w.before _ s = true := fun w h => atoms_spec (ws := w_L_access) B.pre w (List.mem_cons_of_mem _ h)
  have hown : s.vm.findClass "CacheLevelsLaw" = some m.cls := findClass_of_methodNamed B.named
  have hlocks := B.notSynchronized
  have htab := vx_table (x := y_L_access) B (htb _ cd_L_access)
  have hK2 := hK.sub [0, 1] (tys' := tyK cI cZ) rfl
  have hD : va_D (Aw (wCo cI cZ cL g x ao f)) (wCo cI cZ cL g x ao f) := ⟨hD0.1, fun k q hk => ⟨k, q.2, hk⟩⟩
  have hS : va_S (Aw (wCo cI cZ cL g x ao f)) s.heap s.heap [] := va_S.rf
  have hl := lv_entry ([.ref g.1.1, .int p0, .int p1, .int p2, .ref ao]) (n := 6) (Nat.le_of_ble_eq_true rfl)
  rw [lg_entry_eq]
  generalize (lg_sl ([.ref g.1.1, .int p0, .int p1, .int p2, .ref ao]) ++ List.replicate (6 - (lg_sl ([.ref g.1.1, .int p0, .int p1, .int p2, .ref ao])).length) Slot.unset).toArray = ls at hl ⊢
  have hl : lv_has ls 6 [(0, .ref g.1.1), (1, .int p0), (2, .int p1), (3, .int p2), (4, .ref ao)] := hl
  refine lv_aload hx hb d_L_access_0 (lv_at hl 4 rfl) ?_
  refine lv_iconst (v := 0) hx hb d_L_access_2 (by decide) ?_
  refine lv_aload_n hx hb d_L_access_3 rfl (lv_at hl 0 rfl) ?_
  refine lv_iload_n hx hb d_L_access_4 rfl (lv_at hl 1 rfl) ?_
  refine lv_iload_n hx hb d_L_access_5 rfl (lv_at hl 2 rfl) ?_
  refine lv_iload_n hx hb d_L_access_6 rfl (lv_at hl 3 rfl) ?_
  refine cth (A := Aw (wCo cI cZ cL g x ao f)) (As := [.int p0, .int p1, .int p2]) (rest := [.int 0, .ref ao]) ⟨hx, hb, hml, hown, htb⟩ (t_C_access_c l hlt D cI cZ g hg x p0 p1 p2 hbad) (cwvT (n := 3) htb cd_C_access k_L_7 in_C_access se_C_access ini_C hd_C_access ⟨Nat.le_of_ble_eq_true rfl, Nat.le_of_ble_eq_true rfl⟩) hK2 hP [0, 1, 2, 3, 4, 5, 6, 7, 8, 9, 10, 11, 12, 13, 14, 15, 16, 17, 18] rfl hT (ci := 2) rfl rfl rfl hl.1 rfl (Nat.le_of_ble_eq_true rfl) d_L_access_7 ⟨Nat.le_of_ble_eq_true rfl, Nat.le_of_ble_eq_true rfl⟩ (fun q ce H1 locs1 hP hS hce hcv hcl => ?_)
  refine vx_catch (own := "CacheLevelsLaw") (name := EI) hown [] ⟨0, 12, 15, 13⟩ [⟨0, 12, 19, 15⟩] (by rw [htab]; rfl) (fun z hz => by cases hz) (by decide) (by decide) (htb _ k_L_13) (va_Nw.use rfl (hT.1 (.castable EI EI) (by decide))) hce hcv hcl ?_
  refine lv_astore (i := 5) (lv' := (5, .ref q) :: [(0, .ref g.1.1), (1, .int p0), (2, .int p1), (3, .int p2), (4, .ref ao)]) hx hb d_L_access_15 hl (by decide) rfl (fun ls hl => ?_)
  refine lv_iconst (v := 1) hx hb d_L_access_17 (by decide) ?_
  exact W.iret (v := 1) hx hb hr (fun t ht hW => ⟨⟨1, (x, f), rfl, ⟨rfl, rfl⟩, by dsimp only; rw [ht]; exact hP⟩, hS.F ht⟩) hS.2.2 d_L_access_18
set_option maxHeartbeats 4000000 in
set_option maxRecDepth 100000 in
theorem c_L_access_k (l : Launch) (hlt : l.stackTraces = false) (D : va_G) (cI cZ cL : ClassId) (g : GC) (hg : okC g) (x : Cs) (ao : Nat) (f : Fl) (p0 p1 p2 : Int32) (hv0 : ¬ p0 < 0) (hv1 : p0 < g.2.1.1) (hk0 : ¬ p2 = 0) (hk1 : ¬ p2 = 1) : Met l y_L_access w_L_access rm_L (PcH D vwCl (tyL cI cZ cL) [.ref g.1.1, .int p0, .int p1, .int p2, .ref ao] (wCo cI cZ cL g x ao f)) (va_Qi (fun (r : Int32) (u : Cs × Fl) => r = 2 ∧ u.1 = x) (fun (u : Cs × Fl) (t : State) => va_P D vwCl (wCo cI cZ cL g u.1 ao u.2) t.heap) (Aw (wCo cI cZ cL g x ao f))) 1 6 (Aw (wCo cI cZ cL g x ao f)) := by
  refine va_MetW (cc := b_L_access) (maxL := 6) (ret := (some .int)) (hh := hh_L_access) (by decide) rfl ?_
  intro p e s m args below meth c s₁ B hml hv
  obtain ⟨rfl, hP, hK, hD0, hT, hNc⟩ := hv
  have hx := B.exec
  have hb := B.bytes
  have hr := B.returns
  have htb : ∀ w ∈ tbW, w.before _ s = true := fun w h => atoms_spec (ws := w_L_access) B.pre w (List.mem_cons_of_mem _ h)
  have hown : s.vm.findClass "CacheLevelsLaw" = some m.cls := findClass_of_methodNamed B.named
  have hlocks := B.notSynchronized
  have htab := vx_table (x := y_L_access) B (htb _ cd_L_access)
  have hK2 := hK.sub [0, 1] (tys' := tyK cI cZ) rfl
  have hD : va_D (Aw (wCo cI cZ cL g x ao f)) (wCo cI cZ cL g x ao f) := ⟨hD0.1, fun k q hk => ⟨k, q.2, hk⟩⟩
  have hS : va_S (Aw (wCo cI cZ cL g x ao f)) s.heap s.heap [] := va_S.rf
  have hl := lv_entry ([.ref g.1.1, .int p0, .int p1, .int p2, .ref ao]) (n := 6) (Nat.le_of_ble_eq_true rfl)
  rw [lg_entry_eq]
  generalize (lg_sl ([.ref g.1.1, .int p0, .int p1, .int p2, .ref ao]) ++ List.replicate (6 - (lg_sl ([.ref g.1.1, .int p0, .int p1, .int p2, .ref ao])).length) Slot.unset).toArray = ls at hl ⊢
  have hl : lv_has ls 6 [(0, .ref g.1.1), (1, .int p0), (2, .int p1), (3, .int p2), (4, .ref ao)] := hl
  refine lv_aload hx hb d_L_access_0 (lv_at hl 4 rfl) ?_
  refine lv_iconst (v := 0) hx hb d_L_access_2 (by decide) ?_
  refine lv_aload_n hx hb d_L_access_3 rfl (lv_at hl 0 rfl) ?_
  refine lv_iload_n hx hb d_L_access_4 rfl (lv_at hl 1 rfl) ?_
  refine lv_iload_n hx hb d_L_access_5 rfl (lv_at hl 2 rfl) ?_
  refine lv_iload_n hx hb d_L_access_6 rfl (lv_at hl 3 rfl) ?_
  refine cth (A := Aw (wCo cI cZ cL g x ao f)) (As := [.int p0, .int p1, .int p2]) (rest := [.int 0, .ref ao]) ⟨hx, hb, hml, hown, htb⟩ (t_C_access_k l hlt D cI cZ g hg x p0 p1 p2 hv0 hv1 hk0 hk1) (cwvT (n := 3) htb cd_C_access k_L_7 in_C_access se_C_access ini_C hd_C_access ⟨Nat.le_of_ble_eq_true rfl, Nat.le_of_ble_eq_true rfl⟩) hK2 hP [0, 1, 2, 3, 4, 5, 6, 7, 8, 9, 10, 11, 12, 13, 14, 15, 16, 17, 18] rfl hT (ci := 2) rfl rfl rfl hl.1 rfl (Nat.le_of_ble_eq_true rfl) d_L_access_7 ⟨Nat.le_of_ble_eq_true rfl, Nat.le_of_ble_eq_true rfl⟩ (fun q ce H1 locs1 hP hS hce hcv hcl => ?_)
  refine vx_catch (own := "CacheLevelsLaw") (name := EA) hown [⟨0, 12, 15, 13⟩] ⟨0, 12, 19, 15⟩ [] (by rw [htab]; rfl) (fun z hz => ?_) (by decide) (by decide) (htb _ k_L_15) (va_Nw.use rfl (hT.1 (.castable EA EA) (by decide))) hce hcv hcl ?_
  · rcases List.mem_cons.mp hz with rfl | hz
    · exact Or.inr ⟨by decide, EI, htb _ k_L_13, hNc⟩
    · cases hz
  refine lv_astore (i := 5) (lv' := (5, .ref q) :: [(0, .ref g.1.1), (1, .int p0), (2, .int p1), (3, .int p2), (4, .ref ao)]) hx hb d_L_access_19 hl (by decide) rfl (fun ls hl => ?_)
  refine lv_iconst (v := 2) hx hb d_L_access_21 (by decide) ?_
  exact W.iret (v := 2) hx hb hr (fun t ht hW => ⟨⟨2, (x, f), rfl, ⟨rfl, rfl⟩, by dsimp only; rw [ht]; exact hP⟩, hS.F ht⟩) hS.2.2 d_L_access_22
set_option maxHeartbeats 4000000 in
set_option maxRecDepth 100000 in
theorem c_L_access_o (l : Launch) (D : va_G) (cI cZ cL : ClassId) (g : GC) (hg : okC g) (x : Cs) (ao : Nat) (f : Fl) (p0 p1 p2 : Int32) (hv0 : ¬ p0 < 0) (hv1 : p0 < g.2.1.1) (hk : p2 = 0 ∨ p2 = 1) : Met l y_L_access w_L_access rm_L (PcH D vwCl (tyL cI cZ cL) [.ref g.1.1, .int p0, .int p1, .int p2, .ref ao] (wCo cI cZ cL g x ao f)) (va_Qi (fun (r : Int32) (u : Cs × Fl) => r = 0 ∧ u.2 0 = (M_C_access g x p0 p1 p2).1.toInt64 ∧ u.1 = (M_C_access g x p0 p1 p2).2) (fun (u : Cs × Fl) (t : State) => va_P D vwCl (wCo cI cZ cL g u.1 ao u.2) t.heap) (Aw (wCo cI cZ cL g x ao f))) 1 6 (Aw (wCo cI cZ cL g x ao f)) := by
  refine va_MetW (cc := b_L_access) (maxL := 6) (ret := (some .int)) (hh := hh_L_access) (by decide) rfl ?_
  intro p e s m args below meth c s₁ B hml hv
  obtain ⟨rfl, hP, hK, hD0, hT, hNc⟩ := hv
  have hx := B.exec
  have hb := B.bytes
  have hr := B.returns
  have htb : ∀ w ∈ tbW, w.before _ s = true := fun w h => atoms_spec (ws := w_L_access) B.pre w (List.mem_cons_of_mem _ h)
  have hown : s.vm.findClass "CacheLevelsLaw" = some m.cls := findClass_of_methodNamed B.named
  have hlocks := B.notSynchronized
  have htab := vx_table (x := y_L_access) B (htb _ cd_L_access)
  have hK2 := hK.sub [0, 1] (tys' := tyK cI cZ) rfl
  have hD : va_D (Aw (wCo cI cZ cL g x ao f)) (wCo cI cZ cL g x ao f) := ⟨hD0.1, fun k q hk => ⟨k, q.2, hk⟩⟩
  have hS : va_S (Aw (wCo cI cZ cL g x ao f)) s.heap s.heap [] := va_S.rf
  have hl := lv_entry ([.ref g.1.1, .int p0, .int p1, .int p2, .ref ao]) (n := 6) (Nat.le_of_ble_eq_true rfl)
  rw [lg_entry_eq]
  generalize (lg_sl ([.ref g.1.1, .int p0, .int p1, .int p2, .ref ao]) ++ List.replicate (6 - (lg_sl ([.ref g.1.1, .int p0, .int p1, .int p2, .ref ao])).length) Slot.unset).toArray = ls at hl ⊢
  have hl : lv_has ls 6 [(0, .ref g.1.1), (1, .int p0), (2, .int p1), (3, .int p2), (4, .ref ao)] := hl
  refine lv_aload hx hb d_L_access_0 (lv_at hl 4 rfl) ?_
  refine lv_iconst (v := 0) hx hb d_L_access_2 (by decide) ?_
  refine lv_aload_n hx hb d_L_access_3 rfl (lv_at hl 0 rfl) ?_
  refine lv_iload_n hx hb d_L_access_4 rfl (lv_at hl 1 rfl) ?_
  refine lv_iload_n hx hb d_L_access_5 rfl (lv_at hl 2 rfl) ?_
  refine lv_iload_n hx hb d_L_access_6 rfl (lv_at hl 3 rfl) ?_
  refine cwi (As := [.int p0, .int p1, .int p2]) (rest := [.int 0, .ref ao]) (wldC := fun u => (wCo cI cZ cL g u ao f)) ⟨hx, hb, hml, hown, htb⟩ (c_C_access l D cI cZ g hg x p0 p1 p2 hv0 hv1 hk) (cwv (n := 3) htb cd_C_access k_L_7 in_C_access se_C_access ini_C hd_C_access ⟨Nat.le_of_ble_eq_true rfl, Nat.le_of_ble_eq_true rfl⟩) hK2 hP hD hS [0, 1, 2, 3, 4, 5, 6, 7, 8, 9, 10, 11, 12, 13, 14, 15, 16, 17, 18] [19] [1, 2, 3, 4, 5, 6, 7, 8, 9, 10, 11, 12, 13, 14, 15, 16, 17, 18, 19, 0] rfl rfl (by decide) (by decide) rfl (fun _ => rfl) (fun _ => rfl) (ci := 2) rfl rfl rfl hl.1 rfl (Nat.le_of_ble_eq_true rfl) d_L_access_7 ⟨Nat.zero_le _, Nat.zero_le _⟩ (fun r u H locs hw hP hD hS => ?_)
  refine lv_i2l (v := r.toInt64) hx hb d_L_access_10 rfl ?_
  refine va_last hx hb hK hP hD hS 19 2 rfl rfl one_in0 d_L_access_11 (fun H1 locs1 hP hD hS => ?_)
  refine lv_goto (tgt := 23) hx hb d_L_access_12 (by decide) ?_
  refine lv_iconst (v := 0) hx hb d_L_access_23 (by decide) ?_
  refine W.widen (k := 1) (n := 6) (Nat.zero_le _) (Nat.zero_le _) ?_
  exact W.iret (v := 0) hx hb hr (fun t ht hW => ⟨⟨0, (u, vp_updL f (0 : Int32).toNatClampNeg r.toInt64), rfl, ⟨rfl, by rw [← hw]; exact out0 (f := f) (v := r.toInt64), by rw [← hw]⟩, by dsimp only; rw [ht]; exact hP⟩, hS.F ht⟩) hS.2.2 d_L_access_24
abbrev w_L_quota : List Cond := .codeWith y_L_quota b_L_quota 5 (some .int) hh_L_quota :: tbW
set_option maxHeartbeats 4000000 in
set_option maxRecDepth 100000 in
theorem c_L_quota_t (l : Launch) (hlt : l.stackTraces = false) (D : va_G) (cI cZ cL : ClassId) (g : GC) (hg : okC g) (x : Cs) (ao : Nat) (f : Fl) (p0 p1 : Int32) (hbad : p0 < 0 ∨ ¬ p0 < g.2.1.1) : Met l y_L_quota w_L_quota rm_L (PcH D vwCl (tyL cI cZ cL) [.ref g.1.1, .int p0, .int p1, .ref ao] (wCo cI cZ cL g x ao f)) (va_Qi (fun (r : Int32) (u : Cs × Fl) => r = 1 ∧ u.1 = x) (fun (u : Cs × Fl) (t : State) => va_P D vwCl (wCo cI cZ cL g u.1 ao u.2) t.heap) (Aw (wCo cI cZ cL g x ao f))) 1 6 (Aw (wCo cI cZ cL g x ao f)) := by
  refine va_MetW (cc := b_L_quota) (maxL := 5) (ret := (some .int)) (hh := hh_L_quota) (by decide) rfl ?_
  intro p e s m args below meth c s₁ B hml hv
  obtain ⟨rfl, hP, hK, hD0, hT, hNc⟩ := hv
  have hx := B.exec
  have hb := B.bytes
  have hr := B.returns
  have htb : ∀ w ∈ tbW, w.before _ s = true := fun w h => atoms_spec (ws := w_L_quota) B.pre w (List.mem_cons_of_mem _ h)
  have hown : s.vm.findClass "CacheLevelsLaw" = some m.cls := findClass_of_methodNamed B.named
  have hlocks := B.notSynchronized
  have htab := vx_table (x := y_L_quota) B (htb _ cd_L_quota)
  have hK2 := hK.sub [0, 1] (tys' := tyK cI cZ) rfl
  have hD : va_D (Aw (wCo cI cZ cL g x ao f)) (wCo cI cZ cL g x ao f) := ⟨hD0.1, fun k q hk => ⟨k, q.2, hk⟩⟩
  have hS : va_S (Aw (wCo cI cZ cL g x ao f)) s.heap s.heap [] := va_S.rf
  have hl := lv_entry ([.ref g.1.1, .int p0, .int p1, .ref ao]) (n := 5) (Nat.le_of_ble_eq_true rfl)
  rw [lg_entry_eq]
  generalize (lg_sl ([.ref g.1.1, .int p0, .int p1, .ref ao]) ++ List.replicate (5 - (lg_sl ([.ref g.1.1, .int p0, .int p1, .ref ao])).length) Slot.unset).toArray = ls at hl ⊢
  have hl : lv_has ls 5 [(0, .ref g.1.1), (1, .int p0), (2, .int p1), (3, .ref ao)] := hl
  refine lv_aload_n hx hb d_L_quota_0 rfl (lv_at hl 3 rfl) ?_
  refine lv_iconst (v := 0) hx hb d_L_quota_1 (by decide) ?_
  refine lv_aload_n hx hb d_L_quota_2 rfl (lv_at hl 0 rfl) ?_
  refine lv_iload_n hx hb d_L_quota_3 rfl (lv_at hl 1 rfl) ?_
  refine lv_iload_n hx hb d_L_quota_4 rfl (lv_at hl 2 rfl) ?_
  refine cth (A := Aw (wCo cI cZ cL g x ao f)) (As := [.int p0, .int p1]) (rest := [.int 0, .ref ao]) ⟨hx, hb, hml, hown, htb⟩ (t_C_quota_c l hlt D cI cZ g hg x p0 p1 hbad) (cwvT (n := 2) htb cd_C_quota k_L_17 in_C_quota se_C_quota ini_C hd_C_quota ⟨Nat.le_of_ble_eq_true rfl, Nat.le_of_ble_eq_true rfl⟩) hK2 hP [0, 1, 2, 3, 4, 5, 6, 7, 8, 9, 10, 11, 12, 13, 14, 15, 16, 17, 18] rfl hT (ci := 2) rfl rfl rfl hl.1 rfl (Nat.le_of_ble_eq_true rfl) d_L_quota_5 ⟨Nat.le_of_ble_eq_true rfl, Nat.le_of_ble_eq_true rfl⟩ (fun q ce H1 locs1 hP hS hce hcv hcl => ?_)
  refine vx_catch (own := "CacheLevelsLaw") (name := EI) hown [] ⟨0, 10, 13, 13⟩ [⟨0, 10, 17, 15⟩] (by rw [htab]; rfl) (fun z hz => by cases hz) (by decide) (by decide) (htb _ k_L_13) (va_Nw.use rfl (hT.1 (.castable EI EI) (by decide))) hce hcv hcl ?_
  refine lv_astore (i := 4) (lv' := (4, .ref q) :: [(0, .ref g.1.1), (1, .int p0), (2, .int p1), (3, .ref ao)]) hx hb d_L_quota_13 hl (by decide) rfl (fun ls hl => ?_)
  refine lv_iconst (v := 1) hx hb d_L_quota_15 (by decide) ?_
  exact W.iret (v := 1) hx hb hr (fun t ht hW => ⟨⟨1, (x, f), rfl, ⟨rfl, rfl⟩, by dsimp only; rw [ht]; exact hP⟩, hS.F ht⟩) hS.2.2 d_L_quota_16
set_option maxHeartbeats 4000000 in
set_option maxRecDepth 100000 in
theorem c_L_quota_k (l : Launch) (hlt : l.stackTraces = false) (D : va_G) (cI cZ cL : ClassId) (g : GC) (hg : okC g) (x : Cs) (ao : Nat) (f : Fl) (p0 p1 : Int32) (hv0 : ¬ p0 < 0) (hv1 : p0 < g.2.1.1) (hw : p1 < 0 ∨ ¬ p1 ≤ 4) : Met l y_L_quota w_L_quota rm_L (PcH D vwCl (tyL cI cZ cL) [.ref g.1.1, .int p0, .int p1, .ref ao] (wCo cI cZ cL g x ao f)) (va_Qi (fun (r : Int32) (u : Cs × Fl) => r = 2 ∧ u.1 = x) (fun (u : Cs × Fl) (t : State) => va_P D vwCl (wCo cI cZ cL g u.1 ao u.2) t.heap) (Aw (wCo cI cZ cL g x ao f))) 1 6 (Aw (wCo cI cZ cL g x ao f)) := by
  refine va_MetW (cc := b_L_quota) (maxL := 5) (ret := (some .int)) (hh := hh_L_quota) (by decide) rfl ?_
  intro p e s m args below meth c s₁ B hml hv
  obtain ⟨rfl, hP, hK, hD0, hT, hNc⟩ := hv
  have hx := B.exec
  have hb := B.bytes
  have hr := B.returns
  have htb : ∀ w ∈ tbW, w.before _ s = true := fun w h => atoms_spec (ws := w_L_quota) B.pre w (List.mem_cons_of_mem _ h)
  have hown : s.vm.findClass "CacheLevelsLaw" = some m.cls := findClass_of_methodNamed B.named
  have hlocks := B.notSynchronized
  have htab := vx_table (x := y_L_quota) B (htb _ cd_L_quota)
  have hK2 := hK.sub [0, 1] (tys' := tyK cI cZ) rfl
  have hD : va_D (Aw (wCo cI cZ cL g x ao f)) (wCo cI cZ cL g x ao f) := ⟨hD0.1, fun k q hk => ⟨k, q.2, hk⟩⟩
  have hS : va_S (Aw (wCo cI cZ cL g x ao f)) s.heap s.heap [] := va_S.rf
  have hl := lv_entry ([.ref g.1.1, .int p0, .int p1, .ref ao]) (n := 5) (Nat.le_of_ble_eq_true rfl)
  rw [lg_entry_eq]
  generalize (lg_sl ([.ref g.1.1, .int p0, .int p1, .ref ao]) ++ List.replicate (5 - (lg_sl ([.ref g.1.1, .int p0, .int p1, .ref ao])).length) Slot.unset).toArray = ls at hl ⊢
  have hl : lv_has ls 5 [(0, .ref g.1.1), (1, .int p0), (2, .int p1), (3, .ref ao)] := hl
  refine lv_aload_n hx hb d_L_quota_0 rfl (lv_at hl 3 rfl) ?_
  refine lv_iconst (v := 0) hx hb d_L_quota_1 (by decide) ?_
  refine lv_aload_n hx hb d_L_quota_2 rfl (lv_at hl 0 rfl) ?_
  refine lv_iload_n hx hb d_L_quota_3 rfl (lv_at hl 1 rfl) ?_
  refine lv_iload_n hx hb d_L_quota_4 rfl (lv_at hl 2 rfl) ?_
  refine cth (A := Aw (wCo cI cZ cL g x ao f)) (As := [.int p0, .int p1]) (rest := [.int 0, .ref ao]) ⟨hx, hb, hml, hown, htb⟩ (t_C_quota_w l hlt D cI cZ g hg x p0 p1 hv0 hv1 hw) (cwvT (n := 2) htb cd_C_quota k_L_17 in_C_quota se_C_quota ini_C hd_C_quota ⟨Nat.le_of_ble_eq_true rfl, Nat.le_of_ble_eq_true rfl⟩) hK2 hP [0, 1, 2, 3, 4, 5, 6, 7, 8, 9, 10, 11, 12, 13, 14, 15, 16, 17, 18] rfl hT (ci := 2) rfl rfl rfl hl.1 rfl (Nat.le_of_ble_eq_true rfl) d_L_quota_5 ⟨Nat.le_of_ble_eq_true rfl, Nat.le_of_ble_eq_true rfl⟩ (fun q ce H1 locs1 hP hS hce hcv hcl => ?_)
  refine vx_catch (own := "CacheLevelsLaw") (name := EA) hown [⟨0, 10, 13, 13⟩] ⟨0, 10, 17, 15⟩ [] (by rw [htab]; rfl) (fun z hz => ?_) (by decide) (by decide) (htb _ k_L_15) (va_Nw.use rfl (hT.1 (.castable EA EA) (by decide))) hce hcv hcl ?_
  · rcases List.mem_cons.mp hz with rfl | hz
    · exact Or.inr ⟨by decide, EI, htb _ k_L_13, hNc⟩
    · cases hz
  refine lv_astore (i := 4) (lv' := (4, .ref q) :: [(0, .ref g.1.1), (1, .int p0), (2, .int p1), (3, .ref ao)]) hx hb d_L_quota_17 hl (by decide) rfl (fun ls hl => ?_)
  refine lv_iconst (v := 2) hx hb d_L_quota_19 (by decide) ?_
  exact W.iret (v := 2) hx hb hr (fun t ht hW => ⟨⟨2, (x, f), rfl, ⟨rfl, rfl⟩, by dsimp only; rw [ht]; exact hP⟩, hS.F ht⟩) hS.2.2 d_L_quota_20
set_option maxHeartbeats 4000000 in
set_option maxRecDepth 100000 in
theorem c_L_quota_o (l : Launch) (D : va_G) (cI cZ cL : ClassId) (g : GC) (hg : okC g) (x : Cs) (ao : Nat) (f : Fl) (p0 p1 : Int32) (hv0 : ¬ p0 < 0) (hv1 : p0 < g.2.1.1) (hq0 : ¬ p1 < 0) (hq1 : p1 ≤ 4) : Met l y_L_quota w_L_quota rm_L (PcH D vwCl (tyL cI cZ cL) [.ref g.1.1, .int p0, .int p1, .ref ao] (wCo cI cZ cL g x ao f)) (va_Qi (fun (r : Int32) (u : Cs × Fl) => r = 0 ∧ u.2 0 = (M_C_quota g x p0 p1).1.toInt64 ∧ u.1 = (M_C_quota g x p0 p1).2) (fun (u : Cs × Fl) (t : State) => va_P D vwCl (wCo cI cZ cL g u.1 ao u.2) t.heap) (Aw (wCo cI cZ cL g x ao f))) 1 6 (Aw (wCo cI cZ cL g x ao f)) := by
  refine va_MetW (cc := b_L_quota) (maxL := 5) (ret := (some .int)) (hh := hh_L_quota) (by decide) rfl ?_
  intro p e s m args below meth c s₁ B hml hv
  obtain ⟨rfl, hP, hK, hD0, hT, hNc⟩ := hv
  have hx := B.exec
  have hb := B.bytes
  have hr := B.returns
  have htb : ∀ w ∈ tbW, w.before _ s = true := fun w h => atoms_spec (ws := w_L_quota) B.pre w (List.mem_cons_of_mem _ h)
  have hown : s.vm.findClass "CacheLevelsLaw" = some m.cls := findClass_of_methodNamed B.named
  have hlocks := B.notSynchronized
  have htab := vx_table (x := y_L_quota) B (htb _ cd_L_quota)
  have hK2 := hK.sub [0, 1] (tys' := tyK cI cZ) rfl
  have hD : va_D (Aw (wCo cI cZ cL g x ao f)) (wCo cI cZ cL g x ao f) := ⟨hD0.1, fun k q hk => ⟨k, q.2, hk⟩⟩
  have hS : va_S (Aw (wCo cI cZ cL g x ao f)) s.heap s.heap [] := va_S.rf
  have hl := lv_entry ([.ref g.1.1, .int p0, .int p1, .ref ao]) (n := 5) (Nat.le_of_ble_eq_true rfl)
  rw [lg_entry_eq]
  generalize (lg_sl ([.ref g.1.1, .int p0, .int p1, .ref ao]) ++ List.replicate (5 - (lg_sl ([.ref g.1.1, .int p0, .int p1, .ref ao])).length) Slot.unset).toArray = ls at hl ⊢
  have hl : lv_has ls 5 [(0, .ref g.1.1), (1, .int p0), (2, .int p1), (3, .ref ao)] := hl
  refine lv_aload_n hx hb d_L_quota_0 rfl (lv_at hl 3 rfl) ?_
  refine lv_iconst (v := 0) hx hb d_L_quota_1 (by decide) ?_
  refine lv_aload_n hx hb d_L_quota_2 rfl (lv_at hl 0 rfl) ?_
  refine lv_iload_n hx hb d_L_quota_3 rfl (lv_at hl 1 rfl) ?_
  refine lv_iload_n hx hb d_L_quota_4 rfl (lv_at hl 2 rfl) ?_
  refine cwi (As := [.int p0, .int p1]) (rest := [.int 0, .ref ao]) (wldC := fun u => (wCo cI cZ cL g u ao f)) ⟨hx, hb, hml, hown, htb⟩ (c_C_quota l D cI cZ g hg x p0 p1 hv0 hv1 hq0 hq1) (cwv (n := 2) htb cd_C_quota k_L_17 in_C_quota se_C_quota ini_C hd_C_quota ⟨Nat.le_of_ble_eq_true rfl, Nat.le_of_ble_eq_true rfl⟩) hK2 hP hD hS [0, 1, 2, 3, 4, 5, 6, 7, 8, 9, 10, 11, 12, 13, 14, 15, 16, 17, 18] [19] [1, 2, 3, 4, 5, 6, 7, 8, 9, 10, 11, 12, 13, 14, 15, 16, 17, 18, 19, 0] rfl rfl (by decide) (by decide) rfl (fun _ => rfl) (fun _ => rfl) (ci := 2) rfl rfl rfl hl.1 rfl (Nat.le_of_ble_eq_true rfl) d_L_quota_5 ⟨Nat.zero_le _, Nat.zero_le _⟩ (fun r u H locs hw hP hD hS => ?_)
  refine lv_i2l (v := r.toInt64) hx hb d_L_quota_8 rfl ?_
  refine va_last hx hb hK hP hD hS 19 2 rfl rfl one_in0 d_L_quota_9 (fun H1 locs1 hP hD hS => ?_)
  refine lv_goto (tgt := 21) hx hb d_L_quota_10 (by decide) ?_
  refine lv_iconst (v := 0) hx hb d_L_quota_21 (by decide) ?_
  refine W.widen (k := 1) (n := 6) (Nat.zero_le _) (Nat.zero_le _) ?_
  exact W.iret (v := 0) hx hb hr (fun t ht hW => ⟨⟨0, (u, vp_updL f (0 : Int32).toNatClampNeg r.toInt64), rfl, ⟨rfl, by rw [← hw]; exact out0 (f := f) (v := r.toInt64), by rw [← hw]⟩, by dsimp only; rw [ht]; exact hP⟩, hS.F ht⟩) hS.2.2 d_L_quota_22
abbrev w_L_holds : List Cond := .codeWith y_L_holds b_L_holds 5 (some .int) hh_L_holds :: tbW
set_option maxHeartbeats 4000000 in
set_option maxRecDepth 100000 in
theorem c_L_holds_t (l : Launch) (hlt : l.stackTraces = false) (D : va_G) (cI cZ cL : ClassId) (g : GC) (hg : okC g) (x : Cs) (ao : Nat) (f : Fl) (p0 p1 : Int32) (hbad : p0 < 0 ∨ ¬ p0 < g.2.1.1) (hq : ¬ p0 = -1) : Met l y_L_holds w_L_holds rm_L (PcH D vwCl (tyL cI cZ cL) [.ref g.1.1, .int p0, .int p1, .ref ao] (wCo cI cZ cL g x ao f)) (va_Qi (fun (r : Int32) (u : Cs × Fl) => r = 1 ∧ u.1 = x) (fun (u : Cs × Fl) (t : State) => va_P D vwCl (wCo cI cZ cL g u.1 ao u.2) t.heap) (Aw (wCo cI cZ cL g x ao f))) 1 6 (Aw (wCo cI cZ cL g x ao f)) := by
  refine va_MetW (cc := b_L_holds) (maxL := 5) (ret := (some .int)) (hh := hh_L_holds) (by decide) rfl ?_
  intro p e s m args below meth c s₁ B hml hv
  obtain ⟨rfl, hP, hK, hD0, hT, hNc⟩ := hv
  have hx := B.exec
  have hb := B.bytes
  have hr := B.returns
  have htb : ∀ w ∈ tbW, w.before _ s = true := fun w h => atoms_spec (ws := w_L_holds) B.pre w (List.mem_cons_of_mem _ h)
  have hown : s.vm.findClass "CacheLevelsLaw" = some m.cls := findClass_of_methodNamed B.named
  have hlocks := B.notSynchronized
  have htab := vx_table (x := y_L_holds) B (htb _ cd_L_holds)
  have hK2 := hK.sub [0, 1] (tys' := tyK cI cZ) rfl
  have hD : va_D (Aw (wCo cI cZ cL g x ao f)) (wCo cI cZ cL g x ao f) := ⟨hD0.1, fun k q hk => ⟨k, q.2, hk⟩⟩
  have hS : va_S (Aw (wCo cI cZ cL g x ao f)) s.heap s.heap [] := va_S.rf
  have hl := lv_entry ([.ref g.1.1, .int p0, .int p1, .ref ao]) (n := 5) (Nat.le_of_ble_eq_true rfl)
  rw [lg_entry_eq]
  generalize (lg_sl ([.ref g.1.1, .int p0, .int p1, .ref ao]) ++ List.replicate (5 - (lg_sl ([.ref g.1.1, .int p0, .int p1, .ref ao])).length) Slot.unset).toArray = ls at hl ⊢
  have hl : lv_has ls 5 [(0, .ref g.1.1), (1, .int p0), (2, .int p1), (3, .ref ao)] := hl
  refine lv_aload_n hx hb d_L_holds_0 rfl (lv_at hl 3 rfl) ?_
  refine lv_iconst (v := 0) hx hb d_L_holds_1 (by decide) ?_
  refine lv_aload_n hx hb d_L_holds_2 rfl (lv_at hl 0 rfl) ?_
  refine lv_iload_n hx hb d_L_holds_3 rfl (lv_at hl 1 rfl) ?_
  refine lv_iload_n hx hb d_L_holds_4 rfl (lv_at hl 2 rfl) ?_
  refine cth (A := Aw (wCo cI cZ cL g x ao f)) (As := [.int p0, .int p1]) (rest := [.int 0, .ref ao]) ⟨hx, hb, hml, hown, htb⟩ (t_C_holds_t l hlt D cI cZ g hg x p0 p1 hbad hq) (cwvT (n := 2) htb cd_C_holds k_L_21 in_C_holds se_C_holds ini_C hd_C_holds ⟨Nat.le_of_ble_eq_true rfl, Nat.le_of_ble_eq_true rfl⟩) hK2 hP [0, 1, 2, 3, 4, 5, 6, 7, 8, 9, 10, 11, 12, 13, 14, 15, 16, 17, 18] rfl hT (ci := 2) rfl rfl rfl hl.1 rfl (Nat.le_of_ble_eq_true rfl) d_L_holds_5 ⟨Nat.le_of_ble_eq_true rfl, Nat.le_of_ble_eq_true rfl⟩ (fun q ce H1 locs1 hP hS hce hcv hcl => ?_)
  refine vx_catch (own := "CacheLevelsLaw") (name := EI) hown [] ⟨0, 10, 13, 13⟩ [] (by rw [htab]; rfl) (fun z hz => by cases hz) (by decide) (by decide) (htb _ k_L_13) (va_Nw.use rfl (hT.1 (.castable EI EI) (by decide))) hce hcv hcl ?_
  refine lv_astore (i := 4) (lv' := (4, .ref q) :: [(0, .ref g.1.1), (1, .int p0), (2, .int p1), (3, .ref ao)]) hx hb d_L_holds_13 hl (by decide) rfl (fun ls hl => ?_)
  refine lv_iconst (v := 1) hx hb d_L_holds_15 (by decide) ?_
  exact W.iret (v := 1) hx hb hr (fun t ht hW => ⟨⟨1, (x, f), rfl, ⟨rfl, rfl⟩, by dsimp only; rw [ht]; exact hP⟩, hS.F ht⟩) hS.2.2 d_L_holds_16
set_option maxHeartbeats 4000000 in
set_option maxRecDepth 100000 in
theorem c_L_holds_n (l : Launch) (D : va_G) (cI cZ cL : ClassId) (g : GC) (hg : okC g) (x : Cs) (ao : Nat) (f : Fl) (p0 p1 : Int32) (hq : p0 = -1) : Met l y_L_holds w_L_holds rm_L (PcH D vwCl (tyL cI cZ cL) [.ref g.1.1, .int p0, .int p1, .ref ao] (wCo cI cZ cL g x ao f)) (va_Qi (fun (r : Int32) (u : Cs × Fl) => r = 0 ∧ u.2 0 = (M_C_holds_n g x p0 p1).toInt64 ∧ u.1 = x) (fun (u : Cs × Fl) (t : State) => va_P D vwCl (wCo cI cZ cL g u.1 ao u.2) t.heap) (Aw (wCo cI cZ cL g x ao f))) 1 6 (Aw (wCo cI cZ cL g x ao f)) := by
  refine va_MetW (cc := b_L_holds) (maxL := 5) (ret := (some .int)) (hh := hh_L_holds) (by decide) rfl ?_
  intro p e s m args below meth c s₁ B hml hv
  obtain ⟨rfl, hP, hK, hD0, hT, hNc⟩ := hv
  have hx := B.exec
  have hb := B.bytes
  have hr := B.returns
  have htb : ∀ w ∈ tbW, w.before _ s = true := fun w h => atoms_spec (ws := w_L_holds) B.pre w (List.mem_cons_of_mem _ h)
  have hown : s.vm.findClass "CacheLevelsLaw" = some m.cls := findClass_of_methodNamed B.named
  have hlocks := B.notSynchronized
  have htab := vx_table (x := y_L_holds) B (htb _ cd_L_holds)
  have hK2 := hK.sub [0, 1] (tys' := tyK cI cZ) rfl
  have hD : va_D (Aw (wCo cI cZ cL g x ao f)) (wCo cI cZ cL g x ao f) := ⟨hD0.1, fun k q hk => ⟨k, q.2, hk⟩⟩
  have hS : va_S (Aw (wCo cI cZ cL g x ao f)) s.heap s.heap [] := va_S.rf
  have hl := lv_entry ([.ref g.1.1, .int p0, .int p1, .ref ao]) (n := 5) (Nat.le_of_ble_eq_true rfl)
  rw [lg_entry_eq]
  generalize (lg_sl ([.ref g.1.1, .int p0, .int p1, .ref ao]) ++ List.replicate (5 - (lg_sl ([.ref g.1.1, .int p0, .int p1, .ref ao])).length) Slot.unset).toArray = ls at hl ⊢
  have hl : lv_has ls 5 [(0, .ref g.1.1), (1, .int p0), (2, .int p1), (3, .ref ao)] := hl
  refine lv_aload_n hx hb d_L_holds_0 rfl (lv_at hl 3 rfl) ?_
  refine lv_iconst (v := 0) hx hb d_L_holds_1 (by decide) ?_
  refine lv_aload_n hx hb d_L_holds_2 rfl (lv_at hl 0 rfl) ?_
  refine lv_iload_n hx hb d_L_holds_3 rfl (lv_at hl 1 rfl) ?_
  refine lv_iload_n hx hb d_L_holds_4 rfl (lv_at hl 2 rfl) ?_
  refine cpi (As := [.int p0, .int p1]) (rest := [.int 0, .ref ao]) ⟨hx, hb, hml, hown, htb⟩ (c_C_holds_n l D cI cZ g hg x p0 p1 hq) (cwv (n := 2) htb cd_C_holds k_L_21 in_C_holds se_C_holds ini_C hd_C_holds ⟨Nat.le_of_ble_eq_true rfl, Nat.le_of_ble_eq_true rfl⟩) hK2 hP [0, 1, 2, 3, 4, 5, 6, 7, 8, 9, 10, 11, 12, 13, 14, 15, 16, 17, 18] rfl (ci := 2) rfl rfl rfl hl.1 rfl (Nat.le_of_ble_eq_true rfl) d_L_holds_5 ⟨Nat.zero_le _, Nat.zero_le _⟩ (fun r hw => ?_)
  refine lv_i2l (v := r.toInt64) hx hb d_L_holds_8 rfl ?_
  refine va_last hx hb hK hP hD hS 19 2 rfl rfl one_in0 d_L_holds_9 (fun H1 locs1 hP hD hS => ?_)
  refine lv_goto (tgt := 17) hx hb d_L_holds_10 (by decide) ?_
  refine lv_iconst (v := 0) hx hb d_L_holds_17 (by decide) ?_
  refine W.widen (k := 1) (n := 6) (Nat.zero_le _) (Nat.zero_le _) ?_
  exact W.iret (v := 0) hx hb hr (fun t ht hW => ⟨⟨0, (x, vp_updL f (0 : Int32).toNatClampNeg r.toInt64), rfl, ⟨rfl, by rw [← hw]; exact out0 (f := f) (v := r.toInt64), rfl⟩, by dsimp only; rw [ht]; exact hP⟩, hS.F ht⟩) hS.2.2 d_L_holds_18
set_option maxHeartbeats 4000000 in
set_option maxRecDepth 100000 in
theorem c_L_holds_o (l : Launch) (D : va_G) (cI cZ cL : ClassId) (g : GC) (hg : okC g) (x : Cs) (ao : Nat) (f : Fl) (p0 p1 : Int32) (hv0 : ¬ p0 < 0) (hv1 : p0 < g.2.1.1) (hq : ¬ p0 = -1) : Met l y_L_holds w_L_holds rm_L (PcH D vwCl (tyL cI cZ cL) [.ref g.1.1, .int p0, .int p1, .ref ao] (wCo cI cZ cL g x ao f)) (va_Qi (fun (r : Int32) (u : Cs × Fl) => r = 0 ∧ u.2 0 = (M_C_holds_c g x p0 p1).toInt64 ∧ u.1 = x) (fun (u : Cs × Fl) (t : State) => va_P D vwCl (wCo cI cZ cL g u.1 ao u.2) t.heap) (Aw (wCo cI cZ cL g x ao f))) 1 6 (Aw (wCo cI cZ cL g x ao f)) := by
  refine va_MetW (cc := b_L_holds) (maxL := 5) (ret := (some .int)) (hh := hh_L_holds) (by decide) rfl ?_
  intro p e s m args below meth c s₁ B hml hv
  obtain ⟨rfl, hP, hK, hD0, hT, hNc⟩ := hv
  have hx := B.exec
  have hb := B.bytes
  have hr := B.returns
  have htb : ∀ w ∈ tbW, w.before _ s = true := fun w h => atoms_spec (ws := w_L_holds) B.pre w (List.mem_cons_of_mem _ h)
  have hown : s.vm.findClass "CacheLevelsLaw" = some m.cls := findClass_of_methodNamed B.named
  have hlocks := B.notSynchronized
  have htab := vx_table (x := y_L_holds) B (htb _ cd_L_holds)
  have hK2 := hK.sub [0, 1] (tys' := tyK cI cZ) rfl
  have hD : va_D (Aw (wCo cI cZ cL g x ao f)) (wCo cI cZ cL g x ao f) := ⟨hD0.1, fun k q hk => ⟨k, q.2, hk⟩⟩
  have hS : va_S (Aw (wCo cI cZ cL g x ao f)) s.heap s.heap [] := va_S.rf
  have hl := lv_entry ([.ref g.1.1, .int p0, .int p1, .ref ao]) (n := 5) (Nat.le_of_ble_eq_true rfl)
  rw [lg_entry_eq]
  generalize (lg_sl ([.ref g.1.1, .int p0, .int p1, .ref ao]) ++ List.replicate (5 - (lg_sl ([.ref g.1.1, .int p0, .int p1, .ref ao])).length) Slot.unset).toArray = ls at hl ⊢
  have hl : lv_has ls 5 [(0, .ref g.1.1), (1, .int p0), (2, .int p1), (3, .ref ao)] := hl
  refine lv_aload_n hx hb d_L_holds_0 rfl (lv_at hl 3 rfl) ?_
  refine lv_iconst (v := 0) hx hb d_L_holds_1 (by decide) ?_
  refine lv_aload_n hx hb d_L_holds_2 rfl (lv_at hl 0 rfl) ?_
  refine lv_iload_n hx hb d_L_holds_3 rfl (lv_at hl 1 rfl) ?_
  refine lv_iload_n hx hb d_L_holds_4 rfl (lv_at hl 2 rfl) ?_
  refine cpi (As := [.int p0, .int p1]) (rest := [.int 0, .ref ao]) ⟨hx, hb, hml, hown, htb⟩ (c_C_holds_c l D cI cZ g hg x p0 p1 hv0 hv1 hq) (cwv (n := 2) htb cd_C_holds k_L_21 in_C_holds se_C_holds ini_C hd_C_holds ⟨Nat.le_of_ble_eq_true rfl, Nat.le_of_ble_eq_true rfl⟩) hK2 hP [0, 1, 2, 3, 4, 5, 6, 7, 8, 9, 10, 11, 12, 13, 14, 15, 16, 17, 18] rfl (ci := 2) rfl rfl rfl hl.1 rfl (Nat.le_of_ble_eq_true rfl) d_L_holds_5 ⟨Nat.zero_le _, Nat.zero_le _⟩ (fun r hw => ?_)
  refine lv_i2l (v := r.toInt64) hx hb d_L_holds_8 rfl ?_
  refine va_last hx hb hK hP hD hS 19 2 rfl rfl one_in0 d_L_holds_9 (fun H1 locs1 hP hD hS => ?_)
  refine lv_goto (tgt := 17) hx hb d_L_holds_10 (by decide) ?_
  refine lv_iconst (v := 0) hx hb d_L_holds_17 (by decide) ?_
  refine W.widen (k := 1) (n := 6) (Nat.zero_le _) (Nat.zero_le _) ?_
  exact W.iret (v := 0) hx hb hr (fun t ht hW => ⟨⟨0, (x, vp_updL f (0 : Int32).toNatClampNeg r.toInt64), rfl, ⟨rfl, by rw [← hw]; exact out0 (f := f) (v := r.toInt64), rfl⟩, by dsimp only; rw [ht]; exact hP⟩, hS.F ht⟩) hS.2.2 d_L_holds_18
abbrev w_L_version : List Cond := .codeWith y_L_version b_L_version 5 (some .int) hh_L_version :: tbW
set_option maxHeartbeats 4000000 in
set_option maxRecDepth 100000 in
theorem c_L_version_t (l : Launch) (hlt : l.stackTraces = false) (D : va_G) (cI cZ cL : ClassId) (g : GC) (hg : okC g) (x : Cs) (ao : Nat) (f : Fl) (p0 p1 : Int32) (hbad : p0 < 0 ∨ ¬ p0 < g.2.1.1) : Met l y_L_version w_L_version rm_L (PcH D vwCl (tyL cI cZ cL) [.ref g.1.1, .int p0, .int p1, .ref ao] (wCo cI cZ cL g x ao f)) (va_Qi (fun (r : Int32) (u : Cs × Fl) => r = 1 ∧ u.1 = x) (fun (u : Cs × Fl) (t : State) => va_P D vwCl (wCo cI cZ cL g u.1 ao u.2) t.heap) (Aw (wCo cI cZ cL g x ao f))) 1 6 (Aw (wCo cI cZ cL g x ao f)) := by
  refine va_MetW (cc := b_L_version) (maxL := 5) (ret := (some .int)) (hh := hh_L_version) (by decide) rfl ?_
  intro p e s m args below meth c s₁ B hml hv
  obtain ⟨rfl, hP, hK, hD0, hT, hNc⟩ := hv
  have hx := B.exec
  have hb := B.bytes
  have hr := B.returns
  have htb : ∀ w ∈ tbW, w.before _ s = true := fun w h => atoms_spec (ws := w_L_version) B.pre w (List.mem_cons_of_mem _ h)
  have hown : s.vm.findClass "CacheLevelsLaw" = some m.cls := findClass_of_methodNamed B.named
  have hlocks := B.notSynchronized
  have htab := vx_table (x := y_L_version) B (htb _ cd_L_version)
  have hK2 := hK.sub [0, 1] (tys' := tyK cI cZ) rfl
  have hD : va_D (Aw (wCo cI cZ cL g x ao f)) (wCo cI cZ cL g x ao f) := ⟨hD0.1, fun k q hk => ⟨k, q.2, hk⟩⟩
  have hS : va_S (Aw (wCo cI cZ cL g x ao f)) s.heap s.heap [] := va_S.rf
  have hl := lv_entry ([.ref g.1.1, .int p0, .int p1, .ref ao]) (n := 5) (Nat.le_of_ble_eq_true rfl)
  rw [lg_entry_eq]
  generalize (lg_sl ([.ref g.1.1, .int p0, .int p1, .ref ao]) ++ List.replicate (5 - (lg_sl ([.ref g.1.1, .int p0, .int p1, .ref ao])).length) Slot.unset).toArray = ls at hl ⊢
  have hl : lv_has ls 5 [(0, .ref g.1.1), (1, .int p0), (2, .int p1), (3, .ref ao)] := hl
  refine lv_aload_n hx hb d_L_version_0 rfl (lv_at hl 3 rfl) ?_
  refine lv_iconst (v := 0) hx hb d_L_version_1 (by decide) ?_
  refine lv_aload_n hx hb d_L_version_2 rfl (lv_at hl 0 rfl) ?_
  refine lv_iload_n hx hb d_L_version_3 rfl (lv_at hl 1 rfl) ?_
  refine lv_iload_n hx hb d_L_version_4 rfl (lv_at hl 2 rfl) ?_
  refine cth (A := Aw (wCo cI cZ cL g x ao f)) (As := [.int p0, .int p1]) (rest := [.int 0, .ref ao]) ⟨hx, hb, hml, hown, htb⟩ (t_C_version_c l hlt D cI cZ g hg x p0 p1 hbad) (cwvT (n := 2) htb cd_C_version k_L_24 in_C_version se_C_version ini_C hd_C_version ⟨Nat.le_of_ble_eq_true rfl, Nat.le_of_ble_eq_true rfl⟩) hK2 hP [0, 1, 2, 3, 4, 5, 6, 7, 8, 9, 10, 11, 12, 13, 14, 15, 16, 17, 18] rfl hT (ci := 2) rfl rfl rfl hl.1 rfl (Nat.le_of_ble_eq_true rfl) d_L_version_5 ⟨Nat.le_of_ble_eq_true rfl, Nat.le_of_ble_eq_true rfl⟩ (fun q ce H1 locs1 hP hS hce hcv hcl => ?_)
  refine vx_catch (own := "CacheLevelsLaw") (name := EI) hown [] ⟨0, 10, 13, 13⟩ [] (by rw [htab]; rfl) (fun z hz => by cases hz) (by decide) (by decide) (htb _ k_L_13) (va_Nw.use rfl (hT.1 (.castable EI EI) (by decide))) hce hcv hcl ?_
  refine lv_astore (i := 4) (lv' := (4, .ref q) :: [(0, .ref g.1.1), (1, .int p0), (2, .int p1), (3, .ref ao)]) hx hb d_L_version_13 hl (by decide) rfl (fun ls hl => ?_)
  refine lv_iconst (v := 1) hx hb d_L_version_15 (by decide) ?_
  exact W.iret (v := 1) hx hb hr (fun t ht hW => ⟨⟨1, (x, f), rfl, ⟨rfl, rfl⟩, by dsimp only; rw [ht]; exact hP⟩, hS.F ht⟩) hS.2.2 d_L_version_16
set_option maxHeartbeats 4000000 in
set_option maxRecDepth 100000 in
theorem c_L_version_o (l : Launch) (D : va_G) (cI cZ cL : ClassId) (g : GC) (hg : okC g) (x : Cs) (ao : Nat) (f : Fl) (p0 p1 : Int32) (hv0 : ¬ p0 < 0) (hv1 : p0 < g.2.1.1) : Met l y_L_version w_L_version rm_L (PcH D vwCl (tyL cI cZ cL) [.ref g.1.1, .int p0, .int p1, .ref ao] (wCo cI cZ cL g x ao f)) (va_Qi (fun (r : Int32) (u : Cs × Fl) => r = 0 ∧ u.2 0 = (M_C_version g x p0 p1).toInt64 ∧ u.1 = x) (fun (u : Cs × Fl) (t : State) => va_P D vwCl (wCo cI cZ cL g u.1 ao u.2) t.heap) (Aw (wCo cI cZ cL g x ao f))) 1 6 (Aw (wCo cI cZ cL g x ao f)) := by
  refine va_MetW (cc := b_L_version) (maxL := 5) (ret := (some .int)) (hh := hh_L_version) (by decide) rfl ?_
  intro p e s m args below meth c s₁ B hml hv
  obtain ⟨rfl, hP, hK, hD0, hT, hNc⟩ := hv
  have hx := B.exec
  have hb := B.bytes
  have hr := B.returns
  have htb : ∀ w ∈ tbW, w.before _ s = true := fun w h => atoms_spec (ws := w_L_version) B.pre w (List.mem_cons_of_mem _ h)
  have hown : s.vm.findClass "CacheLevelsLaw" = some m.cls := findClass_of_methodNamed B.named
  have hlocks := B.notSynchronized
  have htab := vx_table (x := y_L_version) B (htb _ cd_L_version)
  have hK2 := hK.sub [0, 1] (tys' := tyK cI cZ) rfl
  have hD : va_D (Aw (wCo cI cZ cL g x ao f)) (wCo cI cZ cL g x ao f) := ⟨hD0.1, fun k q hk => ⟨k, q.2, hk⟩⟩
  have hS : va_S (Aw (wCo cI cZ cL g x ao f)) s.heap s.heap [] := va_S.rf
  have hl := lv_entry ([.ref g.1.1, .int p0, .int p1, .ref ao]) (n := 5) (Nat.le_of_ble_eq_true rfl)
  rw [lg_entry_eq]
  generalize (lg_sl ([.ref g.1.1, .int p0, .int p1, .ref ao]) ++ List.replicate (5 - (lg_sl ([.ref g.1.1, .int p0, .int p1, .ref ao])).length) Slot.unset).toArray = ls at hl ⊢
  have hl : lv_has ls 5 [(0, .ref g.1.1), (1, .int p0), (2, .int p1), (3, .ref ao)] := hl
  refine lv_aload_n hx hb d_L_version_0 rfl (lv_at hl 3 rfl) ?_
  refine lv_iconst (v := 0) hx hb d_L_version_1 (by decide) ?_
  refine lv_aload_n hx hb d_L_version_2 rfl (lv_at hl 0 rfl) ?_
  refine lv_iload_n hx hb d_L_version_3 rfl (lv_at hl 1 rfl) ?_
  refine lv_iload_n hx hb d_L_version_4 rfl (lv_at hl 2 rfl) ?_
  refine cpi (As := [.int p0, .int p1]) (rest := [.int 0, .ref ao]) ⟨hx, hb, hml, hown, htb⟩ (c_C_version l D cI cZ g hg x p0 p1 hv0 hv1) (cwv (n := 2) htb cd_C_version k_L_24 in_C_version se_C_version ini_C hd_C_version ⟨Nat.le_of_ble_eq_true rfl, Nat.le_of_ble_eq_true rfl⟩) hK2 hP [0, 1, 2, 3, 4, 5, 6, 7, 8, 9, 10, 11, 12, 13, 14, 15, 16, 17, 18] rfl (ci := 2) rfl rfl rfl hl.1 rfl (Nat.le_of_ble_eq_true rfl) d_L_version_5 ⟨Nat.zero_le _, Nat.zero_le _⟩ (fun r hw => ?_)
  refine lv_i2l (v := r.toInt64) hx hb d_L_version_8 rfl ?_
  refine va_last hx hb hK hP hD hS 19 2 rfl rfl one_in0 d_L_version_9 (fun H1 locs1 hP hD hS => ?_)
  refine lv_goto (tgt := 17) hx hb d_L_version_10 (by decide) ?_
  refine lv_iconst (v := 0) hx hb d_L_version_17 (by decide) ?_
  refine W.widen (k := 1) (n := 6) (Nat.zero_le _) (Nat.zero_le _) ?_
  exact W.iret (v := 0) hx hb hr (fun t ht hW => ⟨⟨0, (x, vp_updL f (0 : Int32).toNatClampNeg r.toInt64), rfl, ⟨rfl, by rw [← hw]; exact out0 (f := f) (v := r.toInt64), rfl⟩, by dsimp only; rw [ht]; exact hP⟩, hS.F ht⟩) hS.2.2 d_L_version_18
abbrev w_L_line : List Cond := .codeWith y_L_line b_L_line 6 (some .int) hh_L_line :: tbW
set_option maxHeartbeats 4000000 in
set_option maxRecDepth 100000 in
theorem c_L_line_t (l : Launch) (hlt : l.stackTraces = false) (D : va_G) (cI cZ cL : ClassId) (g : GC) (hg : okC g) (x : Cs) (ao : Nat) (f : Fl) (p0 p1 p2 : Int32) (hbad : p0 < 0 ∨ ¬ p0 < g.2.1.1) (hq : ¬ p0 = -1) : Met l y_L_line w_L_line rm_L (PcH D vwCl (tyL cI cZ cL) [.ref g.1.1, .int p0, .int p1, .int p2, .ref ao] (wCo cI cZ cL g x ao f)) (va_Qi (fun (r : Int32) (u : Cs × Fl) => r = 1 ∧ u.1 = x) (fun (u : Cs × Fl) (t : State) => va_P D vwCl (wCo cI cZ cL g u.1 ao u.2) t.heap) (Aw (wCo cI cZ cL g x ao f))) 1 6 (Aw (wCo cI cZ cL g x ao f)) := by
  refine va_MetW (cc := b_L_line) (maxL := 6) (ret := (some .int)) (hh := hh_L_line) (by decide) rfl ?_
  intro p e s m args below meth c s₁ B hml hv
  obtain ⟨rfl, hP, hK, hD0, hT, hNc⟩ := hv
  have hx := B.exec
  have hb := B.bytes
  have hr := B.returns
  have htb : ∀ w ∈ tbW, w.before _ s = true := fun w h => atoms_spec (ws := w_L_line) B.pre w (List.mem_cons_of_mem _ h)
  have hown : s.vm.findClass "CacheLevelsLaw" = some m.cls := findClass_of_methodNamed B.named
  have hlocks := B.notSynchronized
  have htab := vx_table (x := y_L_line) B (htb _ cd_L_line)
  have hK2 := hK.sub [0, 1] (tys' := tyK cI cZ) rfl
  have hD : va_D (Aw (wCo cI cZ cL g x ao f)) (wCo cI cZ cL g x ao f) := ⟨hD0.1, fun k q hk => ⟨k, q.2, hk⟩⟩
  have hS : va_S (Aw (wCo cI cZ cL g x ao f)) s.heap s.heap [] := va_S.rf
  have hl := lv_entry ([.ref g.1.1, .int p0, .int p1, .int p2, .ref ao]) (n := 6) (Nat.le_of_ble_eq_true rfl)
  rw [lg_entry_eq]
  generalize (lg_sl ([.ref g.1.1, .int p0, .int p1, .int p2, .ref ao]) ++ List.replicate (6 - (lg_sl ([.ref g.1.1, .int p0, .int p1, .int p2, .ref ao])).length) Slot.unset).toArray = ls at hl ⊢
  have hl : lv_has ls 6 [(0, .ref g.1.1), (1, .int p0), (2, .int p1), (3, .int p2), (4, .ref ao)] := hl
  refine lv_aload hx hb d_L_line_0 (lv_at hl 4 rfl) ?_
  refine lv_iconst (v := 0) hx hb d_L_line_2 (by decide) ?_
  refine lv_aload_n hx hb d_L_line_3 rfl (lv_at hl 0 rfl) ?_
  refine lv_iload_n hx hb d_L_line_4 rfl (lv_at hl 1 rfl) ?_
  refine lv_iload_n hx hb d_L_line_5 rfl (lv_at hl 2 rfl) ?_
  refine lv_iload_n hx hb d_L_line_6 rfl (lv_at hl 3 rfl) ?_
  refine cth (A := Aw (wCo cI cZ cL g x ao f)) (As := [.int p0, .int p1, .int p2]) (rest := [.int 0, .ref ao]) ⟨hx, hb, hml, hown, htb⟩ (t_C_line_t l hlt D cI cZ g hg x p0 p1 p2 hbad hq) (cwvT (n := 3) htb cd_C_line k_L_27 in_C_line se_C_line ini_C hd_C_line ⟨Nat.le_of_ble_eq_true rfl, Nat.le_of_ble_eq_true rfl⟩) hK2 hP [0, 1, 2, 3, 4, 5, 6, 7, 8, 9, 10, 11, 12, 13, 14, 15, 16, 17, 18] rfl hT (ci := 2) rfl rfl rfl hl.1 rfl (Nat.le_of_ble_eq_true rfl) d_L_line_7 ⟨Nat.le_of_ble_eq_true rfl, Nat.le_of_ble_eq_true rfl⟩ (fun q ce H1 locs1 hP hS hce hcv hcl => ?_)
  refine vx_catch (own := "CacheLevelsLaw") (name := EI) hown [] ⟨0, 12, 15, 13⟩ [] (by rw [htab]; rfl) (fun z hz => by cases hz) (by decide) (by decide) (htb _ k_L_13) (va_Nw.use rfl (hT.1 (.castable EI EI) (by decide))) hce hcv hcl ?_
  refine lv_astore (i := 5) (lv' := (5, .ref q) :: [(0, .ref g.1.1), (1, .int p0), (2, .int p1), (3, .int p2), (4, .ref ao)]) hx hb d_L_line_15 hl (by decide) rfl (fun ls hl => ?_)
  refine lv_iconst (v := 1) hx hb d_L_line_17 (by decide) ?_
  exact W.iret (v := 1) hx hb hr (fun t ht hW => ⟨⟨1, (x, f), rfl, ⟨rfl, rfl⟩, by dsimp only; rw [ht]; exact hP⟩, hS.F ht⟩) hS.2.2 d_L_line_18
set_option maxHeartbeats 4000000 in
set_option maxRecDepth 100000 in
theorem c_L_line_sn (l : Launch) (hlt : l.stackTraces = false) (D : va_G) (cI cZ cL : ClassId) (g : GC) (hg : okC g) (x : Cs) (ao : Nat) (f : Fl) (p0 p1 p2 : Int32) (hq : p0 = -1) (hw : p1 < 0 ∨ ¬ p1 < g.2.2.2.2.1.2.1.1) : Met l y_L_line w_L_line rm_L (PcH D vwCl (tyL cI cZ cL) [.ref g.1.1, .int p0, .int p1, .int p2, .ref ao] (wCo cI cZ cL g x ao f)) (va_Qi (fun (r : Int32) (u : Cs × Fl) => r = 1 ∧ u.1 = x) (fun (u : Cs × Fl) (t : State) => va_P D vwCl (wCo cI cZ cL g u.1 ao u.2) t.heap) (Aw (wCo cI cZ cL g x ao f))) 1 6 (Aw (wCo cI cZ cL g x ao f)) := by
  refine va_MetW (cc := b_L_line) (maxL := 6) (ret := (some .int)) (hh := hh_L_line) (by decide) rfl ?_
  intro p e s m args below meth c s₁ B hml hv
  obtain ⟨rfl, hP, hK, hD0, hT, hNc⟩ := hv
  have hx := B.exec
  have hb := B.bytes
  have hr := B.returns
  have htb : ∀ w ∈ tbW, w.before _ s = true := fun w h => atoms_spec (ws := w_L_line) B.pre w (List.mem_cons_of_mem _ h)
  have hown : s.vm.findClass "CacheLevelsLaw" = some m.cls := findClass_of_methodNamed B.named
  have hlocks := B.notSynchronized
  have htab := vx_table (x := y_L_line) B (htb _ cd_L_line)
  have hK2 := hK.sub [0, 1] (tys' := tyK cI cZ) rfl
  have hD : va_D (Aw (wCo cI cZ cL g x ao f)) (wCo cI cZ cL g x ao f) := ⟨hD0.1, fun k q hk => ⟨k, q.2, hk⟩⟩
  have hS : va_S (Aw (wCo cI cZ cL g x ao f)) s.heap s.heap [] := va_S.rf
  have hl := lv_entry ([.ref g.1.1, .int p0, .int p1, .int p2, .ref ao]) (n := 6) (Nat.le_of_ble_eq_true rfl)
  rw [lg_entry_eq]
  generalize (lg_sl ([.ref g.1.1, .int p0, .int p1, .int p2, .ref ao]) ++ List.replicate (6 - (lg_sl ([.ref g.1.1, .int p0, .int p1, .int p2, .ref ao])).length) Slot.unset).toArray = ls at hl ⊢
  have hl : lv_has ls 6 [(0, .ref g.1.1), (1, .int p0), (2, .int p1), (3, .int p2), (4, .ref ao)] := hl
  refine lv_aload hx hb d_L_line_0 (lv_at hl 4 rfl) ?_
  refine lv_iconst (v := 0) hx hb d_L_line_2 (by decide) ?_
  refine lv_aload_n hx hb d_L_line_3 rfl (lv_at hl 0 rfl) ?_
  refine lv_iload_n hx hb d_L_line_4 rfl (lv_at hl 1 rfl) ?_
  refine lv_iload_n hx hb d_L_line_5 rfl (lv_at hl 2 rfl) ?_
  refine lv_iload_n hx hb d_L_line_6 rfl (lv_at hl 3 rfl) ?_
  refine cth (A := Aw (wCo cI cZ cL g x ao f)) (As := [.int p0, .int p1, .int p2]) (rest := [.int 0, .ref ao]) ⟨hx, hb, hml, hown, htb⟩ (t_C_line_sn l hlt D cI cZ g hg x p0 p1 p2 hq hw) (cwvT (n := 3) htb cd_C_line k_L_27 in_C_line se_C_line ini_C hd_C_line ⟨Nat.le_of_ble_eq_true rfl, Nat.le_of_ble_eq_true rfl⟩) hK2 hP [0, 1, 2, 3, 4, 5, 6, 7, 8, 9, 10, 11, 12, 13, 14, 15, 16, 17, 18] rfl hT (ci := 2) rfl rfl rfl hl.1 rfl (Nat.le_of_ble_eq_true rfl) d_L_line_7 ⟨Nat.le_of_ble_eq_true rfl, Nat.le_of_ble_eq_true rfl⟩ (fun q ce H1 locs1 hP hS hce hcv hcl => ?_)
  refine vx_catch (own := "CacheLevelsLaw") (name := EI) hown [] ⟨0, 12, 15, 13⟩ [] (by rw [htab]; rfl) (fun z hz => by cases hz) (by decide) (by decide) (htb _ k_L_13) (va_Nw.use rfl (hT.1 (.castable EI EI) (by decide))) hce hcv hcl ?_
  refine lv_astore (i := 5) (lv' := (5, .ref q) :: [(0, .ref g.1.1), (1, .int p0), (2, .int p1), (3, .int p2), (4, .ref ao)]) hx hb d_L_line_15 hl (by decide) rfl (fun ls hl => ?_)
  refine lv_iconst (v := 1) hx hb d_L_line_17 (by decide) ?_
  exact W.iret (v := 1) hx hb hr (fun t ht hW => ⟨⟨1, (x, f), rfl, ⟨rfl, rfl⟩, by dsimp only; rw [ht]; exact hP⟩, hS.F ht⟩) hS.2.2 d_L_line_18
set_option maxHeartbeats 4000000 in
set_option maxRecDepth 100000 in
theorem c_L_line_kn (l : Launch) (hlt : l.stackTraces = false) (D : va_G) (cI cZ cL : ClassId) (g : GC) (hg : okC g) (x : Cs) (ao : Nat) (f : Fl) (p0 p1 p2 : Int32) (hq : p0 = -1) (hs0 : ¬ p1 < 0) (hs1 : p1 < g.2.2.2.2.1.2.1.1) (hw : p2 < 0 ∨ ¬ p2 < M_B_size g.2.2.2.2.1 x.2.2.1 ((M_C_groupOf p0 * g.2.2.2.2.1.2.1.1) + p1)) : Met l y_L_line w_L_line rm_L (PcH D vwCl (tyL cI cZ cL) [.ref g.1.1, .int p0, .int p1, .int p2, .ref ao] (wCo cI cZ cL g x ao f)) (va_Qi (fun (r : Int32) (u : Cs × Fl) => r = 1 ∧ u.1 = x) (fun (u : Cs × Fl) (t : State) => va_P D vwCl (wCo cI cZ cL g u.1 ao u.2) t.heap) (Aw (wCo cI cZ cL g x ao f))) 1 6 (Aw (wCo cI cZ cL g x ao f)) := by
  refine va_MetW (cc := b_L_line) (maxL := 6) (ret := (some .int)) (hh := hh_L_line) (by decide) rfl ?_
  intro p e s m args below meth c s₁ B hml hv
  obtain ⟨rfl, hP, hK, hD0, hT, hNc⟩ := hv
  have hx := B.exec
  have hb := B.bytes
  have hr := B.returns
  have htb : ∀ w ∈ tbW, w.before _ s = true := fun w h => atoms_spec (ws := w_L_line) B.pre w (List.mem_cons_of_mem _ h)
  have hown : s.vm.findClass "CacheLevelsLaw" = some m.cls := findClass_of_methodNamed B.named
  have hlocks := B.notSynchronized
  have htab := vx_table (x := y_L_line) B (htb _ cd_L_line)
  have hK2 := hK.sub [0, 1] (tys' := tyK cI cZ) rfl
  have hD : va_D (Aw (wCo cI cZ cL g x ao f)) (wCo cI cZ cL g x ao f) := ⟨hD0.1, fun k q hk => ⟨k, q.2, hk⟩⟩
  have hS : va_S (Aw (wCo cI cZ cL g x ao f)) s.heap s.heap [] := va_S.rf
  have hl := lv_entry ([.ref g.1.1, .int p0, .int p1, .int p2, .ref ao]) (n := 6) (Nat.le_of_ble_eq_true rfl)
  rw [lg_entry_eq]
  generalize (lg_sl ([.ref g.1.1, .int p0, .int p1, .int p2, .ref ao]) ++ List.replicate (6 - (lg_sl ([.ref g.1.1, .int p0, .int p1, .int p2, .ref ao])).length) Slot.unset).toArray = ls at hl ⊢
  have hl : lv_has ls 6 [(0, .ref g.1.1), (1, .int p0), (2, .int p1), (3, .int p2), (4, .ref ao)] := hl
  refine lv_aload hx hb d_L_line_0 (lv_at hl 4 rfl) ?_
  refine lv_iconst (v := 0) hx hb d_L_line_2 (by decide) ?_
  refine lv_aload_n hx hb d_L_line_3 rfl (lv_at hl 0 rfl) ?_
  refine lv_iload_n hx hb d_L_line_4 rfl (lv_at hl 1 rfl) ?_
  refine lv_iload_n hx hb d_L_line_5 rfl (lv_at hl 2 rfl) ?_
  refine lv_iload_n hx hb d_L_line_6 rfl (lv_at hl 3 rfl) ?_
  refine cth (A := Aw (wCo cI cZ cL g x ao f)) (As := [.int p0, .int p1, .int p2]) (rest := [.int 0, .ref ao]) ⟨hx, hb, hml, hown, htb⟩ (t_C_line_kn l hlt D cI cZ g hg x p0 p1 p2 hq hs0 hs1 hw) (cwvT (n := 3) htb cd_C_line k_L_27 in_C_line se_C_line ini_C hd_C_line ⟨Nat.le_of_ble_eq_true rfl, Nat.le_of_ble_eq_true rfl⟩) hK2 hP [0, 1, 2, 3, 4, 5, 6, 7, 8, 9, 10, 11, 12, 13, 14, 15, 16, 17, 18] rfl hT (ci := 2) rfl rfl rfl hl.1 rfl (Nat.le_of_ble_eq_true rfl) d_L_line_7 ⟨Nat.le_of_ble_eq_true rfl, Nat.le_of_ble_eq_true rfl⟩ (fun q ce H1 locs1 hP hS hce hcv hcl => ?_)
  refine vx_catch (own := "CacheLevelsLaw") (name := EI) hown [] ⟨0, 12, 15, 13⟩ [] (by rw [htab]; rfl) (fun z hz => by cases hz) (by decide) (by decide) (htb _ k_L_13) (va_Nw.use rfl (hT.1 (.castable EI EI) (by decide))) hce hcv hcl ?_
  refine lv_astore (i := 5) (lv' := (5, .ref q) :: [(0, .ref g.1.1), (1, .int p0), (2, .int p1), (3, .int p2), (4, .ref ao)]) hx hb d_L_line_15 hl (by decide) rfl (fun ls hl => ?_)
  refine lv_iconst (v := 1) hx hb d_L_line_17 (by decide) ?_
  exact W.iret (v := 1) hx hb hr (fun t ht hW => ⟨⟨1, (x, f), rfl, ⟨rfl, rfl⟩, by dsimp only; rw [ht]; exact hP⟩, hS.F ht⟩) hS.2.2 d_L_line_18
set_option maxHeartbeats 4000000 in
set_option maxRecDepth 100000 in
theorem c_L_line_n (l : Launch) (D : va_G) (cI cZ cL : ClassId) (g : GC) (hg : okC g) (x : Cs) (ao : Nat) (f : Fl) (p0 p1 p2 : Int32) (hq : p0 = -1) (hs0 : ¬ p1 < 0) (hs1 : p1 < g.2.2.2.2.1.2.1.1) (hk0 : ¬ p2 < 0) (hk1 : p2 < M_B_size g.2.2.2.2.1 x.2.2.1 ((M_C_groupOf p0 * g.2.2.2.2.1.2.1.1) + p1)) : Met l y_L_line w_L_line rm_L (PcH D vwCl (tyL cI cZ cL) [.ref g.1.1, .int p0, .int p1, .int p2, .ref ao] (wCo cI cZ cL g x ao f)) (va_Qi (fun (r : Int32) (u : Cs × Fl) => r = 0 ∧ u.2 0 = (M_C_line_n g x p0 p1 p2).toInt64 ∧ u.1 = x) (fun (u : Cs × Fl) (t : State) => va_P D vwCl (wCo cI cZ cL g u.1 ao u.2) t.heap) (Aw (wCo cI cZ cL g x ao f))) 1 6 (Aw (wCo cI cZ cL g x ao f)) := by
  refine va_MetW (cc := b_L_line) (maxL := 6) (ret := (some .int)) (hh := hh_L_line) (by decide) rfl ?_
  intro p e s m args below meth c s₁ B hml hv
  obtain ⟨rfl, hP, hK, hD0, hT, hNc⟩ := hv
  have hx := B.exec
  have hb := B.bytes
  have hr := B.returns
  have htb : ∀ w ∈ tbW, w.before _ s = true := fun w h => atoms_spec (ws := w_L_line) B.pre w (List.mem_cons_of_mem _ h)
  have hown : s.vm.findClass "CacheLevelsLaw" = some m.cls := findClass_of_methodNamed B.named
  have hlocks := B.notSynchronized
  have htab := vx_table (x := y_L_line) B (htb _ cd_L_line)
  have hK2 := hK.sub [0, 1] (tys' := tyK cI cZ) rfl
  have hD : va_D (Aw (wCo cI cZ cL g x ao f)) (wCo cI cZ cL g x ao f) := ⟨hD0.1, fun k q hk => ⟨k, q.2, hk⟩⟩
  have hS : va_S (Aw (wCo cI cZ cL g x ao f)) s.heap s.heap [] := va_S.rf
  have hl := lv_entry ([.ref g.1.1, .int p0, .int p1, .int p2, .ref ao]) (n := 6) (Nat.le_of_ble_eq_true rfl)
  rw [lg_entry_eq]
  generalize (lg_sl ([.ref g.1.1, .int p0, .int p1, .int p2, .ref ao]) ++ List.replicate (6 - (lg_sl ([.ref g.1.1, .int p0, .int p1, .int p2, .ref ao])).length) Slot.unset).toArray = ls at hl ⊢
  have hl : lv_has ls 6 [(0, .ref g.1.1), (1, .int p0), (2, .int p1), (3, .int p2), (4, .ref ao)] := hl
  refine lv_aload hx hb d_L_line_0 (lv_at hl 4 rfl) ?_
  refine lv_iconst (v := 0) hx hb d_L_line_2 (by decide) ?_
  refine lv_aload_n hx hb d_L_line_3 rfl (lv_at hl 0 rfl) ?_
  refine lv_iload_n hx hb d_L_line_4 rfl (lv_at hl 1 rfl) ?_
  refine lv_iload_n hx hb d_L_line_5 rfl (lv_at hl 2 rfl) ?_
  refine lv_iload_n hx hb d_L_line_6 rfl (lv_at hl 3 rfl) ?_
  refine cpi (As := [.int p0, .int p1, .int p2]) (rest := [.int 0, .ref ao]) ⟨hx, hb, hml, hown, htb⟩ (c_C_line_n l D cI cZ g hg x p0 p1 p2 hq hs0 hs1 hk0 hk1) (cwv (n := 3) htb cd_C_line k_L_27 in_C_line se_C_line ini_C hd_C_line ⟨Nat.le_of_ble_eq_true rfl, Nat.le_of_ble_eq_true rfl⟩) hK2 hP [0, 1, 2, 3, 4, 5, 6, 7, 8, 9, 10, 11, 12, 13, 14, 15, 16, 17, 18] rfl (ci := 2) rfl rfl rfl hl.1 rfl (Nat.le_of_ble_eq_true rfl) d_L_line_7 ⟨Nat.zero_le _, Nat.zero_le _⟩ (fun r hw => ?_)
  refine lv_i2l (v := r.toInt64) hx hb d_L_line_10 rfl ?_
  refine va_last hx hb hK hP hD hS 19 2 rfl rfl one_in0 d_L_line_11 (fun H1 locs1 hP hD hS => ?_)
  refine lv_goto (tgt := 19) hx hb d_L_line_12 (by decide) ?_
  refine lv_iconst (v := 0) hx hb d_L_line_19 (by decide) ?_
  refine W.widen (k := 1) (n := 6) (Nat.zero_le _) (Nat.zero_le _) ?_
  exact W.iret (v := 0) hx hb hr (fun t ht hW => ⟨⟨0, (x, vp_updL f (0 : Int32).toNatClampNeg r.toInt64), rfl, ⟨rfl, by rw [← hw]; exact out0 (f := f) (v := r.toInt64), rfl⟩, by dsimp only; rw [ht]; exact hP⟩, hS.F ht⟩) hS.2.2 d_L_line_20
set_option maxHeartbeats 4000000 in
set_option maxRecDepth 100000 in
theorem c_L_line_sc (l : Launch) (hlt : l.stackTraces = false) (D : va_G) (cI cZ cL : ClassId) (g : GC) (hg : okC g) (x : Cs) (ao : Nat) (f : Fl) (p0 p1 p2 : Int32) (hv0 : ¬ p0 < 0) (hv1 : p0 < g.2.1.1) (hq : ¬ p0 = -1) (hw : p1 < 0 ∨ ¬ p1 < g.2.2.2.1.2.1.1) : Met l y_L_line w_L_line rm_L (PcH D vwCl (tyL cI cZ cL) [.ref g.1.1, .int p0, .int p1, .int p2, .ref ao] (wCo cI cZ cL g x ao f)) (va_Qi (fun (r : Int32) (u : Cs × Fl) => r = 1 ∧ u.1 = x) (fun (u : Cs × Fl) (t : State) => va_P D vwCl (wCo cI cZ cL g u.1 ao u.2) t.heap) (Aw (wCo cI cZ cL g x ao f))) 1 6 (Aw (wCo cI cZ cL g x ao f)) := by
  refine va_MetW (cc := b_L_line) (maxL := 6) (ret := (some .int)) (hh := hh_L_line) (by decide) rfl ?_
  intro p e s m args below meth c s₁ B hml hv
  obtain ⟨rfl, hP, hK, hD0, hT, hNc⟩ := hv
  have hx := B.exec
  have hb := B.bytes
  have hr := B.returns
  have htb : ∀ w ∈ tbW, w.before _ s = true := fun w h => atoms_spec (ws := w_L_line) B.pre w (List.mem_cons_of_mem _ h)
  have hown : s.vm.findClass "CacheLevelsLaw" = some m.cls := findClass_of_methodNamed B.named
  have hlocks := B.notSynchronized
  have htab := vx_table (x := y_L_line) B (htb _ cd_L_line)
  have hK2 := hK.sub [0, 1] (tys' := tyK cI cZ) rfl
  have hD : va_D (Aw (wCo cI cZ cL g x ao f)) (wCo cI cZ cL g x ao f) := ⟨hD0.1, fun k q hk => ⟨k, q.2, hk⟩⟩
  have hS : va_S (Aw (wCo cI cZ cL g x ao f)) s.heap s.heap [] := va_S.rf
  have hl := lv_entry ([.ref g.1.1, .int p0, .int p1, .int p2, .ref ao]) (n := 6) (Nat.le_of_ble_eq_true rfl)
  rw [lg_entry_eq]
  generalize (lg_sl ([.ref g.1.1, .int p0, .int p1, .int p2, .ref ao]) ++ List.replicate (6 - (lg_sl ([.ref g.1.1, .int p0, .int p1, .int p2, .ref ao])).length) Slot.unset).toArray = ls at hl ⊢
  have hl : lv_has ls 6 [(0, .ref g.1.1), (1, .int p0), (2, .int p1), (3, .int p2), (4, .ref ao)] := hl
  refine lv_aload hx hb d_L_line_0 (lv_at hl 4 rfl) ?_
  refine lv_iconst (v := 0) hx hb d_L_line_2 (by decide) ?_
  refine lv_aload_n hx hb d_L_line_3 rfl (lv_at hl 0 rfl) ?_
  refine lv_iload_n hx hb d_L_line_4 rfl (lv_at hl 1 rfl) ?_
  refine lv_iload_n hx hb d_L_line_5 rfl (lv_at hl 2 rfl) ?_
  refine lv_iload_n hx hb d_L_line_6 rfl (lv_at hl 3 rfl) ?_
  refine cth (A := Aw (wCo cI cZ cL g x ao f)) (As := [.int p0, .int p1, .int p2]) (rest := [.int 0, .ref ao]) ⟨hx, hb, hml, hown, htb⟩ (t_C_line_sc l hlt D cI cZ g hg x p0 p1 p2 hv0 hv1 hq hw) (cwvT (n := 3) htb cd_C_line k_L_27 in_C_line se_C_line ini_C hd_C_line ⟨Nat.le_of_ble_eq_true rfl, Nat.le_of_ble_eq_true rfl⟩) hK2 hP [0, 1, 2, 3, 4, 5, 6, 7, 8, 9, 10, 11, 12, 13, 14, 15, 16, 17, 18] rfl hT (ci := 2) rfl rfl rfl hl.1 rfl (Nat.le_of_ble_eq_true rfl) d_L_line_7 ⟨Nat.le_of_ble_eq_true rfl, Nat.le_of_ble_eq_true rfl⟩ (fun q ce H1 locs1 hP hS hce hcv hcl => ?_)
  refine vx_catch (own := "CacheLevelsLaw") (name := EI) hown [] ⟨0, 12, 15, 13⟩ [] (by rw [htab]; rfl) (fun z hz => by cases hz) (by decide) (by decide) (htb _ k_L_13) (va_Nw.use rfl (hT.1 (.castable EI EI) (by decide))) hce hcv hcl ?_
  refine lv_astore (i := 5) (lv' := (5, .ref q) :: [(0, .ref g.1.1), (1, .int p0), (2, .int p1), (3, .int p2), (4, .ref ao)]) hx hb d_L_line_15 hl (by decide) rfl (fun ls hl => ?_)
  refine lv_iconst (v := 1) hx hb d_L_line_17 (by decide) ?_
  exact W.iret (v := 1) hx hb hr (fun t ht hW => ⟨⟨1, (x, f), rfl, ⟨rfl, rfl⟩, by dsimp only; rw [ht]; exact hP⟩, hS.F ht⟩) hS.2.2 d_L_line_18
set_option maxHeartbeats 4000000 in
set_option maxRecDepth 100000 in
theorem c_L_line_kc (l : Launch) (hlt : l.stackTraces = false) (D : va_G) (cI cZ cL : ClassId) (g : GC) (hg : okC g) (x : Cs) (ao : Nat) (f : Fl) (p0 p1 p2 : Int32) (hv0 : ¬ p0 < 0) (hv1 : p0 < g.2.1.1) (hq : ¬ p0 = -1) (hs0 : ¬ p1 < 0) (hs1 : p1 < g.2.2.2.1.2.1.1) (hw : p2 < 0 ∨ ¬ p2 < M_B_size g.2.2.2.1 x.2.1 ((M_C_groupOf p0 * g.2.2.2.1.2.1.1) + p1)) : Met l y_L_line w_L_line rm_L (PcH D vwCl (tyL cI cZ cL) [.ref g.1.1, .int p0, .int p1, .int p2, .ref ao] (wCo cI cZ cL g x ao f)) (va_Qi (fun (r : Int32) (u : Cs × Fl) => r = 1 ∧ u.1 = x) (fun (u : Cs × Fl) (t : State) => va_P D vwCl (wCo cI cZ cL g u.1 ao u.2) t.heap) (Aw (wCo cI cZ cL g x ao f))) 1 6 (Aw (wCo cI cZ cL g x ao f)) := by
  refine va_MetW (cc := b_L_line) (maxL := 6) (ret := (some .int)) (hh := hh_L_line) (by decide) rfl ?_
  intro p e s m args below meth c s₁ B hml hv
  obtain ⟨rfl, hP, hK, hD0, hT, hNc⟩ := hv
  have hx := B.exec
  have hb := B.bytes
  have hr := B.returns
  have htb : ∀ w ∈ tbW, w.before _ s = true := fun w h => atoms_spec (ws := w_L_line) B.pre w (List.mem_cons_of_mem _ h)
  have hown : s.vm.findClass "CacheLevelsLaw" = some m.cls := findClass_of_methodNamed B.named
  have hlocks := B.notSynchronized
  have htab := vx_table (x := y_L_line) B (htb _ cd_L_line)
  have hK2 := hK.sub [0, 1] (tys' := tyK cI cZ) rfl
  have hD : va_D (Aw (wCo cI cZ cL g x ao f)) (wCo cI cZ cL g x ao f) := ⟨hD0.1, fun k q hk => ⟨k, q.2, hk⟩⟩
  have hS : va_S (Aw (wCo cI cZ cL g x ao f)) s.heap s.heap [] := va_S.rf
  have hl := lv_entry ([.ref g.1.1, .int p0, .int p1, .int p2, .ref ao]) (n := 6) (Nat.le_of_ble_eq_true rfl)
  rw [lg_entry_eq]
  generalize (lg_sl ([.ref g.1.1, .int p0, .int p1, .int p2, .ref ao]) ++ List.replicate (6 - (lg_sl ([.ref g.1.1, .int p0, .int p1, .int p2, .ref ao])).length) Slot.unset).toArray = ls at hl ⊢
  have hl : lv_has ls 6 [(0, .ref g.1.1), (1, .int p0), (2, .int p1), (3, .int p2), (4, .ref ao)] := hl
  refine lv_aload hx hb d_L_line_0 (lv_at hl 4 rfl) ?_
  refine lv_iconst (v := 0) hx hb d_L_line_2 (by decide) ?_
  refine lv_aload_n hx hb d_L_line_3 rfl (lv_at hl 0 rfl) ?_
  refine lv_iload_n hx hb d_L_line_4 rfl (lv_at hl 1 rfl) ?_
  refine lv_iload_n hx hb d_L_line_5 rfl (lv_at hl 2 rfl) ?_
  refine lv_iload_n hx hb d_L_line_6 rfl (lv_at hl 3 rfl) ?_
  refine cth (A := Aw (wCo cI cZ cL g x ao f)) (As := [.int p0, .int p1, .int p2]) (rest := [.int 0, .ref ao]) ⟨hx, hb, hml, hown, htb⟩ (t_C_line_kc l hlt D cI cZ g hg x p0 p1 p2 hv0 hv1 hq hs0 hs1 hw) (cwvT (n := 3) htb cd_C_line k_L_27 in_C_line se_C_line ini_C hd_C_line ⟨Nat.le_of_ble_eq_true rfl, Nat.le_of_ble_eq_true rfl⟩) hK2 hP [0, 1, 2, 3, 4, 5, 6, 7, 8, 9, 10, 11, 12, 13, 14, 15, 16, 17, 18] rfl hT (ci := 2) rfl rfl rfl hl.1 rfl (Nat.le_of_ble_eq_true rfl) d_L_line_7 ⟨Nat.le_of_ble_eq_true rfl, Nat.le_of_ble_eq_true rfl⟩ (fun q ce H1 locs1 hP hS hce hcv hcl => ?_)
  refine vx_catch (own := "CacheLevelsLaw") (name := EI) hown [] ⟨0, 12, 15, 13⟩ [] (by rw [htab]; rfl) (fun z hz => by cases hz) (by decide) (by decide) (htb _ k_L_13) (va_Nw.use rfl (hT.1 (.castable EI EI) (by decide))) hce hcv hcl ?_
  refine lv_astore (i := 5) (lv' := (5, .ref q) :: [(0, .ref g.1.1), (1, .int p0), (2, .int p1), (3, .int p2), (4, .ref ao)]) hx hb d_L_line_15 hl (by decide) rfl (fun ls hl => ?_)
  refine lv_iconst (v := 1) hx hb d_L_line_17 (by decide) ?_
  exact W.iret (v := 1) hx hb hr (fun t ht hW => ⟨⟨1, (x, f), rfl, ⟨rfl, rfl⟩, by dsimp only; rw [ht]; exact hP⟩, hS.F ht⟩) hS.2.2 d_L_line_18
set_option maxHeartbeats 4000000 in
set_option maxRecDepth 100000 in
theorem c_L_line_o (l : Launch) (D : va_G) (cI cZ cL : ClassId) (g : GC) (hg : okC g) (x : Cs) (ao : Nat) (f : Fl) (p0 p1 p2 : Int32) (hv0 : ¬ p0 < 0) (hv1 : p0 < g.2.1.1) (hq : ¬ p0 = -1) (hs0 : ¬ p1 < 0) (hs1 : p1 < g.2.2.2.1.2.1.1) (hk0 : ¬ p2 < 0) (hk1 : p2 < M_B_size g.2.2.2.1 x.2.1 ((M_C_groupOf p0 * g.2.2.2.1.2.1.1) + p1)) : Met l y_L_line w_L_line rm_L (PcH D vwCl (tyL cI cZ cL) [.ref g.1.1, .int p0, .int p1, .int p2, .ref ao] (wCo cI cZ cL g x ao f)) (va_Qi (fun (r : Int32) (u : Cs × Fl) => r = 0 ∧ u.2 0 = (M_C_line_c g x p0 p1 p2).toInt64 ∧ u.1 = x) (fun (u : Cs × Fl) (t : State) => va_P D vwCl (wCo cI cZ cL g u.1 ao u.2) t.heap) (Aw (wCo cI cZ cL g x ao f))) 1 6 (Aw (wCo cI cZ cL g x ao f)) := by
  refine va_MetW (cc := b_L_line) (maxL := 6) (ret := (some .int)) (hh := hh_L_line) (by decide) rfl ?_
  intro p e s m args below meth c s₁ B hml hv
  obtain ⟨rfl, hP, hK, hD0, hT, hNc⟩ := hv
  have hx := B.exec
  have hb := B.bytes
  have hr := B.returns
  have htb : ∀ w ∈ tbW, w.before _ s = true := fun w h => atoms_spec (ws := w_L_line) B.pre w (List.mem_cons_of_mem _ h)
  have hown : s.vm.findClass "CacheLevelsLaw" = some m.cls := findClass_of_methodNamed B.named
  have hlocks := B.notSynchronized
  have htab := vx_table (x := y_L_line) B (htb _ cd_L_line)
  have hK2 := hK.sub [0, 1] (tys' := tyK cI cZ) rfl
  have hD : va_D (Aw (wCo cI cZ cL g x ao f)) (wCo cI cZ cL g x ao f) := ⟨hD0.1, fun k q hk => ⟨k, q.2, hk⟩⟩
  have hS : va_S (Aw (wCo cI cZ cL g x ao f)) s.heap s.heap [] := va_S.rf
  have hl := lv_entry ([.ref g.1.1, .int p0, .int p1, .int p2, .ref ao]) (n := 6) (Nat.le_of_ble_eq_true rfl)
  rw [lg_entry_eq]
  generalize (lg_sl ([.ref g.1.1, .int p0, .int p1, .int p2, .ref ao]) ++ List.replicate (6 - (lg_sl ([.ref g.1.1, .int p0, .int p1, .int p2, .ref ao])).length) Slot.unset).toArray = ls at hl ⊢
  have hl : lv_has ls 6 [(0, .ref g.1.1), (1, .int p0), (2, .int p1), (3, .int p2), (4, .ref ao)] := hl
  refine lv_aload hx hb d_L_line_0 (lv_at hl 4 rfl) ?_
  refine lv_iconst (v := 0) hx hb d_L_line_2 (by decide) ?_
  refine lv_aload_n hx hb d_L_line_3 rfl (lv_at hl 0 rfl) ?_
  refine lv_iload_n hx hb d_L_line_4 rfl (lv_at hl 1 rfl) ?_
  refine lv_iload_n hx hb d_L_line_5 rfl (lv_at hl 2 rfl) ?_
  refine lv_iload_n hx hb d_L_line_6 rfl (lv_at hl 3 rfl) ?_
  refine cpi (As := [.int p0, .int p1, .int p2]) (rest := [.int 0, .ref ao]) ⟨hx, hb, hml, hown, htb⟩ (c_C_line_c l D cI cZ g hg x p0 p1 p2 hv0 hv1 hq hs0 hs1 hk0 hk1) (cwv (n := 3) htb cd_C_line k_L_27 in_C_line se_C_line ini_C hd_C_line ⟨Nat.le_of_ble_eq_true rfl, Nat.le_of_ble_eq_true rfl⟩) hK2 hP [0, 1, 2, 3, 4, 5, 6, 7, 8, 9, 10, 11, 12, 13, 14, 15, 16, 17, 18] rfl (ci := 2) rfl rfl rfl hl.1 rfl (Nat.le_of_ble_eq_true rfl) d_L_line_7 ⟨Nat.zero_le _, Nat.zero_le _⟩ (fun r hw => ?_)
  refine lv_i2l (v := r.toInt64) hx hb d_L_line_10 rfl ?_
  refine va_last hx hb hK hP hD hS 19 2 rfl rfl one_in0 d_L_line_11 (fun H1 locs1 hP hD hS => ?_)
  refine lv_goto (tgt := 19) hx hb d_L_line_12 (by decide) ?_
  refine lv_iconst (v := 0) hx hb d_L_line_19 (by decide) ?_
  refine W.widen (k := 1) (n := 6) (Nat.zero_le _) (Nat.zero_le _) ?_
  exact W.iret (v := 0) hx hb hr (fun t ht hW => ⟨⟨0, (x, vp_updL f (0 : Int32).toNatClampNeg r.toInt64), rfl, ⟨rfl, by rw [← hw]; exact out0 (f := f) (v := r.toInt64), rfl⟩, by dsimp only; rw [ht]; exact hP⟩, hS.F ht⟩) hS.2.2 d_L_line_20
abbrev w_L_core : List Cond := .codeWith y_L_core b_L_core 5 (some .int) hh_L_core :: tbW
set_option maxHeartbeats 4000000 in
set_option maxRecDepth 100000 in
theorem c_L_core_t (l : Launch) (hlt : l.stackTraces = false) (D : va_G) (cI cZ cL : ClassId) (g : GC) (hg : okC g) (x : Cs) (ao : Nat) (f : Fl) (p0 p1 : Int32) (hbad : p0 < 0 ∨ ¬ p0 < g.2.1.1) : Met l y_L_core w_L_core rm_L (PcH D vwCl (tyL cI cZ cL) [.ref g.1.1, .int p0, .int p1, .ref ao] (wCo cI cZ cL g x ao f)) (va_Qi (fun (r : Int32) (u : Cs × Fl) => r = 1 ∧ u.1 = x) (fun (u : Cs × Fl) (t : State) => va_P D vwCl (wCo cI cZ cL g u.1 ao u.2) t.heap) (Aw (wCo cI cZ cL g x ao f))) 1 6 (Aw (wCo cI cZ cL g x ao f)) := by
  refine va_MetW (cc := b_L_core) (maxL := 5) (ret := (some .int)) (hh := hh_L_core) (by decide) rfl ?_
  intro p e s m args below meth c s₁ B hml hv
  obtain ⟨rfl, hP, hK, hD0, hT, hNc⟩ := hv
  have hx := B.exec
  have hb := B.bytes
  have hr := B.returns
  have htb : ∀ w ∈ tbW, w.before _ s = true := fun w h => atoms_spec (ws := w_L_core) B.pre w (List.mem_cons_of_mem _ h)
  have hown : s.vm.findClass "CacheLevelsLaw" = some m.cls := findClass_of_methodNamed B.named
  have hlocks := B.notSynchronized
  have htab := vx_table (x := y_L_core) B (htb _ cd_L_core)
  have hK2 := hK.sub [0, 1] (tys' := tyK cI cZ) rfl
  have hD : va_D (Aw (wCo cI cZ cL g x ao f)) (wCo cI cZ cL g x ao f) := ⟨hD0.1, fun k q hk => ⟨k, q.2, hk⟩⟩
  have hS : va_S (Aw (wCo cI cZ cL g x ao f)) s.heap s.heap [] := va_S.rf
  have hl := lv_entry ([.ref g.1.1, .int p0, .int p1, .ref ao]) (n := 5) (Nat.le_of_ble_eq_true rfl)
  rw [lg_entry_eq]
  generalize (lg_sl ([.ref g.1.1, .int p0, .int p1, .ref ao]) ++ List.replicate (5 - (lg_sl ([.ref g.1.1, .int p0, .int p1, .ref ao])).length) Slot.unset).toArray = ls at hl ⊢
  have hl : lv_has ls 5 [(0, .ref g.1.1), (1, .int p0), (2, .int p1), (3, .ref ao)] := hl
  refine lv_aload_n hx hb d_L_core_0 rfl (lv_at hl 3 rfl) ?_
  refine lv_iconst (v := 0) hx hb d_L_core_1 (by decide) ?_
  refine lv_aload_n hx hb d_L_core_2 rfl (lv_at hl 0 rfl) ?_
  refine lv_iload_n hx hb d_L_core_3 rfl (lv_at hl 1 rfl) ?_
  refine lv_iload_n hx hb d_L_core_4 rfl (lv_at hl 2 rfl) ?_
  refine cth (A := Aw (wCo cI cZ cL g x ao f)) (As := [.int p0, .int p1]) (rest := [.int 0, .ref ao]) ⟨hx, hb, hml, hown, htb⟩ (t_C_core_c l hlt D cI cZ g hg x p0 p1 hbad) (cwvT (n := 2) htb cd_C_core k_L_30 in_C_core se_C_core ini_C hd_C_core ⟨Nat.le_of_ble_eq_true rfl, Nat.le_of_ble_eq_true rfl⟩) hK2 hP [0, 1, 2, 3, 4, 5, 6, 7, 8, 9, 10, 11, 12, 13, 14, 15, 16, 17, 18] rfl hT (ci := 2) rfl rfl rfl hl.1 rfl (Nat.le_of_ble_eq_true rfl) d_L_core_5 ⟨Nat.le_of_ble_eq_true rfl, Nat.le_of_ble_eq_true rfl⟩ (fun q ce H1 locs1 hP hS hce hcv hcl => ?_)
  refine vx_catch (own := "CacheLevelsLaw") (name := EI) hown [] ⟨0, 10, 13, 13⟩ [] (by rw [htab]; rfl) (fun z hz => by cases hz) (by decide) (by decide) (htb _ k_L_13) (va_Nw.use rfl (hT.1 (.castable EI EI) (by decide))) hce hcv hcl ?_
  refine lv_astore (i := 4) (lv' := (4, .ref q) :: [(0, .ref g.1.1), (1, .int p0), (2, .int p1), (3, .ref ao)]) hx hb d_L_core_13 hl (by decide) rfl (fun ls hl => ?_)
  refine lv_iconst (v := 1) hx hb d_L_core_15 (by decide) ?_
  exact W.iret (v := 1) hx hb hr (fun t ht hW => ⟨⟨1, (x, f), rfl, ⟨rfl, rfl⟩, by dsimp only; rw [ht]; exact hP⟩, hS.F ht⟩) hS.2.2 d_L_core_16
set_option maxHeartbeats 4000000 in
set_option maxRecDepth 100000 in
theorem c_L_core_k (l : Launch) (hlt : l.stackTraces = false) (D : va_G) (cI cZ cL : ClassId) (g : GC) (hg : okC g) (x : Cs) (ao : Nat) (f : Fl) (p0 p1 : Int32) (hv0 : ¬ p0 < 0) (hv1 : p0 < g.2.1.1) (hw : p1 < 0 ∨ ¬ p1 ≤ 7) : Met l y_L_core w_L_core rm_L (PcH D vwCl (tyL cI cZ cL) [.ref g.1.1, .int p0, .int p1, .ref ao] (wCo cI cZ cL g x ao f)) (va_Qi (fun (r : Int32) (u : Cs × Fl) => r = 1 ∧ u.1 = x) (fun (u : Cs × Fl) (t : State) => va_P D vwCl (wCo cI cZ cL g u.1 ao u.2) t.heap) (Aw (wCo cI cZ cL g x ao f))) 1 6 (Aw (wCo cI cZ cL g x ao f)) := by
  refine va_MetW (cc := b_L_core) (maxL := 5) (ret := (some .int)) (hh := hh_L_core) (by decide) rfl ?_
  intro p e s m args below meth c s₁ B hml hv
  obtain ⟨rfl, hP, hK, hD0, hT, hNc⟩ := hv
  have hx := B.exec
  have hb := B.bytes
  have hr := B.returns
  have htb : ∀ w ∈ tbW, w.before _ s = true := fun w h => atoms_spec (ws := w_L_core) B.pre w (List.mem_cons_of_mem _ h)
  have hown : s.vm.findClass "CacheLevelsLaw" = some m.cls := findClass_of_methodNamed B.named
  have hlocks := B.notSynchronized
  have htab := vx_table (x := y_L_core) B (htb _ cd_L_core)
  have hK2 := hK.sub [0, 1] (tys' := tyK cI cZ) rfl
  have hD : va_D (Aw (wCo cI cZ cL g x ao f)) (wCo cI cZ cL g x ao f) := ⟨hD0.1, fun k q hk => ⟨k, q.2, hk⟩⟩
  have hS : va_S (Aw (wCo cI cZ cL g x ao f)) s.heap s.heap [] := va_S.rf
  have hl := lv_entry ([.ref g.1.1, .int p0, .int p1, .ref ao]) (n := 5) (Nat.le_of_ble_eq_true rfl)
  rw [lg_entry_eq]
  generalize (lg_sl ([.ref g.1.1, .int p0, .int p1, .ref ao]) ++ List.replicate (5 - (lg_sl ([.ref g.1.1, .int p0, .int p1, .ref ao])).length) Slot.unset).toArray = ls at hl ⊢
  have hl : lv_has ls 5 [(0, .ref g.1.1), (1, .int p0), (2, .int p1), (3, .ref ao)] := hl
  refine lv_aload_n hx hb d_L_core_0 rfl (lv_at hl 3 rfl) ?_
  refine lv_iconst (v := 0) hx hb d_L_core_1 (by decide) ?_
  refine lv_aload_n hx hb d_L_core_2 rfl (lv_at hl 0 rfl) ?_
  refine lv_iload_n hx hb d_L_core_3 rfl (lv_at hl 1 rfl) ?_
  refine lv_iload_n hx hb d_L_core_4 rfl (lv_at hl 2 rfl) ?_
  refine cth (A := Aw (wCo cI cZ cL g x ao f)) (As := [.int p0, .int p1]) (rest := [.int 0, .ref ao]) ⟨hx, hb, hml, hown, htb⟩ (t_C_core_w l hlt D cI cZ g hg x p0 p1 hv0 hv1 hw) (cwvT (n := 2) htb cd_C_core k_L_30 in_C_core se_C_core ini_C hd_C_core ⟨Nat.le_of_ble_eq_true rfl, Nat.le_of_ble_eq_true rfl⟩) hK2 hP [0, 1, 2, 3, 4, 5, 6, 7, 8, 9, 10, 11, 12, 13, 14, 15, 16, 17, 18] rfl hT (ci := 2) rfl rfl rfl hl.1 rfl (Nat.le_of_ble_eq_true rfl) d_L_core_5 ⟨Nat.le_of_ble_eq_true rfl, Nat.le_of_ble_eq_true rfl⟩ (fun q ce H1 locs1 hP hS hce hcv hcl => ?_)
  refine vx_catch (own := "CacheLevelsLaw") (name := EI) hown [] ⟨0, 10, 13, 13⟩ [] (by rw [htab]; rfl) (fun z hz => by cases hz) (by decide) (by decide) (htb _ k_L_13) (va_Nw.use rfl (hT.1 (.castable EI EI) (by decide))) hce hcv hcl ?_
  refine lv_astore (i := 4) (lv' := (4, .ref q) :: [(0, .ref g.1.1), (1, .int p0), (2, .int p1), (3, .ref ao)]) hx hb d_L_core_13 hl (by decide) rfl (fun ls hl => ?_)
  refine lv_iconst (v := 1) hx hb d_L_core_15 (by decide) ?_
  exact W.iret (v := 1) hx hb hr (fun t ht hW => ⟨⟨1, (x, f), rfl, ⟨rfl, rfl⟩, by dsimp only; rw [ht]; exact hP⟩, hS.F ht⟩) hS.2.2 d_L_core_16
set_option maxHeartbeats 4000000 in
set_option maxRecDepth 100000 in
theorem c_L_core_o (l : Launch) (D : va_G) (cI cZ cL : ClassId) (g : GC) (hg : okC g) (x : Cs) (ao : Nat) (f : Fl) (p0 p1 : Int32) (hv0 : ¬ p0 < 0) (hv1 : p0 < g.2.1.1) (hw0 : ¬ p1 < 0) (hw1 : p1 ≤ 7) : Met l y_L_core w_L_core rm_L (PcH D vwCl (tyL cI cZ cL) [.ref g.1.1, .int p0, .int p1, .ref ao] (wCo cI cZ cL g x ao f)) (va_Qi (fun (r : Int32) (u : Cs × Fl) => r = 0 ∧ u.2 0 = (M_C_core g x p0 p1).toInt64 ∧ u.1 = x) (fun (u : Cs × Fl) (t : State) => va_P D vwCl (wCo cI cZ cL g u.1 ao u.2) t.heap) (Aw (wCo cI cZ cL g x ao f))) 1 6 (Aw (wCo cI cZ cL g x ao f)) := by
  refine va_MetW (cc := b_L_core) (maxL := 5) (ret := (some .int)) (hh := hh_L_core) (by decide) rfl ?_
  intro p e s m args below meth c s₁ B hml hv
  obtain ⟨rfl, hP, hK, hD0, hT, hNc⟩ := hv
  have hx := B.exec
  have hb := B.bytes
  have hr := B.returns
  have htb : ∀ w ∈ tbW, w.before _ s = true := fun w h => atoms_spec (ws := w_L_core) B.pre w (List.mem_cons_of_mem _ h)
  have hown : s.vm.findClass "CacheLevelsLaw" = some m.cls := findClass_of_methodNamed B.named
  have hlocks := B.notSynchronized
  have htab := vx_table (x := y_L_core) B (htb _ cd_L_core)
  have hK2 := hK.sub [0, 1] (tys' := tyK cI cZ) rfl
  have hD : va_D (Aw (wCo cI cZ cL g x ao f)) (wCo cI cZ cL g x ao f) := ⟨hD0.1, fun k q hk => ⟨k, q.2, hk⟩⟩
  have hS : va_S (Aw (wCo cI cZ cL g x ao f)) s.heap s.heap [] := va_S.rf
  have hl := lv_entry ([.ref g.1.1, .int p0, .int p1, .ref ao]) (n := 5) (Nat.le_of_ble_eq_true rfl)
  rw [lg_entry_eq]
  generalize (lg_sl ([.ref g.1.1, .int p0, .int p1, .ref ao]) ++ List.replicate (5 - (lg_sl ([.ref g.1.1, .int p0, .int p1, .ref ao])).length) Slot.unset).toArray = ls at hl ⊢
  have hl : lv_has ls 5 [(0, .ref g.1.1), (1, .int p0), (2, .int p1), (3, .ref ao)] := hl
  refine lv_aload_n hx hb d_L_core_0 rfl (lv_at hl 3 rfl) ?_
  refine lv_iconst (v := 0) hx hb d_L_core_1 (by decide) ?_
  refine lv_aload_n hx hb d_L_core_2 rfl (lv_at hl 0 rfl) ?_
  refine lv_iload_n hx hb d_L_core_3 rfl (lv_at hl 1 rfl) ?_
  refine lv_iload_n hx hb d_L_core_4 rfl (lv_at hl 2 rfl) ?_
  refine cpi (As := [.int p0, .int p1]) (rest := [.int 0, .ref ao]) ⟨hx, hb, hml, hown, htb⟩ (c_C_core l D cI cZ g hg x p0 p1 hv0 hv1 hw0 hw1) (cwv (n := 2) htb cd_C_core k_L_30 in_C_core se_C_core ini_C hd_C_core ⟨Nat.le_of_ble_eq_true rfl, Nat.le_of_ble_eq_true rfl⟩) hK2 hP [0, 1, 2, 3, 4, 5, 6, 7, 8, 9, 10, 11, 12, 13, 14, 15, 16, 17, 18] rfl (ci := 2) rfl rfl rfl hl.1 rfl (Nat.le_of_ble_eq_true rfl) d_L_core_5 ⟨Nat.zero_le _, Nat.zero_le _⟩ (fun r hw => ?_)
  refine lv_i2l (v := r.toInt64) hx hb d_L_core_8 rfl ?_
  refine va_last hx hb hK hP hD hS 19 2 rfl rfl one_in0 d_L_core_9 (fun H1 locs1 hP hD hS => ?_)
  refine lv_goto (tgt := 17) hx hb d_L_core_10 (by decide) ?_
  refine lv_iconst (v := 0) hx hb d_L_core_17 (by decide) ?_
  refine W.widen (k := 1) (n := 6) (Nat.zero_le _) (Nat.zero_le _) ?_
  exact W.iret (v := 0) hx hb hr (fun t ht hW => ⟨⟨0, (x, vp_updL f (0 : Int32).toNatClampNeg r.toInt64), rfl, ⟨rfl, by rw [← hw]; exact out0 (f := f) (v := r.toInt64), rfl⟩, by dsimp only; rw [ht]; exact hP⟩, hS.F ht⟩) hS.2.2 d_L_core_18
