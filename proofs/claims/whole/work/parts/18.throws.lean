abbrev w_C_requireCore_t : List Cond := .code y_C_requireCore b_C_requireCore 2 none :: tbW
abbrev rm_C_requireCore_t : Room := { frames := 6, cells := 1, slots := 6, locals := 82 }
set_option maxHeartbeats 4000000 in
set_option maxRecDepth 100000 in
theorem t_C_requireCore_t (l : Launch) (hlt : l.stackTraces = false) (D : va_G) (cI cZ : ClassId) (g : GC) (hg : okC g) (x : Cs) (p0 : Int32) (hbad : p0 < 0 ∨ ¬ p0 < g.2.1.1) : vx_Met l y_C_requireCore w_C_requireCore_t rm_C_requireCore_t (PcT D vwCl (tyK cI cZ) [.ref g.1.1, .int p0] (wC cI cZ g x)) (va_Qv (fun _ : Unit => False) (fun _ _ => True) (fun _ => False)) (XT EI) 1 6 (fun _ => False) := by
  refine vx_ofW (cc := b_C_requireCore) (maxL := 2) (ret := none) (by decide) rfl ?_
  intro p e s m args below meth c s₁ B hml htab hv
  obtain ⟨rfl, hP, hK, hT⟩ := hv
  have hx := B.exec
  have hb := B.bytes
  have hr := B.returns
  have htb : ∀ w ∈ tbW, w.before _ s = true := fun w h => atoms_spec (ws := w_C_requireCore_t) B.pre w (List.mem_cons_of_mem _ h)
  have hown : s.vm.findClass R_C = some m.cls := findClass_of_methodNamed B.named
  have hlocks := B.notSynchronized
  have hl := lv_entry ([.ref g.1.1, .int p0]) (n := 2) (Nat.le_of_ble_eq_true rfl)
  rw [lg_entry_eq]
  generalize (lg_sl ([.ref g.1.1, .int p0]) ++ List.replicate (2 - (lg_sl ([.ref g.1.1, .int p0])).length) Slot.unset).toArray = ls at hl ⊢
  have hl : lv_has ls 2 [(0, .ref g.1.1), (1, .int p0)] := hl
  refine lv_iload_n hx hb d_C_requireCore_0 rfl (lv_at hl 1 rfl) ?_
  refine lv_if_lt (tgt := 12) hx hb d_C_requireCore_1 (by decide) (fun c_1 => ?_) (fun c_1 => ?_)
  · skip
    exact thrI (text := "there is no such core") hx hb hlt hown htb hT (by decide) (hl.1.trans hml.symm) d_C_requireCore_12 d_C_requireCore_15 d_C_requireCore_16 d_C_requireCore_18 d_C_requireCore_21 htab ⟨Nat.le_of_ble_eq_true rfl, Nat.le_of_ble_eq_true rfl, Nat.le_of_ble_eq_true rfl, Nat.le_of_ble_eq_true rfl⟩ hlocks
  · skip
    refine lv_iload_n hx hb d_C_requireCore_4 rfl (lv_at hl 1 rfl) ?_
    refine lv_aload_n hx hb d_C_requireCore_5 rfl (lv_at hl 0 rfl) ?_
    refine va_get (D := D) (ci := 2) (v := .int g.2.1.1) (C := R_C) (T := T_C) (N := 10) hx hb htb i_C hown hK hP 0 rfl rfl 0 (by decide) (htb _ k_C_15) (fun _ h9 => h9) rfl d_C_requireCore_6 ?_
    refine lv_icmp_lt (tgt := 22) hx hb d_C_requireCore_9 (by decide) (fun c_9 => ?_) (fun c_9 => ?_)
    · exact absurd c_9 (hbad.resolve_left c_1)
    · skip
      exact thrI (text := "there is no such core") hx hb hlt hown htb hT (by decide) (hl.1.trans hml.symm) d_C_requireCore_12 d_C_requireCore_15 d_C_requireCore_16 d_C_requireCore_18 d_C_requireCore_21 htab ⟨Nat.le_of_ble_eq_true rfl, Nat.le_of_ble_eq_true rfl, Nat.le_of_ble_eq_true rfl, Nat.le_of_ble_eq_true rfl⟩ hlocks

abbrev w_C_requireCoreOrNone_t : List Cond := .code y_C_requireCoreOrNone b_C_requireCoreOrNone 2 none :: tbW
abbrev rm_C_requireCoreOrNone_t : Room := { frames := 7, cells := 1, slots := 6, locals := 103 }
set_option maxHeartbeats 4000000 in
set_option maxRecDepth 100000 in
theorem t_C_requireCoreOrNone_t (l : Launch) (hlt : l.stackTraces = false) (D : va_G) (cI cZ : ClassId) (g : GC) (hg : okC g) (x : Cs) (p0 : Int32) (hbad : p0 < 0 ∨ ¬ p0 < g.2.1.1) (hq : ¬ p0 = -1) : vx_Met l y_C_requireCoreOrNone w_C_requireCoreOrNone_t rm_C_requireCoreOrNone_t (PcT D vwCl (tyK cI cZ) [.ref g.1.1, .int p0] (wC cI cZ g x)) (va_Qv (fun _ : Unit => False) (fun _ _ => True) (fun _ => False)) (XT EI) 1 6 (fun _ => False) := by
  refine vx_ofW (cc := b_C_requireCoreOrNone) (maxL := 2) (ret := none) (by decide) rfl ?_
  intro p e s m args below meth c s₁ B hml htab hv
  obtain ⟨rfl, hP, hK, hT⟩ := hv
  have hx := B.exec
  have hb := B.bytes
  have hr := B.returns
  have htb : ∀ w ∈ tbW, w.before _ s = true := fun w h => atoms_spec (ws := w_C_requireCoreOrNone_t) B.pre w (List.mem_cons_of_mem _ h)
  have hown : s.vm.findClass R_C = some m.cls := findClass_of_methodNamed B.named
  have hlocks := B.notSynchronized
  have hl := lv_entry ([.ref g.1.1, .int p0]) (n := 2) (Nat.le_of_ble_eq_true rfl)
  rw [lg_entry_eq]
  generalize (lg_sl ([.ref g.1.1, .int p0]) ++ List.replicate (2 - (lg_sl ([.ref g.1.1, .int p0])).length) Slot.unset).toArray = ls at hl ⊢
  have hl : lv_has ls 2 [(0, .ref g.1.1), (1, .int p0)] := hl
  refine lv_iload_n hx hb d_C_requireCoreOrNone_0 rfl (lv_at hl 1 rfl) ?_
  refine lv_iconst (v := -1) hx hb d_C_requireCoreOrNone_1 (by decide) ?_
  refine lv_icmp_eq (tgt := 10) hx hb d_C_requireCoreOrNone_2 (by decide) (fun c_2 => ?_) (fun c_2 => ?_)
  · exact absurd c_2 hq
  · skip
    refine lv_aload_n hx hb d_C_requireCoreOrNone_5 rfl (lv_at hl 0 rfl) ?_
    refine lv_iload_n hx hb d_C_requireCoreOrNone_6 rfl (lv_at hl 1 rfl) ?_
    exact ctv (As := [.int p0]) (rest := []) ⟨hx, hb, hml, hown, htb⟩ (t_C_requireCore_t l hlt D cI cZ g hg x p0 hbad) (cwvT (n := 1) htb cd_C_requireCore k_C_57 in_C_requireCore se_C_requireCore ini_C hd_C_requireCore ⟨Nat.le_of_ble_eq_true rfl, Nat.le_of_ble_eq_true rfl⟩) hK hP hT (ci := 2) rfl rfl rfl hl.1 rfl (Nat.le_of_ble_eq_true rfl) d_C_requireCoreOrNone_7 ⟨Nat.le_of_ble_eq_true rfl, Nat.le_of_ble_eq_true rfl⟩ htab hlocks

abbrev w_C_access_c : List Cond := .code y_C_access b_C_access 6 (some .int) :: tbW
abbrev rm_C_access_c : Room := { frames := 7, cells := 1, slots := 6, locals := 103 }
set_option maxHeartbeats 4000000 in
set_option maxRecDepth 100000 in
theorem t_C_access_c (l : Launch) (hlt : l.stackTraces = false) (D : va_G) (cI cZ : ClassId) (g : GC) (hg : okC g) (x : Cs) (p0 p1 p2 : Int32) (hbad : p0 < 0 ∨ ¬ p0 < g.2.1.1) : vx_Met l y_C_access w_C_access_c rm_C_access_c (PcT D vwCl (tyK cI cZ) [.ref g.1.1, .int p0, .int p1, .int p2] (wC cI cZ g x)) (va_Qi (fun (_ : Int32) (_ : Unit) => False) (fun _ _ => True) (fun _ => False)) (XT EI) 1 6 (fun _ => False) := by
  refine vx_ofW (cc := b_C_access) (maxL := 6) (ret := (some .int)) (by decide) rfl ?_
  intro p e s m args below meth c s₁ B hml htab hv
  obtain ⟨rfl, hP, hK, hT⟩ := hv
  have hx := B.exec
  have hb := B.bytes
  have hr := B.returns
  have htb : ∀ w ∈ tbW, w.before _ s = true := fun w h => atoms_spec (ws := w_C_access_c) B.pre w (List.mem_cons_of_mem _ h)
  have hown : s.vm.findClass R_C = some m.cls := findClass_of_methodNamed B.named
  have hlocks := B.notSynchronized
  have hl := lv_entry ([.ref g.1.1, .int p0, .int p1, .int p2]) (n := 6) (Nat.le_of_ble_eq_true rfl)
  rw [lg_entry_eq]
  generalize (lg_sl ([.ref g.1.1, .int p0, .int p1, .int p2]) ++ List.replicate (6 - (lg_sl ([.ref g.1.1, .int p0, .int p1, .int p2])).length) Slot.unset).toArray = ls at hl ⊢
  have hl : lv_has ls 6 [(0, .ref g.1.1), (1, .int p0), (2, .int p1), (3, .int p2)] := hl
  refine lv_aload_n hx hb d_C_access_0 rfl (lv_at hl 0 rfl) ?_
  refine lv_iload_n hx hb d_C_access_1 rfl (lv_at hl 1 rfl) ?_
  exact ctv (As := [.int p0]) (rest := []) ⟨hx, hb, hml, hown, htb⟩ (t_C_requireCore_t l hlt D cI cZ g hg x p0 hbad) (cwvT (n := 1) htb cd_C_requireCore k_C_57 in_C_requireCore se_C_requireCore ini_C hd_C_requireCore ⟨Nat.le_of_ble_eq_true rfl, Nat.le_of_ble_eq_true rfl⟩) hK hP hT (ci := 2) rfl rfl rfl hl.1 rfl (Nat.le_of_ble_eq_true rfl) d_C_access_2 ⟨Nat.le_of_ble_eq_true rfl, Nat.le_of_ble_eq_true rfl⟩ htab hlocks

abbrev w_C_access_k : List Cond := .code y_C_access b_C_access 6 (some .int) :: tbW
abbrev rm_C_access_k : Room := { frames := 6, cells := 1, slots := 6, locals := 82 }
set_option maxHeartbeats 4000000 in
set_option maxRecDepth 100000 in
theorem t_C_access_k (l : Launch) (hlt : l.stackTraces = false) (D : va_G) (cI cZ : ClassId) (g : GC) (hg : okC g) (x : Cs) (p0 p1 p2 : Int32) (hv0 : ¬ p0 < 0) (hv1 : p0 < g.2.1.1) (hk0 : ¬ p2 = 0) (hk1 : ¬ p2 = 1) : vx_Met l y_C_access w_C_access_k rm_C_access_k (PcT D vwCl (tyK cI cZ) [.ref g.1.1, .int p0, .int p1, .int p2] (wC cI cZ g x)) (va_Qi (fun (_ : Int32) (_ : Unit) => False) (fun _ _ => True) (fun _ => False)) (XT EA) 1 6 (fun _ => False) := by
  refine vx_ofW (cc := b_C_access) (maxL := 6) (ret := (some .int)) (by decide) rfl ?_
  intro p e s m args below meth c s₁ B hml htab hv
  obtain ⟨rfl, hP, hK, hT⟩ := hv
  have hx := B.exec
  have hb := B.bytes
  have hr := B.returns
  have htb : ∀ w ∈ tbW, w.before _ s = true := fun w h => atoms_spec (ws := w_C_access_k) B.pre w (List.mem_cons_of_mem _ h)
  have hown : s.vm.findClass R_C = some m.cls := findClass_of_methodNamed B.named
  have hlocks := B.notSynchronized
  have hl := lv_entry ([.ref g.1.1, .int p0, .int p1, .int p2]) (n := 6) (Nat.le_of_ble_eq_true rfl)
  rw [lg_entry_eq]
  generalize (lg_sl ([.ref g.1.1, .int p0, .int p1, .int p2]) ++ List.replicate (6 - (lg_sl ([.ref g.1.1, .int p0, .int p1, .int p2])).length) Slot.unset).toArray = ls at hl ⊢
  have hl : lv_has ls 6 [(0, .ref g.1.1), (1, .int p0), (2, .int p1), (3, .int p2)] := hl
  refine lv_aload_n hx hb d_C_access_0 rfl (lv_at hl 0 rfl) ?_
  refine lv_iload_n hx hb d_C_access_1 rfl (lv_at hl 1 rfl) ?_
  refine cpv (As := [.int p0]) (rest := []) ⟨hx, hb, hml, hown, htb⟩ (c_C_requireCore l D cI cZ g hg x p0 hv0 hv1) (cwv (n := 1) htb cd_C_requireCore k_C_57 in_C_requireCore se_C_requireCore ini_C hd_C_requireCore ⟨Nat.le_of_ble_eq_true rfl, Nat.le_of_ble_eq_true rfl⟩) hK hP [0, 1, 2, 3, 4, 5, 6, 7, 8, 9, 10, 11, 12, 13, 14, 15, 16, 17, 18] rfl (ci := 2) rfl rfl rfl hl.1 rfl (Nat.le_of_ble_eq_true rfl) d_C_access_2 ⟨Nat.zero_le _, Nat.zero_le _⟩ (?_)
  refine lv_iload_n hx hb d_C_access_5 rfl (lv_at hl 3 rfl) ?_
  refine lv_if_eq (tgt := 24) hx hb d_C_access_6 (by decide) (fun c_6 => ?_) (fun c_6 => ?_)
  · exact absurd c_6 hk0
  · skip
    refine lv_iload_n hx hb d_C_access_9 rfl (lv_at hl 3 rfl) ?_
    refine lv_iconst (v := 1) hx hb d_C_access_10 (by decide) ?_
    refine lv_icmp_eq (tgt := 24) hx hb d_C_access_11 (by decide) (fun c_11 => ?_) (fun c_11 => ?_)
    · exact absurd c_11 hk1
    · skip
      exact thrE (text := "a kind is 0 (read) or 1 (write)") hx hb hlt hown htb hT (by decide) (hl.1.trans hml.symm) d_C_access_14 d_C_access_17 d_C_access_18 d_C_access_20 d_C_access_23 htab ⟨Nat.le_of_ble_eq_true rfl, Nat.le_of_ble_eq_true rfl, Nat.le_of_ble_eq_true rfl, Nat.le_of_ble_eq_true rfl⟩ hlocks

abbrev w_C_quota_c : List Cond := .code y_C_quota b_C_quota 4 (some .int) :: tbW
abbrev rm_C_quota_c : Room := { frames := 7, cells := 1, slots := 6, locals := 103 }
set_option maxHeartbeats 4000000 in
set_option maxRecDepth 100000 in
theorem t_C_quota_c (l : Launch) (hlt : l.stackTraces = false) (D : va_G) (cI cZ : ClassId) (g : GC) (hg : okC g) (x : Cs) (p0 p1 : Int32) (hbad : p0 < 0 ∨ ¬ p0 < g.2.1.1) : vx_Met l y_C_quota w_C_quota_c rm_C_quota_c (PcT D vwCl (tyK cI cZ) [.ref g.1.1, .int p0, .int p1] (wC cI cZ g x)) (va_Qi (fun (_ : Int32) (_ : Unit) => False) (fun _ _ => True) (fun _ => False)) (XT EI) 1 6 (fun _ => False) := by
  refine vx_ofW (cc := b_C_quota) (maxL := 4) (ret := (some .int)) (by decide) rfl ?_
  intro p e s m args below meth c s₁ B hml htab hv
  obtain ⟨rfl, hP, hK, hT⟩ := hv
  have hx := B.exec
  have hb := B.bytes
  have hr := B.returns
  have htb : ∀ w ∈ tbW, w.before _ s = true := fun w h => atoms_spec (ws := w_C_quota_c) B.pre w (List.mem_cons_of_mem _ h)
  have hown : s.vm.findClass R_C = some m.cls := findClass_of_methodNamed B.named
  have hlocks := B.notSynchronized
  have hl := lv_entry ([.ref g.1.1, .int p0, .int p1]) (n := 4) (Nat.le_of_ble_eq_true rfl)
  rw [lg_entry_eq]
  generalize (lg_sl ([.ref g.1.1, .int p0, .int p1]) ++ List.replicate (4 - (lg_sl ([.ref g.1.1, .int p0, .int p1])).length) Slot.unset).toArray = ls at hl ⊢
  have hl : lv_has ls 4 [(0, .ref g.1.1), (1, .int p0), (2, .int p1)] := hl
  refine lv_aload_n hx hb d_C_quota_0 rfl (lv_at hl 0 rfl) ?_
  refine lv_iload_n hx hb d_C_quota_1 rfl (lv_at hl 1 rfl) ?_
  exact ctv (As := [.int p0]) (rest := []) ⟨hx, hb, hml, hown, htb⟩ (t_C_requireCore_t l hlt D cI cZ g hg x p0 hbad) (cwvT (n := 1) htb cd_C_requireCore k_C_57 in_C_requireCore se_C_requireCore ini_C hd_C_requireCore ⟨Nat.le_of_ble_eq_true rfl, Nat.le_of_ble_eq_true rfl⟩) hK hP hT (ci := 2) rfl rfl rfl hl.1 rfl (Nat.le_of_ble_eq_true rfl) d_C_quota_2 ⟨Nat.le_of_ble_eq_true rfl, Nat.le_of_ble_eq_true rfl⟩ htab hlocks

abbrev w_C_quota_w : List Cond := .code y_C_quota b_C_quota 4 (some .int) :: tbW
abbrev rm_C_quota_w : Room := { frames := 6, cells := 1, slots := 6, locals := 82 }
set_option maxHeartbeats 4000000 in
set_option maxRecDepth 100000 in
theorem t_C_quota_w (l : Launch) (hlt : l.stackTraces = false) (D : va_G) (cI cZ : ClassId) (g : GC) (hg : okC g) (x : Cs) (p0 p1 : Int32) (hv0 : ¬ p0 < 0) (hv1 : p0 < g.2.1.1) (hw : p1 < 0 ∨ ¬ p1 ≤ 4) : vx_Met l y_C_quota w_C_quota_w rm_C_quota_w (PcT D vwCl (tyK cI cZ) [.ref g.1.1, .int p0, .int p1] (wC cI cZ g x)) (va_Qi (fun (_ : Int32) (_ : Unit) => False) (fun _ _ => True) (fun _ => False)) (XT EA) 1 6 (fun _ => False) := by
  refine vx_ofW (cc := b_C_quota) (maxL := 4) (ret := (some .int)) (by decide) rfl ?_
  intro p e s m args below meth c s₁ B hml htab hv
  obtain ⟨rfl, hP, hK, hT⟩ := hv
  have hx := B.exec
  have hb := B.bytes
  have hr := B.returns
  have htb : ∀ w ∈ tbW, w.before _ s = true := fun w h => atoms_spec (ws := w_C_quota_w) B.pre w (List.mem_cons_of_mem _ h)
  have hown : s.vm.findClass R_C = some m.cls := findClass_of_methodNamed B.named
  have hlocks := B.notSynchronized
  have hl := lv_entry ([.ref g.1.1, .int p0, .int p1]) (n := 4) (Nat.le_of_ble_eq_true rfl)
  rw [lg_entry_eq]
  generalize (lg_sl ([.ref g.1.1, .int p0, .int p1]) ++ List.replicate (4 - (lg_sl ([.ref g.1.1, .int p0, .int p1])).length) Slot.unset).toArray = ls at hl ⊢
  have hl : lv_has ls 4 [(0, .ref g.1.1), (1, .int p0), (2, .int p1)] := hl
  refine lv_aload_n hx hb d_C_quota_0 rfl (lv_at hl 0 rfl) ?_
  refine lv_iload_n hx hb d_C_quota_1 rfl (lv_at hl 1 rfl) ?_
  refine cpv (As := [.int p0]) (rest := []) ⟨hx, hb, hml, hown, htb⟩ (c_C_requireCore l D cI cZ g hg x p0 hv0 hv1) (cwv (n := 1) htb cd_C_requireCore k_C_57 in_C_requireCore se_C_requireCore ini_C hd_C_requireCore ⟨Nat.le_of_ble_eq_true rfl, Nat.le_of_ble_eq_true rfl⟩) hK hP [0, 1, 2, 3, 4, 5, 6, 7, 8, 9, 10, 11, 12, 13, 14, 15, 16, 17, 18] rfl (ci := 2) rfl rfl rfl hl.1 rfl (Nat.le_of_ble_eq_true rfl) d_C_quota_2 ⟨Nat.zero_le _, Nat.zero_le _⟩ (?_)
  refine lv_iload_n hx hb d_C_quota_5 rfl (lv_at hl 2 rfl) ?_
  refine lv_if_lt (tgt := 14) hx hb d_C_quota_6 (by decide) (fun c_6 => ?_) (fun c_6 => ?_)
  · skip
    exact thrE (text := "a quota is 0 to 4") hx hb hlt hown htb hT (by decide) (hl.1.trans hml.symm) d_C_quota_14 d_C_quota_17 d_C_quota_18 d_C_quota_20 d_C_quota_23 htab ⟨Nat.le_of_ble_eq_true rfl, Nat.le_of_ble_eq_true rfl, Nat.le_of_ble_eq_true rfl, Nat.le_of_ble_eq_true rfl⟩ hlocks
  · skip
    refine lv_iload_n hx hb d_C_quota_9 rfl (lv_at hl 2 rfl) ?_
    refine lv_iconst (v := 4) hx hb d_C_quota_10 (by decide) ?_
    refine lv_icmp_le (tgt := 24) hx hb d_C_quota_11 (by decide) (fun c_11 => ?_) (fun c_11 => ?_)
    · exact absurd c_11 (hw.resolve_left c_6)
    · skip
      exact thrE (text := "a quota is 0 to 4") hx hb hlt hown htb hT (by decide) (hl.1.trans hml.symm) d_C_quota_14 d_C_quota_17 d_C_quota_18 d_C_quota_20 d_C_quota_23 htab ⟨Nat.le_of_ble_eq_true rfl, Nat.le_of_ble_eq_true rfl, Nat.le_of_ble_eq_true rfl, Nat.le_of_ble_eq_true rfl⟩ hlocks

abbrev w_C_version_c : List Cond := .code y_C_version b_C_version 6 (some .int) :: tbW
abbrev rm_C_version_c : Room := { frames := 7, cells := 1, slots := 6, locals := 103 }
set_option maxHeartbeats 4000000 in
set_option maxRecDepth 100000 in
theorem t_C_version_c (l : Launch) (hlt : l.stackTraces = false) (D : va_G) (cI cZ : ClassId) (g : GC) (hg : okC g) (x : Cs) (p0 p1 : Int32) (hbad : p0 < 0 ∨ ¬ p0 < g.2.1.1) : vx_Met l y_C_version w_C_version_c rm_C_version_c (PcT D vwCl (tyK cI cZ) [.ref g.1.1, .int p0, .int p1] (wC cI cZ g x)) (va_Qi (fun (_ : Int32) (_ : Unit) => False) (fun _ _ => True) (fun _ => False)) (XT EI) 1 6 (fun _ => False) := by
  refine vx_ofW (cc := b_C_version) (maxL := 6) (ret := (some .int)) (by decide) rfl ?_
  intro p e s m args below meth c s₁ B hml htab hv
  obtain ⟨rfl, hP, hK, hT⟩ := hv
  have hx := B.exec
  have hb := B.bytes
  have hr := B.returns
  have htb : ∀ w ∈ tbW, w.before _ s = true := fun w h => atoms_spec (ws := w_C_version_c) B.pre w (List.mem_cons_of_mem _ h)
  have hown : s.vm.findClass R_C = some m.cls := findClass_of_methodNamed B.named
  have hlocks := B.notSynchronized
  have hl := lv_entry ([.ref g.1.1, .int p0, .int p1]) (n := 6) (Nat.le_of_ble_eq_true rfl)
  rw [lg_entry_eq]
  generalize (lg_sl ([.ref g.1.1, .int p0, .int p1]) ++ List.replicate (6 - (lg_sl ([.ref g.1.1, .int p0, .int p1])).length) Slot.unset).toArray = ls at hl ⊢
  have hl : lv_has ls 6 [(0, .ref g.1.1), (1, .int p0), (2, .int p1)] := hl
  refine lv_aload_n hx hb d_C_version_0 rfl (lv_at hl 0 rfl) ?_
  refine lv_iload_n hx hb d_C_version_1 rfl (lv_at hl 1 rfl) ?_
  exact ctv (As := [.int p0]) (rest := []) ⟨hx, hb, hml, hown, htb⟩ (t_C_requireCore_t l hlt D cI cZ g hg x p0 hbad) (cwvT (n := 1) htb cd_C_requireCore k_C_57 in_C_requireCore se_C_requireCore ini_C hd_C_requireCore ⟨Nat.le_of_ble_eq_true rfl, Nat.le_of_ble_eq_true rfl⟩) hK hP hT (ci := 2) rfl rfl rfl hl.1 rfl (Nat.le_of_ble_eq_true rfl) d_C_version_2 ⟨Nat.le_of_ble_eq_true rfl, Nat.le_of_ble_eq_true rfl⟩ htab hlocks

abbrev w_C_core_c : List Cond := .code y_C_core b_C_core 3 (some .int) :: tbW
abbrev rm_C_core_c : Room := { frames := 7, cells := 1, slots := 6, locals := 103 }
set_option maxHeartbeats 4000000 in
set_option maxRecDepth 100000 in
theorem t_C_core_c (l : Launch) (hlt : l.stackTraces = false) (D : va_G) (cI cZ : ClassId) (g : GC) (hg : okC g) (x : Cs) (p0 p1 : Int32) (hbad : p0 < 0 ∨ ¬ p0 < g.2.1.1) : vx_Met l y_C_core w_C_core_c rm_C_core_c (PcT D vwCl (tyK cI cZ) [.ref g.1.1, .int p0, .int p1] (wC cI cZ g x)) (va_Qi (fun (_ : Int32) (_ : Unit) => False) (fun _ _ => True) (fun _ => False)) (XT EI) 1 6 (fun _ => False) := by
  refine vx_ofW (cc := b_C_core) (maxL := 3) (ret := (some .int)) (by decide) rfl ?_
  intro p e s m args below meth c s₁ B hml htab hv
  obtain ⟨rfl, hP, hK, hT⟩ := hv
  have hx := B.exec
  have hb := B.bytes
  have hr := B.returns
  have htb : ∀ w ∈ tbW, w.before _ s = true := fun w h => atoms_spec (ws := w_C_core_c) B.pre w (List.mem_cons_of_mem _ h)
  have hown : s.vm.findClass R_C = some m.cls := findClass_of_methodNamed B.named
  have hlocks := B.notSynchronized
  have hl := lv_entry ([.ref g.1.1, .int p0, .int p1]) (n := 3) (Nat.le_of_ble_eq_true rfl)
  rw [lg_entry_eq]
  generalize (lg_sl ([.ref g.1.1, .int p0, .int p1]) ++ List.replicate (3 - (lg_sl ([.ref g.1.1, .int p0, .int p1])).length) Slot.unset).toArray = ls at hl ⊢
  have hl : lv_has ls 3 [(0, .ref g.1.1), (1, .int p0), (2, .int p1)] := hl
  refine lv_aload_n hx hb d_C_core_0 rfl (lv_at hl 0 rfl) ?_
  refine lv_iload_n hx hb d_C_core_1 rfl (lv_at hl 1 rfl) ?_
  exact ctv (As := [.int p0]) (rest := []) ⟨hx, hb, hml, hown, htb⟩ (t_C_requireCore_t l hlt D cI cZ g hg x p0 hbad) (cwvT (n := 1) htb cd_C_requireCore k_C_57 in_C_requireCore se_C_requireCore ini_C hd_C_requireCore ⟨Nat.le_of_ble_eq_true rfl, Nat.le_of_ble_eq_true rfl⟩) hK hP hT (ci := 2) rfl rfl rfl hl.1 rfl (Nat.le_of_ble_eq_true rfl) d_C_core_2 ⟨Nat.le_of_ble_eq_true rfl, Nat.le_of_ble_eq_true rfl⟩ htab hlocks

abbrev w_C_core_w : List Cond := .code y_C_core b_C_core 3 (some .int) :: tbW
abbrev rm_C_core_w : Room := { frames := 6, cells := 1, slots := 6, locals := 82 }
set_option maxHeartbeats 4000000 in
set_option maxRecDepth 100000 in
theorem t_C_core_w (l : Launch) (hlt : l.stackTraces = false) (D : va_G) (cI cZ : ClassId) (g : GC) (hg : okC g) (x : Cs) (p0 p1 : Int32) (hv0 : ¬ p0 < 0) (hv1 : p0 < g.2.1.1) (hw : p1 < 0 ∨ ¬ p1 ≤ 7) : vx_Met l y_C_core w_C_core_w rm_C_core_w (PcT D vwCl (tyK cI cZ) [.ref g.1.1, .int p0, .int p1] (wC cI cZ g x)) (va_Qi (fun (_ : Int32) (_ : Unit) => False) (fun _ _ => True) (fun _ => False)) (XT EI) 1 6 (fun _ => False) := by
  refine vx_ofW (cc := b_C_core) (maxL := 3) (ret := (some .int)) (by decide) rfl ?_
  intro p e s m args below meth c s₁ B hml htab hv
  obtain ⟨rfl, hP, hK, hT⟩ := hv
  have hx := B.exec
  have hb := B.bytes
  have hr := B.returns
  have htb : ∀ w ∈ tbW, w.before _ s = true := fun w h => atoms_spec (ws := w_C_core_w) B.pre w (List.mem_cons_of_mem _ h)
  have hown : s.vm.findClass R_C = some m.cls := findClass_of_methodNamed B.named
  have hlocks := B.notSynchronized
  have hl := lv_entry ([.ref g.1.1, .int p0, .int p1]) (n := 3) (Nat.le_of_ble_eq_true rfl)
  rw [lg_entry_eq]
  generalize (lg_sl ([.ref g.1.1, .int p0, .int p1]) ++ List.replicate (3 - (lg_sl ([.ref g.1.1, .int p0, .int p1])).length) Slot.unset).toArray = ls at hl ⊢
  have hl : lv_has ls 3 [(0, .ref g.1.1), (1, .int p0), (2, .int p1)] := hl
  refine lv_aload_n hx hb d_C_core_0 rfl (lv_at hl 0 rfl) ?_
  refine lv_iload_n hx hb d_C_core_1 rfl (lv_at hl 1 rfl) ?_
  refine cpv (As := [.int p0]) (rest := []) ⟨hx, hb, hml, hown, htb⟩ (c_C_requireCore l D cI cZ g hg x p0 hv0 hv1) (cwv (n := 1) htb cd_C_requireCore k_C_57 in_C_requireCore se_C_requireCore ini_C hd_C_requireCore ⟨Nat.le_of_ble_eq_true rfl, Nat.le_of_ble_eq_true rfl⟩) hK hP [0, 1, 2, 3, 4, 5, 6, 7, 8, 9, 10, 11, 12, 13, 14, 15, 16, 17, 18] rfl (ci := 2) rfl rfl rfl hl.1 rfl (Nat.le_of_ble_eq_true rfl) d_C_core_2 ⟨Nat.zero_le _, Nat.zero_le _⟩ (?_)
  refine lv_iload_n hx hb d_C_core_5 rfl (lv_at hl 2 rfl) ?_
  refine lv_if_lt (tgt := 15) hx hb d_C_core_6 (by decide) (fun c_6 => ?_) (fun c_6 => ?_)
  · skip
    exact thrI (text := "what is 0 to 7") hx hb hlt hown htb hT (by decide) (hl.1.trans hml.symm) d_C_core_15 d_C_core_18 d_C_core_19 d_C_core_21 d_C_core_24 htab ⟨Nat.le_of_ble_eq_true rfl, Nat.le_of_ble_eq_true rfl, Nat.le_of_ble_eq_true rfl, Nat.le_of_ble_eq_true rfl⟩ hlocks
  · skip
    refine lv_iload_n hx hb d_C_core_9 rfl (lv_at hl 2 rfl) ?_
    refine lv_bipush (v := 7) hx hb d_C_core_10 (by decide) ?_
    refine lv_icmp_le (tgt := 25) hx hb d_C_core_12 (by decide) (fun c_12 => ?_) (fun c_12 => ?_)
    · exact absurd c_12 (hw.resolve_left c_6)
    · skip
      exact thrI (text := "what is 0 to 7") hx hb hlt hown htb hT (by decide) (hl.1.trans hml.symm) d_C_core_15 d_C_core_18 d_C_core_19 d_C_core_21 d_C_core_24 htab ⟨Nat.le_of_ble_eq_true rfl, Nat.le_of_ble_eq_true rfl, Nat.le_of_ble_eq_true rfl, Nat.le_of_ble_eq_true rfl⟩ hlocks

abbrev w_C_holds_t : List Cond := .code y_C_holds b_C_holds 5 (some .int) :: tbW
abbrev rm_C_holds_t : Room := { frames := 8, cells := 1, slots := 6, locals := 124 }
set_option maxHeartbeats 4000000 in
set_option maxRecDepth 100000 in
theorem t_C_holds_t (l : Launch) (hlt : l.stackTraces = false) (D : va_G) (cI cZ : ClassId) (g : GC) (hg : okC g) (x : Cs) (p0 p1 : Int32) (hbad : p0 < 0 ∨ ¬ p0 < g.2.1.1) (hq : ¬ p0 = -1) : vx_Met l y_C_holds w_C_holds_t rm_C_holds_t (PcT D vwCl (tyK cI cZ) [.ref g.1.1, .int p0, .int p1] (wC cI cZ g x)) (va_Qi (fun (_ : Int32) (_ : Unit) => False) (fun _ _ => True) (fun _ => False)) (XT EI) 1 6 (fun _ => False) := by
  refine vx_ofW (cc := b_C_holds) (maxL := 5) (ret := (some .int)) (by decide) rfl ?_
  intro p e s m args below meth c s₁ B hml htab hv
  obtain ⟨rfl, hP, hK, hT⟩ := hv
  have hx := B.exec
  have hb := B.bytes
  have hr := B.returns
  have htb : ∀ w ∈ tbW, w.before _ s = true := fun w h => atoms_spec (ws := w_C_holds_t) B.pre w (List.mem_cons_of_mem _ h)
  have hown : s.vm.findClass R_C = some m.cls := findClass_of_methodNamed B.named
  have hlocks := B.notSynchronized
  have hl := lv_entry ([.ref g.1.1, .int p0, .int p1]) (n := 5) (Nat.le_of_ble_eq_true rfl)
  rw [lg_entry_eq]
  generalize (lg_sl ([.ref g.1.1, .int p0, .int p1]) ++ List.replicate (5 - (lg_sl ([.ref g.1.1, .int p0, .int p1])).length) Slot.unset).toArray = ls at hl ⊢
  have hl : lv_has ls 5 [(0, .ref g.1.1), (1, .int p0), (2, .int p1)] := hl
  refine lv_aload_n hx hb d_C_holds_0 rfl (lv_at hl 0 rfl) ?_
  refine lv_iload_n hx hb d_C_holds_1 rfl (lv_at hl 1 rfl) ?_
  exact ctv (As := [.int p0]) (rest := []) ⟨hx, hb, hml, hown, htb⟩ (t_C_requireCoreOrNone_t l hlt D cI cZ g hg x p0 hbad hq) (cwvT (n := 1) htb cd_C_requireCoreOrNone k_C_116 in_C_requireCoreOrNone se_C_requireCoreOrNone ini_C hd_C_requireCoreOrNone ⟨Nat.le_of_ble_eq_true rfl, Nat.le_of_ble_eq_true rfl⟩) hK hP hT (ci := 2) rfl rfl rfl hl.1 rfl (Nat.le_of_ble_eq_true rfl) d_C_holds_2 ⟨Nat.le_of_ble_eq_true rfl, Nat.le_of_ble_eq_true rfl⟩ htab hlocks

abbrev w_C_line_t : List Cond := .code y_C_line b_C_line 6 (some .int) :: tbW
abbrev rm_C_line_t : Room := { frames := 8, cells := 1, slots := 6, locals := 124 }
set_option maxHeartbeats 4000000 in
set_option maxRecDepth 100000 in
theorem t_C_line_t (l : Launch) (hlt : l.stackTraces = false) (D : va_G) (cI cZ : ClassId) (g : GC) (hg : okC g) (x : Cs) (p0 p1 p2 : Int32) (hbad : p0 < 0 ∨ ¬ p0 < g.2.1.1) (hq : ¬ p0 = -1) : vx_Met l y_C_line w_C_line_t rm_C_line_t (PcT D vwCl (tyK cI cZ) [.ref g.1.1, .int p0, .int p1, .int p2] (wC cI cZ g x)) (va_Qi (fun (_ : Int32) (_ : Unit) => False) (fun _ _ => True) (fun _ => False)) (XT EI) 1 6 (fun _ => False) := by
  refine vx_ofW (cc := b_C_line) (maxL := 6) (ret := (some .int)) (by decide) rfl ?_
  intro p e s m args below meth c s₁ B hml htab hv
  obtain ⟨rfl, hP, hK, hT⟩ := hv
  have hx := B.exec
  have hb := B.bytes
  have hr := B.returns
  have htb : ∀ w ∈ tbW, w.before _ s = true := fun w h => atoms_spec (ws := w_C_line_t) B.pre w (List.mem_cons_of_mem _ h)
  have hown : s.vm.findClass R_C = some m.cls := findClass_of_methodNamed B.named
  have hlocks := B.notSynchronized
  have hl := lv_entry ([.ref g.1.1, .int p0, .int p1, .int p2]) (n := 6) (Nat.le_of_ble_eq_true rfl)
  rw [lg_entry_eq]
  generalize (lg_sl ([.ref g.1.1, .int p0, .int p1, .int p2]) ++ List.replicate (6 - (lg_sl ([.ref g.1.1, .int p0, .int p1, .int p2])).length) Slot.unset).toArray = ls at hl ⊢
  have hl : lv_has ls 6 [(0, .ref g.1.1), (1, .int p0), (2, .int p1), (3, .int p2)] := hl
  refine lv_aload_n hx hb d_C_line_0 rfl (lv_at hl 0 rfl) ?_
  refine lv_iload_n hx hb d_C_line_1 rfl (lv_at hl 1 rfl) ?_
  exact ctv (As := [.int p0]) (rest := []) ⟨hx, hb, hml, hown, htb⟩ (t_C_requireCoreOrNone_t l hlt D cI cZ g hg x p0 hbad hq) (cwvT (n := 1) htb cd_C_requireCoreOrNone k_C_116 in_C_requireCoreOrNone se_C_requireCoreOrNone ini_C hd_C_requireCoreOrNone ⟨Nat.le_of_ble_eq_true rfl, Nat.le_of_ble_eq_true rfl⟩) hK hP hT (ci := 2) rfl rfl rfl hl.1 rfl (Nat.le_of_ble_eq_true rfl) d_C_line_2 ⟨Nat.le_of_ble_eq_true rfl, Nat.le_of_ble_eq_true rfl⟩ htab hlocks

abbrev w_C_line_sn : List Cond := .code y_C_line b_C_line 6 (some .int) :: tbW
abbrev rm_C_line_sn : Room := { frames := 6, cells := 1, slots := 6, locals := 82 }
set_option maxHeartbeats 4000000 in
set_option maxRecDepth 100000 in
theorem t_C_line_sn (l : Launch) (hlt : l.stackTraces = false) (D : va_G) (cI cZ : ClassId) (g : GC) (hg : okC g) (x : Cs) (p0 p1 p2 : Int32) (hq : p0 = -1) (hw : p1 < 0 ∨ ¬ p1 < g.2.2.2.2.1.2.1.1) : vx_Met l y_C_line w_C_line_sn rm_C_line_sn (PcT D vwCl (tyK cI cZ) [.ref g.1.1, .int p0, .int p1, .int p2] (wC cI cZ g x)) (va_Qi (fun (_ : Int32) (_ : Unit) => False) (fun _ _ => True) (fun _ => False)) (XT EI) 1 6 (fun _ => False) := by
  refine vx_ofW (cc := b_C_line) (maxL := 6) (ret := (some .int)) (by decide) rfl ?_
  intro p e s m args below meth c s₁ B hml htab hv
  obtain ⟨rfl, hP, hK, hT⟩ := hv
  have hx := B.exec
  have hb := B.bytes
  have hr := B.returns
  have htb : ∀ w ∈ tbW, w.before _ s = true := fun w h => atoms_spec (ws := w_C_line_sn) B.pre w (List.mem_cons_of_mem _ h)
  have hown : s.vm.findClass R_C = some m.cls := findClass_of_methodNamed B.named
  have hlocks := B.notSynchronized
  have hl := lv_entry ([.ref g.1.1, .int p0, .int p1, .int p2]) (n := 6) (Nat.le_of_ble_eq_true rfl)
  rw [lg_entry_eq]
  generalize (lg_sl ([.ref g.1.1, .int p0, .int p1, .int p2]) ++ List.replicate (6 - (lg_sl ([.ref g.1.1, .int p0, .int p1, .int p2])).length) Slot.unset).toArray = ls at hl ⊢
  have hl : lv_has ls 6 [(0, .ref g.1.1), (1, .int p0), (2, .int p1), (3, .int p2)] := hl
  refine lv_aload_n hx hb d_C_line_0 rfl (lv_at hl 0 rfl) ?_
  refine lv_iload_n hx hb d_C_line_1 rfl (lv_at hl 1 rfl) ?_
  refine cpv (As := [.int p0]) (rest := []) ⟨hx, hb, hml, hown, htb⟩ (c_C_requireCoreOrNone l D cI cZ g hg x p0 (Or.inl hq)) (cwv (n := 1) htb cd_C_requireCoreOrNone k_C_116 in_C_requireCoreOrNone se_C_requireCoreOrNone ini_C hd_C_requireCoreOrNone ⟨Nat.le_of_ble_eq_true rfl, Nat.le_of_ble_eq_true rfl⟩) hK hP [0, 1, 2, 3, 4, 5, 6, 7, 8, 9, 10, 11, 12, 13, 14, 15, 16, 17, 18] rfl (ci := 2) rfl rfl rfl hl.1 rfl (Nat.le_of_ble_eq_true rfl) d_C_line_2 ⟨Nat.zero_le _, Nat.zero_le _⟩ (?_)
  refine lv_aload_n hx hb d_C_line_5 rfl (lv_at hl 0 rfl) ?_
  refine lv_iload_n hx hb d_C_line_6 rfl (lv_at hl 1 rfl) ?_
  refine cpr (As := [.int p0]) (rest := []) ⟨hx, hb, hml, hown, htb⟩ (c_C_bankOf_n l D cI cZ g hg x p0 hq) (cwv (n := 1) htb cd_C_bankOf k_C_119 in_C_bankOf se_C_bankOf ini_C hd_C_bankOf ⟨Nat.le_of_ble_eq_true rfl, Nat.le_of_ble_eq_true rfl⟩) hK hP [0, 1, 2, 3, 4, 5, 6, 7, 8, 9, 10, 11, 12, 13, 14, 15, 16, 17, 18] rfl (ci := 2) rfl rfl rfl hl.1 rfl (Nat.le_of_ble_eq_true rfl) d_C_line_7 ⟨Nat.zero_le _, Nat.zero_le _⟩ (?_)
  refine lv_astore (lv' := [(4, .ref g.2.2.2.2.1.1.1), (0, .ref g.1.1), (1, .int p0), (2, .int p1), (3, .int p2)]) hx hb d_C_line_10 hl (by decide) rfl (fun ls hl => ?_)
  refine lv_iload_n hx hb d_C_line_12 rfl (lv_at hl 3 rfl) ?_
  refine lv_if_lt (tgt := 25) hx hb d_C_line_13 (by decide) (fun c_13 => ?_) (fun c_13 => ?_)
  · skip
    exact thrI (text := "there is no such set") hx hb hlt hown htb hT (by decide) (hl.1.trans hml.symm) d_C_line_25 d_C_line_28 d_C_line_29 d_C_line_31 d_C_line_34 htab ⟨Nat.le_of_ble_eq_true rfl, Nat.le_of_ble_eq_true rfl, Nat.le_of_ble_eq_true rfl, Nat.le_of_ble_eq_true rfl⟩ hlocks
  · skip
    refine lv_iload_n hx hb d_C_line_16 rfl (lv_at hl 3 rfl) ?_
    refine lv_aload hx hb d_C_line_17 (lv_at hl 0 rfl) ?_
    refine va_get (D := D) (ci := 0) (v := .int g.2.2.2.2.1.2.1.1) (C := R_B) (T := T_B) (N := 7) hx hb htb i_B hown hK hP 7 rfl rfl 0 (by decide) (htb _ k_C_129) (fun _ h9 => h9) rfl d_C_line_19 ?_
    refine lv_icmp_lt (tgt := 35) hx hb d_C_line_22 (by decide) (fun c_22 => ?_) (fun c_22 => ?_)
    · exact absurd c_22 (hw.resolve_left c_13)
    · skip
      exact thrI (text := "there is no such set") hx hb hlt hown htb hT (by decide) (hl.1.trans hml.symm) d_C_line_25 d_C_line_28 d_C_line_29 d_C_line_31 d_C_line_34 htab ⟨Nat.le_of_ble_eq_true rfl, Nat.le_of_ble_eq_true rfl, Nat.le_of_ble_eq_true rfl, Nat.le_of_ble_eq_true rfl⟩ hlocks

abbrev w_C_line_kn : List Cond := .code y_C_line b_C_line 6 (some .int) :: tbW
abbrev rm_C_line_kn : Room := { frames := 6, cells := 1, slots := 6, locals := 82 }
set_option maxHeartbeats 4000000 in
set_option maxRecDepth 100000 in
theorem t_C_line_kn (l : Launch) (hlt : l.stackTraces = false) (D : va_G) (cI cZ : ClassId) (g : GC) (hg : okC g) (x : Cs) (p0 p1 p2 : Int32) (hq : p0 = -1) (hs0 : ¬ p1 < 0) (hs1 : p1 < g.2.2.2.2.1.2.1.1) (hw : p2 < 0 ∨ ¬ p2 < M_B_size g.2.2.2.2.1 x.2.2.1 ((M_C_groupOf p0 * g.2.2.2.2.1.2.1.1) + p1)) : vx_Met l y_C_line w_C_line_kn rm_C_line_kn (PcT D vwCl (tyK cI cZ) [.ref g.1.1, .int p0, .int p1, .int p2] (wC cI cZ g x)) (va_Qi (fun (_ : Int32) (_ : Unit) => False) (fun _ _ => True) (fun _ => False)) (XT EI) 1 6 (fun _ => False) := by
  refine vx_ofW (cc := b_C_line) (maxL := 6) (ret := (some .int)) (by decide) rfl ?_
  intro p e s m args below meth c s₁ B hml htab hv
  obtain ⟨rfl, hP, hK, hT⟩ := hv
  have hx := B.exec
  have hb := B.bytes
  have hr := B.returns
  have htb : ∀ w ∈ tbW, w.before _ s = true := fun w h => atoms_spec (ws := w_C_line_kn) B.pre w (List.mem_cons_of_mem _ h)
  have hown : s.vm.findClass R_C = some m.cls := findClass_of_methodNamed B.named
  have hlocks := B.notSynchronized
  have hl := lv_entry ([.ref g.1.1, .int p0, .int p1, .int p2]) (n := 6) (Nat.le_of_ble_eq_true rfl)
  rw [lg_entry_eq]
  generalize (lg_sl ([.ref g.1.1, .int p0, .int p1, .int p2]) ++ List.replicate (6 - (lg_sl ([.ref g.1.1, .int p0, .int p1, .int p2])).length) Slot.unset).toArray = ls at hl ⊢
  have hl : lv_has ls 6 [(0, .ref g.1.1), (1, .int p0), (2, .int p1), (3, .int p2)] := hl
  refine lv_aload_n hx hb d_C_line_0 rfl (lv_at hl 0 rfl) ?_
  refine lv_iload_n hx hb d_C_line_1 rfl (lv_at hl 1 rfl) ?_
  refine cpv (As := [.int p0]) (rest := []) ⟨hx, hb, hml, hown, htb⟩ (c_C_requireCoreOrNone l D cI cZ g hg x p0 (Or.inl hq)) (cwv (n := 1) htb cd_C_requireCoreOrNone k_C_116 in_C_requireCoreOrNone se_C_requireCoreOrNone ini_C hd_C_requireCoreOrNone ⟨Nat.le_of_ble_eq_true rfl, Nat.le_of_ble_eq_true rfl⟩) hK hP [0, 1, 2, 3, 4, 5, 6, 7, 8, 9, 10, 11, 12, 13, 14, 15, 16, 17, 18] rfl (ci := 2) rfl rfl rfl hl.1 rfl (Nat.le_of_ble_eq_true rfl) d_C_line_2 ⟨Nat.zero_le _, Nat.zero_le _⟩ (?_)
  refine lv_aload_n hx hb d_C_line_5 rfl (lv_at hl 0 rfl) ?_
  refine lv_iload_n hx hb d_C_line_6 rfl (lv_at hl 1 rfl) ?_
  refine cpr (As := [.int p0]) (rest := []) ⟨hx, hb, hml, hown, htb⟩ (c_C_bankOf_n l D cI cZ g hg x p0 hq) (cwv (n := 1) htb cd_C_bankOf k_C_119 in_C_bankOf se_C_bankOf ini_C hd_C_bankOf ⟨Nat.le_of_ble_eq_true rfl, Nat.le_of_ble_eq_true rfl⟩) hK hP [0, 1, 2, 3, 4, 5, 6, 7, 8, 9, 10, 11, 12, 13, 14, 15, 16, 17, 18] rfl (ci := 2) rfl rfl rfl hl.1 rfl (Nat.le_of_ble_eq_true rfl) d_C_line_7 ⟨Nat.zero_le _, Nat.zero_le _⟩ (?_)
  refine lv_astore (lv' := [(4, .ref g.2.2.2.2.1.1.1), (0, .ref g.1.1), (1, .int p0), (2, .int p1), (3, .int p2)]) hx hb d_C_line_10 hl (by decide) rfl (fun ls hl => ?_)
  refine lv_iload_n hx hb d_C_line_12 rfl (lv_at hl 3 rfl) ?_
  refine lv_if_lt (tgt := 25) hx hb d_C_line_13 (by decide) (fun c_13 => ?_) (fun c_13 => ?_)
  · exact absurd c_13 hs0
  · skip
    refine lv_iload_n hx hb d_C_line_16 rfl (lv_at hl 3 rfl) ?_
    refine lv_aload hx hb d_C_line_17 (lv_at hl 0 rfl) ?_
    refine va_get (D := D) (ci := 0) (v := .int g.2.2.2.2.1.2.1.1) (C := R_B) (T := T_B) (N := 7) hx hb htb i_B hown hK hP 7 rfl rfl 0 (by decide) (htb _ k_C_129) (fun _ h9 => h9) rfl d_C_line_19 ?_
    refine lv_icmp_lt (tgt := 35) hx hb d_C_line_22 (by decide) (fun c_22 => ?_) (fun c_22 => ?_)
    · skip
      refine lv_iload_n hx hb d_C_line_35 rfl (lv_at hl 2 rfl) ?_
      refine cps (As := [.int p0]) (rest := []) ⟨hx, hb, hml, hown, htb⟩ (c_C_groupOf l p0) (cws (n := 1) htb cd_C_groupOf k_C_123 st_C_groupOf ini_C hd_C_groupOf ⟨Nat.le_of_ble_eq_true rfl, Nat.le_of_ble_eq_true rfl⟩) rfl hl.1 rfl (Nat.le_of_ble_eq_true rfl) d_C_line_36 ⟨Nat.zero_le _, Nat.zero_le _⟩ (fun r_36 hw_36 => ?_)
      refine lv_aload hx hb d_C_line_39 (lv_at hl 0 rfl) ?_
      refine va_get (D := D) (ci := 0) (v := .int g.2.2.2.2.1.2.1.1) (C := R_B) (T := T_B) (N := 7) hx hb htb i_B hown hK hP 7 rfl rfl 0 (by decide) (htb _ k_C_129) (fun _ h9 => h9) rfl d_C_line_41 ?_
      refine lv_imul hx hb d_C_line_44 ?_
      refine lv_iload_n hx hb d_C_line_45 rfl (lv_at hl 3 rfl) ?_
      refine lv_iadd hx hb d_C_line_46 ?_
      refine lv_istore (lv' := [(5, .int ((r_36 * g.2.2.2.2.1.2.1.1) + p1)), (4, .ref g.2.2.2.2.1.1.1), (0, .ref g.1.1), (1, .int p0), (2, .int p1), (3, .int p2)]) hx hb d_C_line_47 hl (by decide) rfl (fun ls hl => ?_)
      refine lv_iload_n hx hb d_C_line_49 rfl (lv_at hl 5 rfl) ?_
      refine lv_if_lt (tgt := 64) hx hb d_C_line_50 (by decide) (fun c_50 => ?_) (fun c_50 => ?_)
      · skip
        exact thrI (text := "there is no such line in the set") hx hb hlt hown htb hT (by decide) (hl.1.trans hml.symm) d_C_line_64 d_C_line_67 d_C_line_68 d_C_line_70 d_C_line_73 htab ⟨Nat.le_of_ble_eq_true rfl, Nat.le_of_ble_eq_true rfl, Nat.le_of_ble_eq_true rfl, Nat.le_of_ble_eq_true rfl⟩ hlocks
      · skip
        refine lv_iload_n hx hb d_C_line_53 rfl (lv_at hl 5 rfl) ?_
        refine lv_aload hx hb d_C_line_54 (lv_at hl 1 rfl) ?_
        refine lv_iload hx hb d_C_line_56 (lv_at hl 0 rfl) ?_
        refine cpi (As := [.int ((r_36 * g.2.2.2.2.1.2.1.1) + p1)]) (rest := [.int p2]) ⟨hx, hb, hml, hown, htb⟩ (c_B_size l D cI cZ g.2.2.2.2.1 hg.2.2.1 x.2.2.1 ((r_36 * g.2.2.2.2.1.2.1.1) + p1)) (cwv (n := 1) htb cd_B_size k_C_137 in_B_size se_B_size ini_B hd_B_size ⟨Nat.le_of_ble_eq_true rfl, Nat.le_of_ble_eq_true rfl⟩) hK hP [7, 8, 9, 10, 11, 12] rfl (ci := 0) rfl rfl rfl hl.1 rfl (Nat.le_of_ble_eq_true rfl) d_C_line_58 ⟨Nat.zero_le _, Nat.zero_le _⟩ (fun r_58 hw_58 => ?_)
        refine lv_icmp_lt (tgt := 74) hx hb d_C_line_61 (by decide) (fun c_61 => ?_) (fun c_61 => ?_)
        · exact absurd (by rw [hw_58, hw_36] at c_61; exact c_61) (hw.resolve_left c_50)
        · skip
          exact thrI (text := "there is no such line in the set") hx hb hlt hown htb hT (by decide) (hl.1.trans hml.symm) d_C_line_64 d_C_line_67 d_C_line_68 d_C_line_70 d_C_line_73 htab ⟨Nat.le_of_ble_eq_true rfl, Nat.le_of_ble_eq_true rfl, Nat.le_of_ble_eq_true rfl, Nat.le_of_ble_eq_true rfl⟩ hlocks
    · exact absurd hs1 c_22

abbrev w_C_line_sc : List Cond := .code y_C_line b_C_line 6 (some .int) :: tbW
abbrev rm_C_line_sc : Room := { frames := 6, cells := 1, slots := 6, locals := 82 }
set_option maxHeartbeats 4000000 in
set_option maxRecDepth 100000 in
theorem t_C_line_sc (l : Launch) (hlt : l.stackTraces = false) (D : va_G) (cI cZ : ClassId) (g : GC) (hg : okC g) (x : Cs) (p0 p1 p2 : Int32) (hv0 : ¬ p0 < 0) (hv1 : p0 < g.2.1.1) (hq : ¬ p0 = -1) (hw : p1 < 0 ∨ ¬ p1 < g.2.2.2.1.2.1.1) : vx_Met l y_C_line w_C_line_sc rm_C_line_sc (PcT D vwCl (tyK cI cZ) [.ref g.1.1, .int p0, .int p1, .int p2] (wC cI cZ g x)) (va_Qi (fun (_ : Int32) (_ : Unit) => False) (fun _ _ => True) (fun _ => False)) (XT EI) 1 6 (fun _ => False) := by
  refine vx_ofW (cc := b_C_line) (maxL := 6) (ret := (some .int)) (by decide) rfl ?_
  intro p e s m args below meth c s₁ B hml htab hv
  obtain ⟨rfl, hP, hK, hT⟩ := hv
  have hx := B.exec
  have hb := B.bytes
  have hr := B.returns
  have htb : ∀ w ∈ tbW, w.before _ s = true := fun w h => atoms_spec (ws := w_C_line_sc) B.pre w (List.mem_cons_of_mem _ h)
  have hown : s.vm.findClass R_C = some m.cls := findClass_of_methodNamed B.named
  have hlocks := B.notSynchronized
  have hl := lv_entry ([.ref g.1.1, .int p0, .int p1, .int p2]) (n := 6) (Nat.le_of_ble_eq_true rfl)
  rw [lg_entry_eq]
  generalize (lg_sl ([.ref g.1.1, .int p0, .int p1, .int p2]) ++ List.replicate (6 - (lg_sl ([.ref g.1.1, .int p0, .int p1, .int p2])).length) Slot.unset).toArray = ls at hl ⊢
  have hl : lv_has ls 6 [(0, .ref g.1.1), (1, .int p0), (2, .int p1), (3, .int p2)] := hl
  refine lv_aload_n hx hb d_C_line_0 rfl (lv_at hl 0 rfl) ?_
  refine lv_iload_n hx hb d_C_line_1 rfl (lv_at hl 1 rfl) ?_
  refine cpv (As := [.int p0]) (rest := []) ⟨hx, hb, hml, hown, htb⟩ (c_C_requireCoreOrNone l D cI cZ g hg x p0 (Or.inr ⟨hv0, hv1⟩)) (cwv (n := 1) htb cd_C_requireCoreOrNone k_C_116 in_C_requireCoreOrNone se_C_requireCoreOrNone ini_C hd_C_requireCoreOrNone ⟨Nat.le_of_ble_eq_true rfl, Nat.le_of_ble_eq_true rfl⟩) hK hP [0, 1, 2, 3, 4, 5, 6, 7, 8, 9, 10, 11, 12, 13, 14, 15, 16, 17, 18] rfl (ci := 2) rfl rfl rfl hl.1 rfl (Nat.le_of_ble_eq_true rfl) d_C_line_2 ⟨Nat.zero_le _, Nat.zero_le _⟩ (?_)
  refine lv_aload_n hx hb d_C_line_5 rfl (lv_at hl 0 rfl) ?_
  refine lv_iload_n hx hb d_C_line_6 rfl (lv_at hl 1 rfl) ?_
  refine cpr (As := [.int p0]) (rest := []) ⟨hx, hb, hml, hown, htb⟩ (c_C_bankOf_c l D cI cZ g hg x p0 hq) (cwv (n := 1) htb cd_C_bankOf k_C_119 in_C_bankOf se_C_bankOf ini_C hd_C_bankOf ⟨Nat.le_of_ble_eq_true rfl, Nat.le_of_ble_eq_true rfl⟩) hK hP [0, 1, 2, 3, 4, 5, 6, 7, 8, 9, 10, 11, 12, 13, 14, 15, 16, 17, 18] rfl (ci := 2) rfl rfl rfl hl.1 rfl (Nat.le_of_ble_eq_true rfl) d_C_line_7 ⟨Nat.zero_le _, Nat.zero_le _⟩ (?_)
  refine lv_astore (lv' := [(4, .ref g.2.2.2.1.1.1), (0, .ref g.1.1), (1, .int p0), (2, .int p1), (3, .int p2)]) hx hb d_C_line_10 hl (by decide) rfl (fun ls hl => ?_)
  refine lv_iload_n hx hb d_C_line_12 rfl (lv_at hl 3 rfl) ?_
  refine lv_if_lt (tgt := 25) hx hb d_C_line_13 (by decide) (fun c_13 => ?_) (fun c_13 => ?_)
  · skip
    exact thrI (text := "there is no such set") hx hb hlt hown htb hT (by decide) (hl.1.trans hml.symm) d_C_line_25 d_C_line_28 d_C_line_29 d_C_line_31 d_C_line_34 htab ⟨Nat.le_of_ble_eq_true rfl, Nat.le_of_ble_eq_true rfl, Nat.le_of_ble_eq_true rfl, Nat.le_of_ble_eq_true rfl⟩ hlocks
  · skip
    refine lv_iload_n hx hb d_C_line_16 rfl (lv_at hl 3 rfl) ?_
    refine lv_aload hx hb d_C_line_17 (lv_at hl 0 rfl) ?_
    refine va_get (D := D) (ci := 0) (v := .int g.2.2.2.1.2.1.1) (C := R_B) (T := T_B) (N := 7) hx hb htb i_B hown hK hP 1 rfl rfl 0 (by decide) (htb _ k_C_129) (fun _ h9 => h9) rfl d_C_line_19 ?_
    refine lv_icmp_lt (tgt := 35) hx hb d_C_line_22 (by decide) (fun c_22 => ?_) (fun c_22 => ?_)
    · exact absurd c_22 (hw.resolve_left c_13)
    · skip
      exact thrI (text := "there is no such set") hx hb hlt hown htb hT (by decide) (hl.1.trans hml.symm) d_C_line_25 d_C_line_28 d_C_line_29 d_C_line_31 d_C_line_34 htab ⟨Nat.le_of_ble_eq_true rfl, Nat.le_of_ble_eq_true rfl, Nat.le_of_ble_eq_true rfl, Nat.le_of_ble_eq_true rfl⟩ hlocks

abbrev w_C_line_kc : List Cond := .code y_C_line b_C_line 6 (some .int) :: tbW
abbrev rm_C_line_kc : Room := { frames := 6, cells := 1, slots := 6, locals := 82 }
set_option maxHeartbeats 4000000 in
set_option maxRecDepth 100000 in
theorem t_C_line_kc (l : Launch) (hlt : l.stackTraces = false) (D : va_G) (cI cZ : ClassId) (g : GC) (hg : okC g) (x : Cs) (p0 p1 p2 : Int32) (hv0 : ¬ p0 < 0) (hv1 : p0 < g.2.1.1) (hq : ¬ p0 = -1) (hs0 : ¬ p1 < 0) (hs1 : p1 < g.2.2.2.1.2.1.1) (hw : p2 < 0 ∨ ¬ p2 < M_B_size g.2.2.2.1 x.2.1 ((M_C_groupOf p0 * g.2.2.2.1.2.1.1) + p1)) : vx_Met l y_C_line w_C_line_kc rm_C_line_kc (PcT D vwCl (tyK cI cZ) [.ref g.1.1, .int p0, .int p1, .int p2] (wC cI cZ g x)) (va_Qi (fun (_ : Int32) (_ : Unit) => False) (fun _ _ => True) (fun _ => False)) (XT EI) 1 6 (fun _ => False) := by
  refine vx_ofW (cc := b_C_line) (maxL := 6) (ret := (some .int)) (by decide) rfl ?_
  intro p e s m args below meth c s₁ B hml htab hv
  obtain ⟨rfl, hP, hK, hT⟩ := hv
  have hx := B.exec
  have hb := B.bytes
  have hr := B.returns
  have htb : ∀ w ∈ tbW, w.before _ s = true := fun w h => atoms_spec (ws := w_C_line_kc) B.pre w (List.mem_cons_of_mem _ h)
  have hown : s.vm.findClass R_C = some m.cls := findClass_of_methodNamed B.named
  have hlocks := B.notSynchronized
  have hl := lv_entry ([.ref g.1.1, .int p0, .int p1, .int p2]) (n := 6) (Nat.le_of_ble_eq_true rfl)
  rw [lg_entry_eq]
  generalize (lg_sl ([.ref g.1.1, .int p0, .int p1, .int p2]) ++ List.replicate (6 - (lg_sl ([.ref g.1.1, .int p0, .int p1, .int p2])).length) Slot.unset).toArray = ls at hl ⊢
  have hl : lv_has ls 6 [(0, .ref g.1.1), (1, .int p0), (2, .int p1), (3, .int p2)] := hl
  refine lv_aload_n hx hb d_C_line_0 rfl (lv_at hl 0 rfl) ?_
  refine lv_iload_n hx hb d_C_line_1 rfl (lv_at hl 1 rfl) ?_
  refine cpv (As := [.int p0]) (rest := []) ⟨hx, hb, hml, hown, htb⟩ (c_C_requireCoreOrNone l D cI cZ g hg x p0 (Or.inr ⟨hv0, hv1⟩)) (cwv (n := 1) htb cd_C_requireCoreOrNone k_C_116 in_C_requireCoreOrNone se_C_requireCoreOrNone ini_C hd_C_requireCoreOrNone ⟨Nat.le_of_ble_eq_true rfl, Nat.le_of_ble_eq_true rfl⟩) hK hP [0, 1, 2, 3, 4, 5, 6, 7, 8, 9, 10, 11, 12, 13, 14, 15, 16, 17, 18] rfl (ci := 2) rfl rfl rfl hl.1 rfl (Nat.le_of_ble_eq_true rfl) d_C_line_2 ⟨Nat.zero_le _, Nat.zero_le _⟩ (?_)
  refine lv_aload_n hx hb d_C_line_5 rfl (lv_at hl 0 rfl) ?_
  refine lv_iload_n hx hb d_C_line_6 rfl (lv_at hl 1 rfl) ?_
  refine cpr (As := [.int p0]) (rest := []) ⟨hx, hb, hml, hown, htb⟩ (c_C_bankOf_c l D cI cZ g hg x p0 hq) (cwv (n := 1) htb cd_C_bankOf k_C_119 in_C_bankOf se_C_bankOf ini_C hd_C_bankOf ⟨Nat.le_of_ble_eq_true rfl, Nat.le_of_ble_eq_true rfl⟩) hK hP [0, 1, 2, 3, 4, 5, 6, 7, 8, 9, 10, 11, 12, 13, 14, 15, 16, 17, 18] rfl (ci := 2) rfl rfl rfl hl.1 rfl (Nat.le_of_ble_eq_true rfl) d_C_line_7 ⟨Nat.zero_le _, Nat.zero_le _⟩ (?_)
  refine lv_astore (lv' := [(4, .ref g.2.2.2.1.1.1), (0, .ref g.1.1), (1, .int p0), (2, .int p1), (3, .int p2)]) hx hb d_C_line_10 hl (by decide) rfl (fun ls hl => ?_)
  refine lv_iload_n hx hb d_C_line_12 rfl (lv_at hl 3 rfl) ?_
  refine lv_if_lt (tgt := 25) hx hb d_C_line_13 (by decide) (fun c_13 => ?_) (fun c_13 => ?_)
  · exact absurd c_13 hs0
  · skip
    refine lv_iload_n hx hb d_C_line_16 rfl (lv_at hl 3 rfl) ?_
    refine lv_aload hx hb d_C_line_17 (lv_at hl 0 rfl) ?_
    refine va_get (D := D) (ci := 0) (v := .int g.2.2.2.1.2.1.1) (C := R_B) (T := T_B) (N := 7) hx hb htb i_B hown hK hP 1 rfl rfl 0 (by decide) (htb _ k_C_129) (fun _ h9 => h9) rfl d_C_line_19 ?_
    refine lv_icmp_lt (tgt := 35) hx hb d_C_line_22 (by decide) (fun c_22 => ?_) (fun c_22 => ?_)
    · skip
      refine lv_iload_n hx hb d_C_line_35 rfl (lv_at hl 2 rfl) ?_
      refine cps (As := [.int p0]) (rest := []) ⟨hx, hb, hml, hown, htb⟩ (c_C_groupOf l p0) (cws (n := 1) htb cd_C_groupOf k_C_123 st_C_groupOf ini_C hd_C_groupOf ⟨Nat.le_of_ble_eq_true rfl, Nat.le_of_ble_eq_true rfl⟩) rfl hl.1 rfl (Nat.le_of_ble_eq_true rfl) d_C_line_36 ⟨Nat.zero_le _, Nat.zero_le _⟩ (fun r_36 hw_36 => ?_)
      refine lv_aload hx hb d_C_line_39 (lv_at hl 0 rfl) ?_
      refine va_get (D := D) (ci := 0) (v := .int g.2.2.2.1.2.1.1) (C := R_B) (T := T_B) (N := 7) hx hb htb i_B hown hK hP 1 rfl rfl 0 (by decide) (htb _ k_C_129) (fun _ h9 => h9) rfl d_C_line_41 ?_
      refine lv_imul hx hb d_C_line_44 ?_
      refine lv_iload_n hx hb d_C_line_45 rfl (lv_at hl 3 rfl) ?_
      refine lv_iadd hx hb d_C_line_46 ?_
      refine lv_istore (lv' := [(5, .int ((r_36 * g.2.2.2.1.2.1.1) + p1)), (4, .ref g.2.2.2.1.1.1), (0, .ref g.1.1), (1, .int p0), (2, .int p1), (3, .int p2)]) hx hb d_C_line_47 hl (by decide) rfl (fun ls hl => ?_)
      refine lv_iload_n hx hb d_C_line_49 rfl (lv_at hl 5 rfl) ?_
      refine lv_if_lt (tgt := 64) hx hb d_C_line_50 (by decide) (fun c_50 => ?_) (fun c_50 => ?_)
      · skip
        exact thrI (text := "there is no such line in the set") hx hb hlt hown htb hT (by decide) (hl.1.trans hml.symm) d_C_line_64 d_C_line_67 d_C_line_68 d_C_line_70 d_C_line_73 htab ⟨Nat.le_of_ble_eq_true rfl, Nat.le_of_ble_eq_true rfl, Nat.le_of_ble_eq_true rfl, Nat.le_of_ble_eq_true rfl⟩ hlocks
      · skip
        refine lv_iload_n hx hb d_C_line_53 rfl (lv_at hl 5 rfl) ?_
        refine lv_aload hx hb d_C_line_54 (lv_at hl 1 rfl) ?_
        refine lv_iload hx hb d_C_line_56 (lv_at hl 0 rfl) ?_
        refine cpi (As := [.int ((r_36 * g.2.2.2.1.2.1.1) + p1)]) (rest := [.int p2]) ⟨hx, hb, hml, hown, htb⟩ (c_B_size l D cI cZ g.2.2.2.1 hg.2.1 x.2.1 ((r_36 * g.2.2.2.1.2.1.1) + p1)) (cwv (n := 1) htb cd_B_size k_C_137 in_B_size se_B_size ini_B hd_B_size ⟨Nat.le_of_ble_eq_true rfl, Nat.le_of_ble_eq_true rfl⟩) hK hP [1, 2, 3, 4, 5, 6] rfl (ci := 0) rfl rfl rfl hl.1 rfl (Nat.le_of_ble_eq_true rfl) d_C_line_58 ⟨Nat.zero_le _, Nat.zero_le _⟩ (fun r_58 hw_58 => ?_)
        refine lv_icmp_lt (tgt := 74) hx hb d_C_line_61 (by decide) (fun c_61 => ?_) (fun c_61 => ?_)
        · exact absurd (by rw [hw_58, hw_36] at c_61; exact c_61) (hw.resolve_left c_50)
        · skip
          exact thrI (text := "there is no such line in the set") hx hb hlt hown htb hT (by decide) (hl.1.trans hml.symm) d_C_line_64 d_C_line_67 d_C_line_68 d_C_line_70 d_C_line_73 htab ⟨Nat.le_of_ble_eq_true rfl, Nat.le_of_ble_eq_true rfl, Nat.le_of_ble_eq_true rfl, Nat.le_of_ble_eq_true rfl⟩ hlocks
    · exact absurd hs1 c_22
