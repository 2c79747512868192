def L_M_bring_152 (g : GM) (p0 p1 : Int32) (v4 : Int32) (z : Ms) : Int32 × Ms := (bnd (M_M_comeToFirst g z p0 p1 (0 : Int32) v4) (fun u_158 => ((3 : Int32), u_158)))
theorem L_M_bring_152_eq (g : GM) (p0 p1 : Int32) (v4 : Int32) (z : Ms) : L_M_bring_152 g p0 p1 v4 z = (bnd (M_M_comeToFirst g z p0 p1 (0 : Int32) v4) (fun u_158 => ((3 : Int32), u_158))) := rfl
def S_M_bring_152 (g : GM) (p0 p1 : Int32) (v4 : Int32) (z : Ms) : Prop := (S_M_comeToFirst g z p0 p1 (0 : Int32) v4 ∧ (bnd (M_M_comeToFirst g z p0 p1 (0 : Int32) v4) (fun u_158 => True)))
theorem S_M_bring_152_eq (g : GM) (p0 p1 : Int32) (v4 : Int32) (z : Ms) : S_M_bring_152 g p0 p1 v4 z = (S_M_comeToFirst g z p0 p1 (0 : Int32) v4 ∧ (bnd (M_M_comeToFirst g z p0 p1 (0 : Int32) v4) (fun u_158 => True))) := rfl
def L_M_bring_138 (g : GM) (p0 p1 : Int32) (v4 v5 : Int32) (z : Ms) : Int32 × Ms := (if v5 = 0 then L_M_bring_152 g p0 p1 v4 z else (bnd (M_M_comeToSecond g z p0 p1 (0 : Int32) v4) (fun u_149 => L_M_bring_152 g p0 p1 v4 u_149)))
theorem L_M_bring_138_eq (g : GM) (p0 p1 : Int32) (v4 v5 : Int32) (z : Ms) : L_M_bring_138 g p0 p1 v4 v5 z = (if v5 = 0 then L_M_bring_152 g p0 p1 v4 z else (bnd (M_M_comeToSecond g z p0 p1 (0 : Int32) v4) (fun u_149 => L_M_bring_152 g p0 p1 v4 u_149))) := rfl
def S_M_bring_138 (g : GM) (p0 p1 : Int32) (v4 v5 : Int32) (z : Ms) : Prop := ((v5 = 0 → S_M_bring_152 g p0 p1 v4 z) ∧ (¬ v5 = 0 → (S_M_comeToSecond g z p0 p1 (0 : Int32) v4 ∧ (bnd (M_M_comeToSecond g z p0 p1 (0 : Int32) v4) (fun u_149 => S_M_bring_152 g p0 p1 v4 u_149)))))
theorem S_M_bring_138_eq (g : GM) (p0 p1 : Int32) (v4 v5 : Int32) (z : Ms) : S_M_bring_138 g p0 p1 v4 v5 z = ((v5 = 0 → S_M_bring_152 g p0 p1 v4 z) ∧ (¬ v5 = 0 → (S_M_comeToSecond g z p0 p1 (0 : Int32) v4 ∧ (bnd (M_M_comeToSecond g z p0 p1 (0 : Int32) v4) (fun u_149 => S_M_bring_152 g p0 p1 v4 u_149))))) := rfl
def L_M_bring_114 (g : GM) (p0 p1 : Int32) (v4 v5 : Int32) (z : Ms) : Int32 × Ms := (if g.2.2.1 = (1 : Int32) then (if v5 = 0 then ((4 : Int32), z) else (if (z.2.2.1 p0.toNatClampNeg) = 0 then ((4 : Int32), z) else L_M_bring_138 g p0 p1 v4 v5 z)) else L_M_bring_138 g p0 p1 v4 v5 z)
theorem L_M_bring_114_eq (g : GM) (p0 p1 : Int32) (v4 v5 : Int32) (z : Ms) : L_M_bring_114 g p0 p1 v4 v5 z = (if g.2.2.1 = (1 : Int32) then (if v5 = 0 then ((4 : Int32), z) else (if (z.2.2.1 p0.toNatClampNeg) = 0 then ((4 : Int32), z) else L_M_bring_138 g p0 p1 v4 v5 z)) else L_M_bring_138 g p0 p1 v4 v5 z) := rfl
def S_M_bring_114 (g : GM) (p0 p1 : Int32) (v4 v5 : Int32) (z : Ms) : Prop := ((g.2.2.1 = (1 : Int32) → ((v5 = 0 → True) ∧ (¬ v5 = 0 → (vp_in p0 4 ∧ (((z.2.2.1 p0.toNatClampNeg) = 0 → True) ∧ (¬ (z.2.2.1 p0.toNatClampNeg) = 0 → S_M_bring_138 g p0 p1 v4 v5 z)))))) ∧ (¬ g.2.2.1 = (1 : Int32) → S_M_bring_138 g p0 p1 v4 v5 z))
theorem S_M_bring_114_eq (g : GM) (p0 p1 : Int32) (v4 v5 : Int32) (z : Ms) : S_M_bring_114 g p0 p1 v4 v5 z = ((g.2.2.1 = (1 : Int32) → ((v5 = 0 → True) ∧ (¬ v5 = 0 → (vp_in p0 4 ∧ (((z.2.2.1 p0.toNatClampNeg) = 0 → True) ∧ (¬ (z.2.2.1 p0.toNatClampNeg) = 0 → S_M_bring_138 g p0 p1 v4 v5 z)))))) ∧ (¬ g.2.2.1 = (1 : Int32) → S_M_bring_138 g p0 p1 v4 v5 z)) := rfl
def L_M_bring_72 (g : GM) (p0 p1 : Int32) (v4 v5 : Int32) (z : Ms) : Int32 × Ms := (bnd (M_M_comeToFirst g z p0 p1 v4 v5) (fun u_79 => ((2 : Int32), u_79)))
theorem L_M_bring_72_eq (g : GM) (p0 p1 : Int32) (v4 v5 : Int32) (z : Ms) : L_M_bring_72 g p0 p1 v4 v5 z = (bnd (M_M_comeToFirst g z p0 p1 v4 v5) (fun u_79 => ((2 : Int32), u_79))) := rfl
def S_M_bring_72 (g : GM) (p0 p1 : Int32) (v4 v5 : Int32) (z : Ms) : Prop := (S_M_comeToFirst g z p0 p1 v4 v5 ∧ (bnd (M_M_comeToFirst g z p0 p1 v4 v5) (fun u_79 => True)))
theorem S_M_bring_72_eq (g : GM) (p0 p1 : Int32) (v4 v5 : Int32) (z : Ms) : S_M_bring_72 g p0 p1 v4 v5 z = (S_M_comeToFirst g z p0 p1 v4 v5 ∧ (bnd (M_M_comeToFirst g z p0 p1 v4 v5) (fun u_79 => True))) := rfl
def L_M_bring_41 (g : GM) (p0 p1 : Int32) (v3 v4 : Int32) (z : Ms) : Int32 × Ms := (if g.2.2.1 = (2 : Int32) then (bnd (M_M_takeOut g z (4 : Int32) v3) (fun u_60 => L_M_bring_72 g p0 p1 v4 (z.2.1.2.2.2.1 v3.toNatClampNeg) u_60)) else (bnd (M_M_use g z (4 : Int32) v3) (fun u_69 => L_M_bring_72 g p0 p1 v4 (z.2.1.2.2.2.1 v3.toNatClampNeg) u_69)))
theorem L_M_bring_41_eq (g : GM) (p0 p1 : Int32) (v3 v4 : Int32) (z : Ms) : L_M_bring_41 g p0 p1 v3 v4 z = (if g.2.2.1 = (2 : Int32) then (bnd (M_M_takeOut g z (4 : Int32) v3) (fun u_60 => L_M_bring_72 g p0 p1 v4 (z.2.1.2.2.2.1 v3.toNatClampNeg) u_60)) else (bnd (M_M_use g z (4 : Int32) v3) (fun u_69 => L_M_bring_72 g p0 p1 v4 (z.2.1.2.2.2.1 v3.toNatClampNeg) u_69))) := rfl
def S_M_bring_41 (g : GM) (p0 p1 : Int32) (v3 v4 : Int32) (z : Ms) : Prop := (vp_in v3 320 ∧ ((g.2.2.1 = (2 : Int32) → (S_M_takeOut g z (4 : Int32) v3 ∧ (bnd (M_M_takeOut g z (4 : Int32) v3) (fun u_60 => S_M_bring_72 g p0 p1 v4 (z.2.1.2.2.2.1 v3.toNatClampNeg) u_60)))) ∧ (¬ g.2.2.1 = (2 : Int32) → (S_M_use g z (4 : Int32) v3 ∧ (bnd (M_M_use g z (4 : Int32) v3) (fun u_69 => S_M_bring_72 g p0 p1 v4 (z.2.1.2.2.2.1 v3.toNatClampNeg) u_69))))))
theorem S_M_bring_41_eq (g : GM) (p0 p1 : Int32) (v3 v4 : Int32) (z : Ms) : S_M_bring_41 g p0 p1 v3 v4 z = (vp_in v3 320 ∧ ((g.2.2.1 = (2 : Int32) → (S_M_takeOut g z (4 : Int32) v3 ∧ (bnd (M_M_takeOut g z (4 : Int32) v3) (fun u_60 => S_M_bring_72 g p0 p1 v4 (z.2.1.2.2.2.1 v3.toNatClampNeg) u_60)))) ∧ (¬ g.2.2.1 = (2 : Int32) → (S_M_use g z (4 : Int32) v3 ∧ (bnd (M_M_use g z (4 : Int32) v3) (fun u_69 => S_M_bring_72 g p0 p1 v4 (z.2.1.2.2.2.1 v3.toNatClampNeg) u_69)))))) := rfl
def M_M_bring (g : GM) (x : Ms) (p0 p1 : Int32) : Int32 × Ms := (bnd (M_M_handOver g x p0 p1) (fun u_3 => (bnd (M_M_at g u_3 (4 : Int32) p1) (fun r_9 => (if r_9 < 0 then (bnd (M_M_memoryOf g u_3 p1) (fun r_86 => (if (2 : Int32) ≤ g.2.2.1 then L_M_bring_114 g p0 p1 r_86 (0 : Int32) u_3 else (bnd (M_M_passes g u_3 p1) (fun r_101 => (if r_101 = 0 then L_M_bring_114 g p0 p1 r_86 (1 : Int32) u_3 else L_M_bring_114 g p0 p1 r_86 (0 : Int32) u_3)))))) else (if g.2.2.1 = (2 : Int32) then (if (u_3.2.1.2.2.1 r_9.toNatClampNeg) = 0 then L_M_bring_41 g p0 p1 r_9 (0 : Int32) u_3 else L_M_bring_41 g p0 p1 r_9 (1 : Int32) u_3) else L_M_bring_41 g p0 p1 r_9 (0 : Int32) u_3))))))
theorem M_M_bring_eq (g : GM) (x : Ms) (p0 p1 : Int32) : M_M_bring g x p0 p1 = (bnd (M_M_handOver g x p0 p1) (fun u_3 => (bnd (M_M_at g u_3 (4 : Int32) p1) (fun r_9 => (if r_9 < 0 then (bnd (M_M_memoryOf g u_3 p1) (fun r_86 => (if (2 : Int32) ≤ g.2.2.1 then L_M_bring_114 g p0 p1 r_86 (0 : Int32) u_3 else (bnd (M_M_passes g u_3 p1) (fun r_101 => (if r_101 = 0 then L_M_bring_114 g p0 p1 r_86 (1 : Int32) u_3 else L_M_bring_114 g p0 p1 r_86 (0 : Int32) u_3)))))) else (if g.2.2.1 = (2 : Int32) then (if (u_3.2.1.2.2.1 r_9.toNatClampNeg) = 0 then L_M_bring_41 g p0 p1 r_9 (0 : Int32) u_3 else L_M_bring_41 g p0 p1 r_9 (1 : Int32) u_3) else L_M_bring_41 g p0 p1 r_9 (0 : Int32) u_3)))))) := rfl
def S_M_bring (g : GM) (x : Ms) (p0 p1 : Int32) : Prop := (S_M_handOver g x p0 p1 ∧ (bnd (M_M_handOver g x p0 p1) (fun u_3 => (S_M_at g u_3 (4 : Int32) p1 ∧ (bnd (M_M_at g u_3 (4 : Int32) p1) (fun r_9 => ((r_9 < 0 → (S_M_memoryOf g u_3 p1 ∧ (bnd (M_M_memoryOf g u_3 p1) (fun r_86 => (((2 : Int32) ≤ g.2.2.1 → S_M_bring_114 g p0 p1 r_86 (0 : Int32) u_3) ∧ (¬ (2 : Int32) ≤ g.2.2.1 → (bnd (M_M_passes g u_3 p1) (fun r_101 => ((r_101 = 0 → S_M_bring_114 g p0 p1 r_86 (1 : Int32) u_3) ∧ (¬ r_101 = 0 → S_M_bring_114 g p0 p1 r_86 (0 : Int32) u_3)))))))))) ∧ (¬ r_9 < 0 → ((g.2.2.1 = (2 : Int32) → (vp_in r_9 320 ∧ (((u_3.2.1.2.2.1 r_9.toNatClampNeg) = 0 → S_M_bring_41 g p0 p1 r_9 (0 : Int32) u_3) ∧ (¬ (u_3.2.1.2.2.1 r_9.toNatClampNeg) = 0 → S_M_bring_41 g p0 p1 r_9 (1 : Int32) u_3)))) ∧ (¬ g.2.2.1 = (2 : Int32) → S_M_bring_41 g p0 p1 r_9 (0 : Int32) u_3))))))))))
theorem S_M_bring_eq (g : GM) (x : Ms) (p0 p1 : Int32) : S_M_bring g x p0 p1 = (S_M_handOver g x p0 p1 ∧ (bnd (M_M_handOver g x p0 p1) (fun u_3 => (S_M_at g u_3 (4 : Int32) p1 ∧ (bnd (M_M_at g u_3 (4 : Int32) p1) (fun r_9 => ((r_9 < 0 → (S_M_memoryOf g u_3 p1 ∧ (bnd (M_M_memoryOf g u_3 p1) (fun r_86 => (((2 : Int32) ≤ g.2.2.1 → S_M_bring_114 g p0 p1 r_86 (0 : Int32) u_3) ∧ (¬ (2 : Int32) ≤ g.2.2.1 → (bnd (M_M_passes g u_3 p1) (fun r_101 => ((r_101 = 0 → S_M_bring_114 g p0 p1 r_86 (1 : Int32) u_3) ∧ (¬ r_101 = 0 → S_M_bring_114 g p0 p1 r_86 (0 : Int32) u_3)))))))))) ∧ (¬ r_9 < 0 → ((g.2.2.1 = (2 : Int32) → (vp_in r_9 320 ∧ (((u_3.2.1.2.2.1 r_9.toNatClampNeg) = 0 → S_M_bring_41 g p0 p1 r_9 (0 : Int32) u_3) ∧ (¬ (u_3.2.1.2.2.1 r_9.toNatClampNeg) = 0 → S_M_bring_41 g p0 p1 r_9 (1 : Int32) u_3)))) ∧ (¬ g.2.2.1 = (2 : Int32) → S_M_bring_41 g p0 p1 r_9 (0 : Int32) u_3)))))))))) := rfl
abbrev w_M_bring : List Cond := .code y_M_bring b_M_bring 6 (some .int) :: tbW
abbrev rm_M_bring : Room := { frames := 6, cells := 0, slots := 0, locals := 146 }
set_option maxHeartbeats 4000000 in
set_option maxRecDepth 100000 in
theorem c_M_bring (l : Launch) (D : va_G) (cI cZ : ClassId) (g : GM) (hg : okM g) (x : Ms) (p0 p1 : Int32) (hs : S_M_bring g x p0 p1) : Met l y_M_bring w_M_bring rm_M_bring (PcW D vwCl (tyK cI cZ) [.ref g.1.1, .int p0, .int p1] (wM cI cZ g x)) (va_Qi (fun (r : Int32) (u : Ms) => (r, u) = M_M_bring g x p0 p1) (fun (u : Ms) (t : State) => va_P D vwCl (wM cI cZ g u) t.heap) (Aw (wM cI cZ g x))) 0 0 (Aw (wM cI cZ g x)) := by
  refine Met.ofW (cc := b_M_bring) (maxL := 6) (ret := (some .int)) (by decide) rfl ?_
  intro p e s m args below meth c s₁ B hml hv
  obtain ⟨rfl, hP, hK, hD0⟩ := hv
  have hx := B.exec
  have hb := B.bytes
  have hr := B.returns
  have htb : ∀ w ∈ tbW, w.before _ s = true := fun w h => atoms_spec (ws := w_M_bring) B.pre w (List.mem_cons_of_mem _ h)
  have hown : s.vm.findClass R_M = some m.cls := findClass_of_methodNamed B.named
  have hlocks := B.notSynchronized
  have hD : va_D (Aw (wM cI cZ g x)) (wM cI cZ g x) := ⟨hD0.1, fun k q hk => ⟨k, q.2, hk⟩⟩
  have hS : va_S (Aw (wM cI cZ g x)) s.heap s.heap [] := va_S.rf
  have cut_152 : ∀ (v4 : Int32) (z : Ms) (H : Heap) (locs : List Loc) (ls : Array Slot), M_M_bring g x p0 p1 = L_M_bring_152 g p0 p1 v4 z → S_M_bring_152 g p0 p1 v4 z → va_P D vwCl (wM cI cZ g z) H → va_D (Aw (wM cI cZ g x)) (wM cI cZ g z) → va_S (Aw (wM cI cZ g x)) s.heap H locs → lv_has ls 6 [(0, .ref g.1.1), (1, .int p0), (2, .int p1), (4, .int v4)] → W p l e (headSpec w_M_bring rm_M_bring).room s m ([.ref g.1.1, .int p0, .int p1] : List Value).toArray below meth c H locs 0 0 (MQ below (va_Qi (fun (r : Int32) (u : Ms) => (r, u) = M_M_bring g x p0 p1) (fun (u : Ms) (t : State) => va_P D vwCl (wM cI cZ g u) t.heap) (Aw (wM cI cZ g x))) ([.ref g.1.1, .int p0, .int p1] : List Value).toArray s 0 0 (Aw (wM cI cZ g x))) (F0 m 152 ls []) := by
    intro v4 z H locs ls hF hs hP hD hS hl
    have hF := hF.trans (L_M_bring_152_eq g p0 p1 v4 z)
    have hs := Eq.mp (S_M_bring_152_eq g p0 p1 v4 z) hs
    refine lv_aload_n hx hb d_M_bring_152 rfl (lv_at hl 0 rfl) ?_
    refine lv_iload_n hx hb d_M_bring_153 rfl (lv_at hl 1 rfl) ?_
    refine lv_iload_n hx hb d_M_bring_154 rfl (lv_at hl 2 rfl) ?_
    refine lv_iconst (v := 0) hx hb d_M_bring_155 (by decide) ?_
    refine lv_iload hx hb d_M_bring_156 (lv_at hl 3 rfl) ?_
    refine cwv_ (As := [.int p0, .int p1, .int (0 : Int32), .int v4]) (rest := []) (wldC := fun u => (wM cI cZ g u)) ⟨hx, hb, hml, hown, htb⟩ (c_M_comeToFirst l D cI cZ g hg z p0 p1 (0 : Int32) v4 hs.1) (cwv (n := 4) htb cd_M_comeToFirst k_M_139 in_M_comeToFirst se_M_comeToFirst ini_M hd_M_comeToFirst ⟨Nat.le_of_ble_eq_true rfl, Nat.le_of_ble_eq_true rfl⟩) hK hP hD hS [0, 1, 2, 3, 4, 5, 6, 7, 8, 9, 10] [] [0, 1, 2, 3, 4, 5, 6, 7, 8, 9, 10] rfl rfl (by decide) (by decide) rfl (fun _ => rfl) (fun _ => rfl) (ci := 3) rfl rfl rfl hl.1 rfl (Nat.le_of_ble_eq_true rfl) d_M_bring_158 ⟨Nat.zero_le _, Nat.zero_le _⟩ (fun u_158 H locs hw_158 hP hD hS => ?_)
    have hP : va_P D vwCl (wM cI cZ g u_158) H := hP
    have hD : va_D _ (wM cI cZ g u_158) := hD
    have hF := hF.trans (bnd_eq hw_158)
    have hs := Eq.mp (bnd_eq hw_158) hs.2
    refine lv_iconst (v := 3) hx hb d_M_bring_161 (by decide) ?_
    exact W.iret (v := (3 : Int32)) hx hb hr (fun t ht hW => ⟨⟨(3 : Int32), u_158, rfl, hF.symm, by dsimp only; rw [ht]; exact hP⟩, hS.F ht⟩) hS.2.2 d_M_bring_162
  have cut_138 : ∀ (v4 v5 : Int32) (z : Ms) (H : Heap) (locs : List Loc) (ls : Array Slot), M_M_bring g x p0 p1 = L_M_bring_138 g p0 p1 v4 v5 z → S_M_bring_138 g p0 p1 v4 v5 z → va_P D vwCl (wM cI cZ g z) H → va_D (Aw (wM cI cZ g x)) (wM cI cZ g z) → va_S (Aw (wM cI cZ g x)) s.heap H locs → lv_has ls 6 [(0, .ref g.1.1), (1, .int p0), (2, .int p1), (4, .int v4), (5, .int v5)] → W p l e (headSpec w_M_bring rm_M_bring).room s m ([.ref g.1.1, .int p0, .int p1] : List Value).toArray below meth c H locs 0 0 (MQ below (va_Qi (fun (r : Int32) (u : Ms) => (r, u) = M_M_bring g x p0 p1) (fun (u : Ms) (t : State) => va_P D vwCl (wM cI cZ g u) t.heap) (Aw (wM cI cZ g x))) ([.ref g.1.1, .int p0, .int p1] : List Value).toArray s 0 0 (Aw (wM cI cZ g x))) (F0 m 138 ls []) := by
    intro v4 v5 z H locs ls hF hs hP hD hS hl
    have hF := hF.trans (L_M_bring_138_eq g p0 p1 v4 v5 z)
    have hs := Eq.mp (S_M_bring_138_eq g p0 p1 v4 v5 z) hs
    refine lv_iload hx hb d_M_bring_138 (lv_at hl 4 rfl) ?_
    refine lv_if_eq (tgt := 152) hx hb d_M_bring_140 (by decide) (fun c_140 => ?_) (fun c_140 => ?_)
    · have hF := hF.trans (if_pos c_140)
      have hs := hs.1 c_140
      have hl := lv_sub (l' := [(0, .ref g.1.1), (1, .int p0), (2, .int p1), (4, .int v4)]) hl [0, 1, 2, 3] rfl
      exact cut_152 v4 z _ _ _ hF hs hP hD hS hl
    · have hF := hF.trans (if_neg c_140)
      have hs := hs.2 c_140
      refine lv_aload_n hx hb d_M_bring_143 rfl (lv_at hl 0 rfl) ?_
      refine lv_iload_n hx hb d_M_bring_144 rfl (lv_at hl 1 rfl) ?_
      refine lv_iload_n hx hb d_M_bring_145 rfl (lv_at hl 2 rfl) ?_
      refine lv_iconst (v := 0) hx hb d_M_bring_146 (by decide) ?_
      refine lv_iload hx hb d_M_bring_147 (lv_at hl 3 rfl) ?_
      refine cwv_ (As := [.int p0, .int p1, .int (0 : Int32), .int v4]) (rest := []) (wldC := fun u => (wM cI cZ g u)) ⟨hx, hb, hml, hown, htb⟩ (c_M_comeToSecond l D cI cZ g hg z p0 p1 (0 : Int32) v4 hs.1) (cwv (n := 4) htb cd_M_comeToSecond k_M_123 in_M_comeToSecond se_M_comeToSecond ini_M hd_M_comeToSecond ⟨Nat.le_of_ble_eq_true rfl, Nat.le_of_ble_eq_true rfl⟩) hK hP hD hS [0, 1, 2, 3, 4, 5, 6, 7, 8, 9, 10] [] [0, 1, 2, 3, 4, 5, 6, 7, 8, 9, 10] rfl rfl (by decide) (by decide) rfl (fun _ => rfl) (fun _ => rfl) (ci := 3) rfl rfl rfl hl.1 rfl (Nat.le_of_ble_eq_true rfl) d_M_bring_149 ⟨Nat.zero_le _, Nat.zero_le _⟩ (fun u_149 H locs hw_149 hP hD hS => ?_)
      have hP : va_P D vwCl (wM cI cZ g u_149) H := hP
      have hD : va_D _ (wM cI cZ g u_149) := hD
      have hF := hF.trans (bnd_eq hw_149)
      have hs := Eq.mp (bnd_eq hw_149) hs.2
      have hl := lv_sub (l' := [(0, .ref g.1.1), (1, .int p0), (2, .int p1), (4, .int v4)]) hl [0, 1, 2, 3] rfl
      exact cut_152 v4 u_149 _ _ _ hF hs hP hD hS hl
  have cut_114 : ∀ (v4 v5 : Int32) (z : Ms) (H : Heap) (locs : List Loc) (ls : Array Slot), M_M_bring g x p0 p1 = L_M_bring_114 g p0 p1 v4 v5 z → S_M_bring_114 g p0 p1 v4 v5 z → va_P D vwCl (wM cI cZ g z) H → va_D (Aw (wM cI cZ g x)) (wM cI cZ g z) → va_S (Aw (wM cI cZ g x)) s.heap H locs → lv_has ls 6 [(0, .ref g.1.1), (1, .int p0), (2, .int p1), (4, .int v4), (5, .int v5)] → W p l e (headSpec w_M_bring rm_M_bring).room s m ([.ref g.1.1, .int p0, .int p1] : List Value).toArray below meth c H locs 0 0 (MQ below (va_Qi (fun (r : Int32) (u : Ms) => (r, u) = M_M_bring g x p0 p1) (fun (u : Ms) (t : State) => va_P D vwCl (wM cI cZ g u) t.heap) (Aw (wM cI cZ g x))) ([.ref g.1.1, .int p0, .int p1] : List Value).toArray s 0 0 (Aw (wM cI cZ g x))) (F0 m 114 ls []) := by
    intro v4 v5 z H locs ls hF hs hP hD hS hl
    have hF := hF.trans (L_M_bring_114_eq g p0 p1 v4 v5 z)
    have hs := Eq.mp (S_M_bring_114_eq g p0 p1 v4 v5 z) hs
    refine lv_aload_n hx hb d_M_bring_114 rfl (lv_at hl 0 rfl) ?_
    refine va_get (D := D) (ci := 3) (v := .int g.2.2.1) (C := R_M) (T := T_M) (N := 20) hx hb htb i_M hown hK hP 0 rfl rfl 2 (by decide) (htb _ k_M_52) (fun _ h9 => h9) rfl d_M_bring_115 ?_
    refine lv_iconst (v := 1) hx hb d_M_bring_118 (by decide) ?_
    refine lv_icmp_ne (tgt := 138) hx hb d_M_bring_119 (by decide) (fun c_119 => ?_) (fun c_119 => ?_)
    · have hF := hF.trans (if_neg c_119)
      have hs := hs.2 c_119
      have hl := lv_sub (l' := [(0, .ref g.1.1), (1, .int p0), (2, .int p1), (4, .int v4), (5, .int v5)]) hl [0, 1, 2, 3, 4] rfl
      exact cut_138 v4 v5 z _ _ _ hF hs hP hD hS hl
    · have hF := hF.trans (if_pos c_119)
      have hs := hs.1 c_119
      refine lv_iload hx hb d_M_bring_122 (lv_at hl 4 rfl) ?_
      refine lv_if_eq (tgt := 136) hx hb d_M_bring_124 (by decide) (fun c_124 => ?_) (fun c_124 => ?_)
      · have hF := hF.trans (if_pos c_124)
        have hs := hs.1 c_124
        refine lv_iconst (v := 4) hx hb d_M_bring_136 (by decide) ?_
        exact W.iret (v := (4 : Int32)) hx hb hr (fun t ht hW => ⟨⟨(4 : Int32), z, rfl, hF.symm, by dsimp only; rw [ht]; exact hP⟩, hS.F ht⟩) hS.2.2 d_M_bring_137
      · have hF := hF.trans (if_neg c_124)
        have hs := hs.2 c_124
        refine lv_aload_n hx hb d_M_bring_127 rfl (lv_at hl 0 rfl) ?_
        refine va_get (D := D) (ci := 3) (v := .ref g.1.2.2.2.2.2.2.1) (C := R_M) (T := T_M) (N := 20) hx hb htb i_M hown hK hP 0 rfl rfl 10 (by decide) (htb _ k_M_26) (fun _ h9 => h9) rfl d_M_bring_128 ?_
        refine lv_iload_n hx hb d_M_bring_131 rfl (lv_at hl 1 rfl) ?_
        refine va_iald hx hb hK hP 6 0 rfl rfl hs.1 d_M_bring_132 ?_
        have hs := hs.2
        refine lv_if_ne (tgt := 138) hx hb d_M_bring_133 (by decide) (fun c_133 => ?_) (fun c_133 => ?_)
        · have hF := hF.trans (if_neg c_133)
          have hs := hs.2 c_133
          have hl := lv_sub (l' := [(0, .ref g.1.1), (1, .int p0), (2, .int p1), (4, .int v4), (5, .int v5)]) hl [0, 1, 2, 3, 4] rfl
          exact cut_138 v4 v5 z _ _ _ hF hs hP hD hS hl
        · have hF := hF.trans (if_pos c_133)
          have hs := hs.1 c_133
          refine lv_iconst (v := 4) hx hb d_M_bring_136 (by decide) ?_
          exact W.iret (v := (4 : Int32)) hx hb hr (fun t ht hW => ⟨⟨(4 : Int32), z, rfl, hF.symm, by dsimp only; rw [ht]; exact hP⟩, hS.F ht⟩) hS.2.2 d_M_bring_137
  have cut_72 : ∀ (v4 v5 : Int32) (z : Ms) (H : Heap) (locs : List Loc) (ls : Array Slot), M_M_bring g x p0 p1 = L_M_bring_72 g p0 p1 v4 v5 z → S_M_bring_72 g p0 p1 v4 v5 z → va_P D vwCl (wM cI cZ g z) H → va_D (Aw (wM cI cZ g x)) (wM cI cZ g z) → va_S (Aw (wM cI cZ g x)) s.heap H locs → lv_has ls 6 [(0, .ref g.1.1), (1, .int p0), (2, .int p1), (4, .int v4), (5, .int v5)] → W p l e (headSpec w_M_bring rm_M_bring).room s m ([.ref g.1.1, .int p0, .int p1] : List Value).toArray below meth c H locs 0 0 (MQ below (va_Qi (fun (r : Int32) (u : Ms) => (r, u) = M_M_bring g x p0 p1) (fun (u : Ms) (t : State) => va_P D vwCl (wM cI cZ g u) t.heap) (Aw (wM cI cZ g x))) ([.ref g.1.1, .int p0, .int p1] : List Value).toArray s 0 0 (Aw (wM cI cZ g x))) (F0 m 72 ls []) := by
    intro v4 v5 z H locs ls hF hs hP hD hS hl
    have hF := hF.trans (L_M_bring_72_eq g p0 p1 v4 v5 z)
    have hs := Eq.mp (S_M_bring_72_eq g p0 p1 v4 v5 z) hs
    refine lv_aload_n hx hb d_M_bring_72 rfl (lv_at hl 0 rfl) ?_
    refine lv_iload_n hx hb d_M_bring_73 rfl (lv_at hl 1 rfl) ?_
    refine lv_iload_n hx hb d_M_bring_74 rfl (lv_at hl 2 rfl) ?_
    refine lv_iload hx hb d_M_bring_75 (lv_at hl 3 rfl) ?_
    refine lv_iload hx hb d_M_bring_77 (lv_at hl 4 rfl) ?_
    refine cwv_ (As := [.int p0, .int p1, .int v4, .int v5]) (rest := []) (wldC := fun u => (wM cI cZ g u)) ⟨hx, hb, hml, hown, htb⟩ (c_M_comeToFirst l D cI cZ g hg z p0 p1 v4 v5 hs.1) (cwv (n := 4) htb cd_M_comeToFirst k_M_139 in_M_comeToFirst se_M_comeToFirst ini_M hd_M_comeToFirst ⟨Nat.le_of_ble_eq_true rfl, Nat.le_of_ble_eq_true rfl⟩) hK hP hD hS [0, 1, 2, 3, 4, 5, 6, 7, 8, 9, 10] [] [0, 1, 2, 3, 4, 5, 6, 7, 8, 9, 10] rfl rfl (by decide) (by decide) rfl (fun _ => rfl) (fun _ => rfl) (ci := 3) rfl rfl rfl hl.1 rfl (Nat.le_of_ble_eq_true rfl) d_M_bring_79 ⟨Nat.zero_le _, Nat.zero_le _⟩ (fun u_79 H locs hw_79 hP hD hS => ?_)
    have hP : va_P D vwCl (wM cI cZ g u_79) H := hP
    have hD : va_D _ (wM cI cZ g u_79) := hD
    have hF := hF.trans (bnd_eq hw_79)
    have hs := Eq.mp (bnd_eq hw_79) hs.2
    refine lv_iconst (v := 2) hx hb d_M_bring_82 (by decide) ?_
    exact W.iret (v := (2 : Int32)) hx hb hr (fun t ht hW => ⟨⟨(2 : Int32), u_79, rfl, hF.symm, by dsimp only; rw [ht]; exact hP⟩, hS.F ht⟩) hS.2.2 d_M_bring_83
  have cut_41 : ∀ (v3 v4 : Int32) (z : Ms) (H : Heap) (locs : List Loc) (ls : Array Slot), M_M_bring g x p0 p1 = L_M_bring_41 g p0 p1 v3 v4 z → S_M_bring_41 g p0 p1 v3 v4 z → va_P D vwCl (wM cI cZ g z) H → va_D (Aw (wM cI cZ g x)) (wM cI cZ g z) → va_S (Aw (wM cI cZ g x)) s.heap H locs → lv_has ls 6 [(0, .ref g.1.1), (1, .int p0), (2, .int p1), (3, .int v3), (4, .int v4)] → W p l e (headSpec w_M_bring rm_M_bring).room s m ([.ref g.1.1, .int p0, .int p1] : List Value).toArray below meth c H locs 0 0 (MQ below (va_Qi (fun (r : Int32) (u : Ms) => (r, u) = M_M_bring g x p0 p1) (fun (u : Ms) (t : State) => va_P D vwCl (wM cI cZ g u) t.heap) (Aw (wM cI cZ g x))) ([.ref g.1.1, .int p0, .int p1] : List Value).toArray s 0 0 (Aw (wM cI cZ g x))) (F0 m 41 ls []) := by
    intro v3 v4 z H locs ls hF hs hP hD hS hl
    have hF := hF.trans (L_M_bring_41_eq g p0 p1 v3 v4 z)
    have hs := Eq.mp (S_M_bring_41_eq g p0 p1 v3 v4 z) hs
    refine lv_aload_n hx hb d_M_bring_41 rfl (lv_at hl 0 rfl) ?_
    refine va_get (D := D) (ci := 3) (v := .ref g.1.2.2.2.2.1) (C := R_M) (T := T_M) (N := 20) hx hb htb i_M hown hK hP 0 rfl rfl 8 (by decide) (htb _ k_M_20) (fun _ h9 => h9) rfl d_M_bring_42 ?_
    refine lv_iload_n hx hb d_M_bring_45 rfl (lv_at hl 3 rfl) ?_
    refine va_iald hx hb hK hP 4 0 rfl rfl hs.1 d_M_bring_46 ?_
    have hs := hs.2
    refine lv_istore (lv' := [(5, .int (z.2.1.2.2.2.1 v3.toNatClampNeg)), (0, .ref g.1.1), (1, .int p0), (2, .int p1), (3, .int v3), (4, .int v4)]) hx hb d_M_bring_47 hl (by decide) rfl (fun ls hl => ?_)
    refine lv_aload_n hx hb d_M_bring_49 rfl (lv_at hl 1 rfl) ?_
    refine va_get (D := D) (ci := 3) (v := .int g.2.2.1) (C := R_M) (T := T_M) (N := 20) hx hb htb i_M hown hK hP 0 rfl rfl 2 (by decide) (htb _ k_M_52) (fun _ h9 => h9) rfl d_M_bring_50 ?_
    refine lv_iconst (v := 2) hx hb d_M_bring_53 (by decide) ?_
    refine lv_icmp_ne (tgt := 66) hx hb d_M_bring_54 (by decide) (fun c_54 => ?_) (fun c_54 => ?_)
    · have hF := hF.trans (if_neg c_54)
      have hs := hs.2 c_54
      refine lv_aload_n hx hb d_M_bring_66 rfl (lv_at hl 1 rfl) ?_
      refine lv_iconst (v := 4) hx hb d_M_bring_67 (by decide) ?_
      refine lv_iload_n hx hb d_M_bring_68 rfl (lv_at hl 4 rfl) ?_
      refine cwv_ (As := [.int (4 : Int32), .int v3]) (rest := []) (wldC := fun u => (wM cI cZ g u)) ⟨hx, hb, hml, hown, htb⟩ (c_M_use l D cI cZ g hg z (4 : Int32) v3 hs.1) (cwv (n := 2) htb cd_M_use k_M_136 in_M_use se_M_use ini_M hd_M_use ⟨Nat.le_of_ble_eq_true rfl, Nat.le_of_ble_eq_true rfl⟩) hK hP hD hS [0, 1, 2, 3, 4, 5, 6, 7, 8, 9, 10] [] [0, 1, 2, 3, 4, 5, 6, 7, 8, 9, 10] rfl rfl (by decide) (by decide) rfl (fun _ => rfl) (fun _ => rfl) (ci := 3) rfl rfl rfl hl.1 rfl (Nat.le_of_ble_eq_true rfl) d_M_bring_69 ⟨Nat.zero_le _, Nat.zero_le _⟩ (fun u_69 H locs hw_69 hP hD hS => ?_)
      have hP : va_P D vwCl (wM cI cZ g u_69) H := hP
      have hD : va_D _ (wM cI cZ g u_69) := hD
      have hF := hF.trans (bnd_eq hw_69)
      have hs := Eq.mp (bnd_eq hw_69) hs.2
      have hl := lv_sub (l' := [(0, .ref g.1.1), (1, .int p0), (2, .int p1), (4, .int v4), (5, .int (z.2.1.2.2.2.1 v3.toNatClampNeg))]) hl [1, 2, 3, 5, 0] rfl
      exact cut_72 v4 (z.2.1.2.2.2.1 v3.toNatClampNeg) u_69 _ _ _ hF hs hP hD hS hl
    · have hF := hF.trans (if_pos c_54)
      have hs := hs.1 c_54
      refine lv_aload_n hx hb d_M_bring_57 rfl (lv_at hl 1 rfl) ?_
      refine lv_iconst (v := 4) hx hb d_M_bring_58 (by decide) ?_
      refine lv_iload_n hx hb d_M_bring_59 rfl (lv_at hl 4 rfl) ?_
      refine cwv_ (As := [.int (4 : Int32), .int v3]) (rest := []) (wldC := fun u => (wM cI cZ g u)) ⟨hx, hb, hml, hown, htb⟩ (c_M_takeOut l D cI cZ g hg z (4 : Int32) v3 hs.1) (cwv (n := 2) htb cd_M_takeOut k_M_82 in_M_takeOut se_M_takeOut ini_M hd_M_takeOut ⟨Nat.le_of_ble_eq_true rfl, Nat.le_of_ble_eq_true rfl⟩) hK hP hD hS [0, 1, 2, 3, 4, 5, 6, 7, 8, 9, 10] [] [0, 1, 2, 3, 4, 5, 6, 7, 8, 9, 10] rfl rfl (by decide) (by decide) rfl (fun _ => rfl) (fun _ => rfl) (ci := 3) rfl rfl rfl hl.1 rfl (Nat.le_of_ble_eq_true rfl) d_M_bring_60 ⟨Nat.zero_le _, Nat.zero_le _⟩ (fun u_60 H locs hw_60 hP hD hS => ?_)
      have hP : va_P D vwCl (wM cI cZ g u_60) H := hP
      have hD : va_D _ (wM cI cZ g u_60) := hD
      have hF := hF.trans (bnd_eq hw_60)
      have hs := Eq.mp (bnd_eq hw_60) hs.2
      refine lv_goto (tgt := 72) hx hb d_M_bring_63 (by decide) ?_
      have hl := lv_sub (l' := [(0, .ref g.1.1), (1, .int p0), (2, .int p1), (4, .int v4), (5, .int (z.2.1.2.2.2.1 v3.toNatClampNeg))]) hl [1, 2, 3, 5, 0] rfl
      exact cut_72 v4 (z.2.1.2.2.2.1 v3.toNatClampNeg) u_60 _ _ _ hF hs hP hD hS hl
  have hl := lv_entry ([.ref g.1.1, .int p0, .int p1]) (n := 6) (Nat.le_of_ble_eq_true rfl)
  rw [lg_entry_eq]
  generalize (lg_sl ([.ref g.1.1, .int p0, .int p1]) ++ List.replicate (6 - (lg_sl ([.ref g.1.1, .int p0, .int p1])).length) Slot.unset).toArray = ls at hl ⊢
  have hl : lv_has ls 6 [(0, .ref g.1.1), (1, .int p0), (2, .int p1)] := hl
  have hF := M_M_bring_eq g x p0 p1
  have hs := Eq.mp (S_M_bring_eq g x p0 p1) hs
  refine lv_aload_n hx hb d_M_bring_0 rfl (lv_at hl 0 rfl) ?_
  refine lv_iload_n hx hb d_M_bring_1 rfl (lv_at hl 1 rfl) ?_
  refine lv_iload_n hx hb d_M_bring_2 rfl (lv_at hl 2 rfl) ?_
  refine cwv_ (As := [.int p0, .int p1]) (rest := []) (wldC := fun u => (wM cI cZ g u)) ⟨hx, hb, hml, hown, htb⟩ (c_M_handOver l D cI cZ g hg x p0 p1 hs.1) (cwv (n := 2) htb cd_M_handOver k_M_133 in_M_handOver se_M_handOver ini_M hd_M_handOver ⟨Nat.le_of_ble_eq_true rfl, Nat.le_of_ble_eq_true rfl⟩) hK hP hD hS [0, 1, 2, 3, 4, 5, 6, 7, 8, 9, 10] [] [0, 1, 2, 3, 4, 5, 6, 7, 8, 9, 10] rfl rfl (by decide) (by decide) rfl (fun _ => rfl) (fun _ => rfl) (ci := 3) rfl rfl rfl hl.1 rfl (Nat.le_of_ble_eq_true rfl) d_M_bring_3 ⟨Nat.zero_le _, Nat.zero_le _⟩ (fun u_3 H locs hw_3 hP hD hS => ?_)
  have hP : va_P D vwCl (wM cI cZ g u_3) H := hP
  have hD : va_D _ (wM cI cZ g u_3) := hD
  have hF := hF.trans (bnd_eq hw_3)
  have hs := Eq.mp (bnd_eq hw_3) hs.2
  refine lv_aload_n hx hb d_M_bring_6 rfl (lv_at hl 0 rfl) ?_
  refine lv_iconst (v := 4) hx hb d_M_bring_7 (by decide) ?_
  refine lv_iload_n hx hb d_M_bring_8 rfl (lv_at hl 2 rfl) ?_
  refine cpi (As := [.int (4 : Int32), .int p1]) (rest := []) ⟨hx, hb, hml, hown, htb⟩ (c_M_at l D cI cZ g hg u_3 (4 : Int32) p1 hs.1) (cwv (n := 2) htb cd_M_at k_M_98 in_M_at se_M_at ini_M hd_M_at ⟨Nat.le_of_ble_eq_true rfl, Nat.le_of_ble_eq_true rfl⟩) hK hP [0, 1, 2, 3, 4, 5, 6, 7, 8, 9, 10] rfl (ci := 3) rfl rfl rfl hl.1 rfl (Nat.le_of_ble_eq_true rfl) d_M_bring_9 ⟨Nat.zero_le _, Nat.zero_le _⟩ (fun r_9 hw_9 => ?_)
  have hF := hF.trans (bnd_eq hw_9)
  have hs := Eq.mp (bnd_eq hw_9) hs.2
  refine lv_istore_n (lv' := [(3, .int r_9), (0, .ref g.1.1), (1, .int p0), (2, .int p1)]) hx hb d_M_bring_12 rfl hl (by decide) rfl (fun ls hl => ?_)
  refine lv_iload_n hx hb d_M_bring_13 rfl (lv_at hl 0 rfl) ?_
  refine lv_if_lt (tgt := 84) hx hb d_M_bring_14 (by decide) (fun c_14 => ?_) (fun c_14 => ?_)
  · have hF := hF.trans (if_pos c_14)
    have hs := hs.1 c_14
    refine lv_aload_n hx hb d_M_bring_84 rfl (lv_at hl 1 rfl) ?_
    refine lv_iload_n hx hb d_M_bring_85 rfl (lv_at hl 3 rfl) ?_
    refine cpi (As := [.int p1]) (rest := []) ⟨hx, hb, hml, hown, htb⟩ (c_M_memoryOf l D cI cZ g hg u_3 p1 hs.1) (cwv (n := 1) htb cd_M_memoryOf k_M_142 in_M_memoryOf se_M_memoryOf ini_M hd_M_memoryOf ⟨Nat.le_of_ble_eq_true rfl, Nat.le_of_ble_eq_true rfl⟩) hK hP [0, 1, 2, 3, 4, 5, 6, 7, 8, 9, 10] rfl (ci := 3) rfl rfl rfl hl.1 rfl (Nat.le_of_ble_eq_true rfl) d_M_bring_86 ⟨Nat.zero_le _, Nat.zero_le _⟩ (fun r_86 hw_86 => ?_)
    have hF := hF.trans (bnd_eq hw_86)
    have hs := Eq.mp (bnd_eq hw_86) hs.2
    refine lv_istore (lv' := [(4, .int r_86), (3, .int r_9), (0, .ref g.1.1), (1, .int p0), (2, .int p1)]) hx hb d_M_bring_89 hl (by decide) rfl (fun ls hl => ?_)
    refine lv_aload_n hx hb d_M_bring_91 rfl (lv_at hl 2 rfl) ?_
    refine va_get (D := D) (ci := 3) (v := .int g.2.2.1) (C := R_M) (T := T_M) (N := 20) hx hb htb i_M hown hK hP 0 rfl rfl 2 (by decide) (htb _ k_M_52) (fun _ h9 => h9) rfl d_M_bring_92 ?_
    refine lv_iconst (v := 2) hx hb d_M_bring_95 (by decide) ?_
    refine lv_icmp_ge (tgt := 111) hx hb d_M_bring_96 (by decide) (fun c_96 => ?_) (fun c_96 => ?_)
    · have hF := hF.trans (if_pos c_96)
      have hs := hs.1 c_96
      refine lv_iconst (v := 0) hx hb d_M_bring_111 (by decide) ?_
      refine lv_istore (lv' := [(5, .int (0 : Int32)), (4, .int r_86), (3, .int r_9), (0, .ref g.1.1), (1, .int p0), (2, .int p1)]) hx hb d_M_bring_112 hl (by decide) rfl (fun ls hl => ?_)
      have hl := lv_sub (l' := [(0, .ref g.1.1), (1, .int p0), (2, .int p1), (4, .int r_86), (5, .int (0 : Int32))]) hl [3, 4, 5, 1, 0] rfl
      exact cut_114 r_86 (0 : Int32) u_3 _ _ _ hF hs hP hD hS hl
    · have hF := hF.trans (if_neg c_96)
      have hs := hs.2 c_96
      refine lv_aload_n hx hb d_M_bring_99 rfl (lv_at hl 2 rfl) ?_
      refine lv_iload_n hx hb d_M_bring_100 rfl (lv_at hl 4 rfl) ?_
      refine cpi (As := [.int p1]) (rest := []) ⟨hx, hb, hml, hown, htb⟩ (c_M_passes l D cI cZ g hg u_3 p1) (cwv (n := 1) htb cd_M_passes k_M_115 in_M_passes se_M_passes ini_M hd_M_passes ⟨Nat.le_of_ble_eq_true rfl, Nat.le_of_ble_eq_true rfl⟩) hK hP [0, 1, 2, 3, 4, 5, 6, 7, 8, 9, 10] rfl (ci := 3) rfl rfl rfl hl.1 rfl (Nat.le_of_ble_eq_true rfl) d_M_bring_101 ⟨Nat.zero_le _, Nat.zero_le _⟩ (fun r_101 hw_101 => ?_)
      have hF := hF.trans (bnd_eq hw_101)
      have hs := Eq.mp (bnd_eq hw_101) hs
      refine lv_if_ne (tgt := 111) hx hb d_M_bring_104 (by decide) (fun c_104 => ?_) (fun c_104 => ?_)
      · have hF := hF.trans (if_neg c_104)
        have hs := hs.2 c_104
        refine lv_iconst (v := 0) hx hb d_M_bring_111 (by decide) ?_
        refine lv_istore (lv' := [(5, .int (0 : Int32)), (4, .int r_86), (3, .int r_9), (0, .ref g.1.1), (1, .int p0), (2, .int p1)]) hx hb d_M_bring_112 hl (by decide) rfl (fun ls hl => ?_)
        have hl := lv_sub (l' := [(0, .ref g.1.1), (1, .int p0), (2, .int p1), (4, .int r_86), (5, .int (0 : Int32))]) hl [3, 4, 5, 1, 0] rfl
        exact cut_114 r_86 (0 : Int32) u_3 _ _ _ hF hs hP hD hS hl
      · have hF := hF.trans (if_pos c_104)
        have hs := hs.1 c_104
        refine lv_iconst (v := 1) hx hb d_M_bring_107 (by decide) ?_
        refine lv_goto (tgt := 112) hx hb d_M_bring_108 (by decide) ?_
        refine lv_istore (lv' := [(5, .int (1 : Int32)), (4, .int r_86), (3, .int r_9), (0, .ref g.1.1), (1, .int p0), (2, .int p1)]) hx hb d_M_bring_112 hl (by decide) rfl (fun ls hl => ?_)
        have hl := lv_sub (l' := [(0, .ref g.1.1), (1, .int p0), (2, .int p1), (4, .int r_86), (5, .int (1 : Int32))]) hl [3, 4, 5, 1, 0] rfl
        exact cut_114 r_86 (1 : Int32) u_3 _ _ _ hF hs hP hD hS hl
  · have hF := hF.trans (if_neg c_14)
    have hs := hs.2 c_14
    refine lv_aload_n hx hb d_M_bring_17 rfl (lv_at hl 1 rfl) ?_
    refine va_get (D := D) (ci := 3) (v := .int g.2.2.1) (C := R_M) (T := T_M) (N := 20) hx hb htb i_M hown hK hP 0 rfl rfl 2 (by decide) (htb _ k_M_52) (fun _ h9 => h9) rfl d_M_bring_18 ?_
    refine lv_iconst (v := 2) hx hb d_M_bring_21 (by decide) ?_
    refine lv_icmp_ne (tgt := 38) hx hb d_M_bring_22 (by decide) (fun c_22 => ?_) (fun c_22 => ?_)
    · have hF := hF.trans (if_neg c_22)
      have hs := hs.2 c_22
      refine lv_iconst (v := 0) hx hb d_M_bring_38 (by decide) ?_
      refine lv_istore (lv' := [(4, .int (0 : Int32)), (3, .int r_9), (0, .ref g.1.1), (1, .int p0), (2, .int p1)]) hx hb d_M_bring_39 hl (by decide) rfl (fun ls hl => ?_)
      have hl := lv_sub (l' := [(0, .ref g.1.1), (1, .int p0), (2, .int p1), (3, .int r_9), (4, .int (0 : Int32))]) hl [2, 3, 4, 1, 0] rfl
      exact cut_41 r_9 (0 : Int32) u_3 _ _ _ hF hs hP hD hS hl
    · have hF := hF.trans (if_pos c_22)
      have hs := hs.1 c_22
      refine lv_aload_n hx hb d_M_bring_25 rfl (lv_at hl 1 rfl) ?_
      refine va_get (D := D) (ci := 3) (v := .ref g.1.2.2.2.1) (C := R_M) (T := T_M) (N := 20) hx hb htb i_M hown hK hP 0 rfl rfl 7 (by decide) (htb _ k_M_16) (fun _ h9 => h9) rfl d_M_bring_26 ?_
      refine lv_iload_n hx hb d_M_bring_29 rfl (lv_at hl 0 rfl) ?_
      refine va_zald hx hb hK hP 3 1 rfl rfl hs.1 d_M_bring_30 ?_
      have hs := hs.2
      refine lv_if_eq (tgt := 38) hx hb d_M_bring_31 (by decide) (fun c_31 => ?_) (fun c_31 => ?_)
      · have hF := hF.trans (if_pos c_31)
        have hs := hs.1 c_31
        refine lv_iconst (v := 0) hx hb d_M_bring_38 (by decide) ?_
        refine lv_istore (lv' := [(4, .int (0 : Int32)), (3, .int r_9), (0, .ref g.1.1), (1, .int p0), (2, .int p1)]) hx hb d_M_bring_39 hl (by decide) rfl (fun ls hl => ?_)
        have hl := lv_sub (l' := [(0, .ref g.1.1), (1, .int p0), (2, .int p1), (3, .int r_9), (4, .int (0 : Int32))]) hl [2, 3, 4, 1, 0] rfl
        exact cut_41 r_9 (0 : Int32) u_3 _ _ _ hF hs hP hD hS hl
      · have hF := hF.trans (if_neg c_31)
        have hs := hs.2 c_31
        refine lv_iconst (v := 1) hx hb d_M_bring_34 (by decide) ?_
        refine lv_goto (tgt := 39) hx hb d_M_bring_35 (by decide) ?_
        refine lv_istore (lv' := [(4, .int (1 : Int32)), (3, .int r_9), (0, .ref g.1.1), (1, .int p0), (2, .int p1)]) hx hb d_M_bring_39 hl (by decide) rfl (fun ls hl => ?_)
        have hl := lv_sub (l' := [(0, .ref g.1.1), (1, .int p0), (2, .int p1), (3, .int r_9), (4, .int (1 : Int32))]) hl [2, 3, 4, 1, 0] rfl
        exact cut_41 r_9 (1 : Int32) u_3 _ _ _ hF hs hP hD hS hl

def L_M_access_196 (g : GM) (p0 p1 p2 : Int32) (v5 : Int32) (z : Ms) : Int32 × Ms := (if v5 = (4 : Int32) then ((3 : Int32), z) else (v5, z))
theorem L_M_access_196_eq (g : GM) (p0 p1 p2 : Int32) (v5 : Int32) (z : Ms) : L_M_access_196 g p0 p1 p2 v5 z = (if v5 = (4 : Int32) then ((3 : Int32), z) else (v5, z)) := rfl
def S_M_access_196 (g : GM) (p0 p1 p2 : Int32) (v5 : Int32) (z : Ms) : Prop := ((v5 = (4 : Int32) → True) ∧ (¬ v5 = (4 : Int32) → True))
theorem S_M_access_196_eq (g : GM) (p0 p1 p2 : Int32) (v5 : Int32) (z : Ms) : S_M_access_196 g p0 p1 p2 v5 z = ((v5 = (4 : Int32) → True) ∧ (¬ v5 = (4 : Int32) → True)) := rfl
def L_M_access_101 (g : GM) (p0 p1 p2 : Int32) (v5 : Int32) (z : Ms) : Int32 × Ms := (if p2 = (1 : Int32) then (bnd (M_M_othersLose g (z.1, z.2.1, z.2.2.1, z.2.2.2.1, (upd z.2.2.2.2 (((7 : Int32) * p0) + (4 : Int32)).toNatClampNeg ((z.2.2.2.2 (((7 : Int32) * p0) + (4 : Int32)).toNatClampNeg) + (1 : Int32)))) p0 p1) (fun u_124 => (bnd2 (M_M_learn g u_124 p1) (fun r_129 u_129 => (if v5 = (4 : Int32) then (bnd (M_M_toMemory g (u_129.1, u_129.2.1, u_129.2.2.1, (u_129.2.2.2.1.1, (upd u_129.2.2.2.1.2.1 r_129.toNatClampNeg ((u_129.2.2.2.1.2.1 r_129.toNatClampNeg) + (1 : Int32))), u_129.2.2.2.1.2.2), u_129.2.2.2.2) p1 ((upd u_129.2.2.2.1.2.1 r_129.toNatClampNeg ((u_129.2.2.2.1.2.1 r_129.toNatClampNeg) + (1 : Int32))) r_129.toNatClampNeg)) (fun u_160 => L_M_access_196 g p0 p1 p2 v5 u_160)) else (bnd (M_M_at g (u_129.1, u_129.2.1, u_129.2.2.1, (u_129.2.2.2.1.1, (upd u_129.2.2.2.1.2.1 r_129.toNatClampNeg ((u_129.2.2.2.1.2.1 r_129.toNatClampNeg) + (1 : Int32))), u_129.2.2.2.1.2.2), u_129.2.2.2.2) p0 p1) (fun r_169 => L_M_access_196 g p0 p1 p2 v5 (u_129.1, (u_129.2.1.1, u_129.2.1.2.1, (upd u_129.2.1.2.2.1 r_169.toNatClampNeg (vp_nar .boolean (1 : Int32))), (upd u_129.2.1.2.2.2.1 r_169.toNatClampNeg ((upd u_129.2.2.2.1.2.1 r_129.toNatClampNeg ((u_129.2.2.2.1.2.1 r_129.toNatClampNeg) + (1 : Int32))) r_129.toNatClampNeg)), u_129.2.1.2.2.2.2), u_129.2.2.1, (u_129.2.2.2.1.1, (upd u_129.2.2.2.1.2.1 r_129.toNatClampNeg ((u_129.2.2.2.1.2.1 r_129.toNatClampNeg) + (1 : Int32))), u_129.2.2.2.1.2.2), u_129.2.2.2.2)))))))) else L_M_access_196 g p0 p1 p2 v5 z)
theorem L_M_access_101_eq (g : GM) (p0 p1 p2 : Int32) (v5 : Int32) (z : Ms) : L_M_access_101 g p0 p1 p2 v5 z = (if p2 = (1 : Int32) then (bnd (M_M_othersLose g (z.1, z.2.1, z.2.2.1, z.2.2.2.1, (upd z.2.2.2.2 (((7 : Int32) * p0) + (4 : Int32)).toNatClampNeg ((z.2.2.2.2 (((7 : Int32) * p0) + (4 : Int32)).toNatClampNeg) + (1 : Int32)))) p0 p1) (fun u_124 => (bnd2 (M_M_learn g u_124 p1) (fun r_129 u_129 => (if v5 = (4 : Int32) then (bnd (M_M_toMemory g (u_129.1, u_129.2.1, u_129.2.2.1, (u_129.2.2.2.1.1, (upd u_129.2.2.2.1.2.1 r_129.toNatClampNeg ((u_129.2.2.2.1.2.1 r_129.toNatClampNeg) + (1 : Int32))), u_129.2.2.2.1.2.2), u_129.2.2.2.2) p1 ((upd u_129.2.2.2.1.2.1 r_129.toNatClampNeg ((u_129.2.2.2.1.2.1 r_129.toNatClampNeg) + (1 : Int32))) r_129.toNatClampNeg)) (fun u_160 => L_M_access_196 g p0 p1 p2 v5 u_160)) else (bnd (M_M_at g (u_129.1, u_129.2.1, u_129.2.2.1, (u_129.2.2.2.1.1, (upd u_129.2.2.2.1.2.1 r_129.toNatClampNeg ((u_129.2.2.2.1.2.1 r_129.toNatClampNeg) + (1 : Int32))), u_129.2.2.2.1.2.2), u_129.2.2.2.2) p0 p1) (fun r_169 => L_M_access_196 g p0 p1 p2 v5 (u_129.1, (u_129.2.1.1, u_129.2.1.2.1, (upd u_129.2.1.2.2.1 r_169.toNatClampNeg (vp_nar .boolean (1 : Int32))), (upd u_129.2.1.2.2.2.1 r_169.toNatClampNeg ((upd u_129.2.2.2.1.2.1 r_129.toNatClampNeg ((u_129.2.2.2.1.2.1 r_129.toNatClampNeg) + (1 : Int32))) r_129.toNatClampNeg)), u_129.2.1.2.2.2.2), u_129.2.2.1, (u_129.2.2.2.1.1, (upd u_129.2.2.2.1.2.1 r_129.toNatClampNeg ((u_129.2.2.2.1.2.1 r_129.toNatClampNeg) + (1 : Int32))), u_129.2.2.2.1.2.2), u_129.2.2.2.2)))))))) else L_M_access_196 g p0 p1 p2 v5 z) := rfl
def S_M_access_101 (g : GM) (p0 p1 p2 : Int32) (v5 : Int32) (z : Ms) : Prop := ((p2 = (1 : Int32) → (vp_in (((7 : Int32) * p0) + (4 : Int32)) 28 ∧ (vp_in (((7 : Int32) * p0) + (4 : Int32)) 28 ∧ (S_M_othersLose g (z.1, z.2.1, z.2.2.1, z.2.2.2.1, (upd z.2.2.2.2 (((7 : Int32) * p0) + (4 : Int32)).toNatClampNeg ((z.2.2.2.2 (((7 : Int32) * p0) + (4 : Int32)).toNatClampNeg) + (1 : Int32)))) p0 p1 ∧ (bnd (M_M_othersLose g (z.1, z.2.1, z.2.2.1, z.2.2.2.1, (upd z.2.2.2.2 (((7 : Int32) * p0) + (4 : Int32)).toNatClampNeg ((z.2.2.2.2 (((7 : Int32) * p0) + (4 : Int32)).toNatClampNeg) + (1 : Int32)))) p0 p1) (fun u_124 => (S_M_learn g u_124 p1 ∧ (bnd2 (M_M_learn g u_124 p1) (fun r_129 u_129 => (vp_in r_129 600 ∧ (vp_in r_129 600 ∧ ((v5 = (4 : Int32) → (vp_in r_129 600 ∧ (S_M_toMemory g (u_129.1, u_129.2.1, u_129.2.2.1, (u_129.2.2.2.1.1, (upd u_129.2.2.2.1.2.1 r_129.toNatClampNeg ((u_129.2.2.2.1.2.1 r_129.toNatClampNeg) + (1 : Int32))), u_129.2.2.2.1.2.2), u_129.2.2.2.2) p1 ((upd u_129.2.2.2.1.2.1 r_129.toNatClampNeg ((u_129.2.2.2.1.2.1 r_129.toNatClampNeg) + (1 : Int32))) r_129.toNatClampNeg) ∧ (bnd (M_M_toMemory g (u_129.1, u_129.2.1, u_129.2.2.1, (u_129.2.2.2.1.1, (upd u_129.2.2.2.1.2.1 r_129.toNatClampNeg ((u_129.2.2.2.1.2.1 r_129.toNatClampNeg) + (1 : Int32))), u_129.2.2.2.1.2.2), u_129.2.2.2.2) p1 ((upd u_129.2.2.2.1.2.1 r_129.toNatClampNeg ((u_129.2.2.2.1.2.1 r_129.toNatClampNeg) + (1 : Int32))) r_129.toNatClampNeg)) (fun u_160 => S_M_access_196 g p0 p1 p2 v5 u_160))))) ∧ (¬ v5 = (4 : Int32) → (S_M_at g (u_129.1, u_129.2.1, u_129.2.2.1, (u_129.2.2.2.1.1, (upd u_129.2.2.2.1.2.1 r_129.toNatClampNeg ((u_129.2.2.2.1.2.1 r_129.toNatClampNeg) + (1 : Int32))), u_129.2.2.2.1.2.2), u_129.2.2.2.2) p0 p1 ∧ (bnd (M_M_at g (u_129.1, u_129.2.1, u_129.2.2.1, (u_129.2.2.2.1.1, (upd u_129.2.2.2.1.2.1 r_129.toNatClampNeg ((u_129.2.2.2.1.2.1 r_129.toNatClampNeg) + (1 : Int32))), u_129.2.2.2.1.2.2), u_129.2.2.2.2) p0 p1) (fun r_169 => (vp_in r_169 320 ∧ (vp_in r_129 600 ∧ (vp_in r_169 320 ∧ S_M_access_196 g p0 p1 p2 v5 (u_129.1, (u_129.2.1.1, u_129.2.1.2.1, (upd u_129.2.1.2.2.1 r_169.toNatClampNeg (vp_nar .boolean (1 : Int32))), (upd u_129.2.1.2.2.2.1 r_169.toNatClampNeg ((upd u_129.2.2.2.1.2.1 r_129.toNatClampNeg ((u_129.2.2.2.1.2.1 r_129.toNatClampNeg) + (1 : Int32))) r_129.toNatClampNeg)), u_129.2.1.2.2.2.2), u_129.2.2.1, (u_129.2.2.2.1.1, (upd u_129.2.2.2.1.2.1 r_129.toNatClampNeg ((u_129.2.2.2.1.2.1 r_129.toNatClampNeg) + (1 : Int32))), u_129.2.2.2.1.2.2), u_129.2.2.2.2)))))))))))))))))))) ∧ (¬ p2 = (1 : Int32) → S_M_access_196 g p0 p1 p2 v5 z))
theorem S_M_access_101_eq (g : GM) (p0 p1 p2 : Int32) (v5 : Int32) (z : Ms) : S_M_access_101 g p0 p1 p2 v5 z = ((p2 = (1 : Int32) → (vp_in (((7 : Int32) * p0) + (4 : Int32)) 28 ∧ (vp_in (((7 : Int32) * p0) + (4 : Int32)) 28 ∧ (S_M_othersLose g (z.1, z.2.1, z.2.2.1, z.2.2.2.1, (upd z.2.2.2.2 (((7 : Int32) * p0) + (4 : Int32)).toNatClampNeg ((z.2.2.2.2 (((7 : Int32) * p0) + (4 : Int32)).toNatClampNeg) + (1 : Int32)))) p0 p1 ∧ (bnd (M_M_othersLose g (z.1, z.2.1, z.2.2.1, z.2.2.2.1, (upd z.2.2.2.2 (((7 : Int32) * p0) + (4 : Int32)).toNatClampNeg ((z.2.2.2.2 (((7 : Int32) * p0) + (4 : Int32)).toNatClampNeg) + (1 : Int32)))) p0 p1) (fun u_124 => (S_M_learn g u_124 p1 ∧ (bnd2 (M_M_learn g u_124 p1) (fun r_129 u_129 => (vp_in r_129 600 ∧ (vp_in r_129 600 ∧ ((v5 = (4 : Int32) → (vp_in r_129 600 ∧ (S_M_toMemory g (u_129.1, u_129.2.1, u_129.2.2.1, (u_129.2.2.2.1.1, (upd u_129.2.2.2.1.2.1 r_129.toNatClampNeg ((u_129.2.2.2.1.2.1 r_129.toNatClampNeg) + (1 : Int32))), u_129.2.2.2.1.2.2), u_129.2.2.2.2) p1 ((upd u_129.2.2.2.1.2.1 r_129.toNatClampNeg ((u_129.2.2.2.1.2.1 r_129.toNatClampNeg) + (1 : Int32))) r_129.toNatClampNeg) ∧ (bnd (M_M_toMemory g (u_129.1, u_129.2.1, u_129.2.2.1, (u_129.2.2.2.1.1, (upd u_129.2.2.2.1.2.1 r_129.toNatClampNeg ((u_129.2.2.2.1.2.1 r_129.toNatClampNeg) + (1 : Int32))), u_129.2.2.2.1.2.2), u_129.2.2.2.2) p1 ((upd u_129.2.2.2.1.2.1 r_129.toNatClampNeg ((u_129.2.2.2.1.2.1 r_129.toNatClampNeg) + (1 : Int32))) r_129.toNatClampNeg)) (fun u_160 => S_M_access_196 g p0 p1 p2 v5 u_160))))) ∧ (¬ v5 = (4 : Int32) → (S_M_at g (u_129.1, u_129.2.1, u_129.2.2.1, (u_129.2.2.2.1.1, (upd u_129.2.2.2.1.2.1 r_129.toNatClampNeg ((u_129.2.2.2.1.2.1 r_129.toNatClampNeg) + (1 : Int32))), u_129.2.2.2.1.2.2), u_129.2.2.2.2) p0 p1 ∧ (bnd (M_M_at g (u_129.1, u_129.2.1, u_129.2.2.1, (u_129.2.2.2.1.1, (upd u_129.2.2.2.1.2.1 r_129.toNatClampNeg ((u_129.2.2.2.1.2.1 r_129.toNatClampNeg) + (1 : Int32))), u_129.2.2.2.1.2.2), u_129.2.2.2.2) p0 p1) (fun r_169 => (vp_in r_169 320 ∧ (vp_in r_129 600 ∧ (vp_in r_169 320 ∧ S_M_access_196 g p0 p1 p2 v5 (u_129.1, (u_129.2.1.1, u_129.2.1.2.1, (upd u_129.2.1.2.2.1 r_169.toNatClampNeg (vp_nar .boolean (1 : Int32))), (upd u_129.2.1.2.2.2.1 r_169.toNatClampNeg ((upd u_129.2.2.2.1.2.1 r_129.toNatClampNeg ((u_129.2.2.2.1.2.1 r_129.toNatClampNeg) + (1 : Int32))) r_129.toNatClampNeg)), u_129.2.1.2.2.2.2), u_129.2.2.1, (u_129.2.2.2.1.1, (upd u_129.2.2.2.1.2.1 r_129.toNatClampNeg ((u_129.2.2.2.1.2.1 r_129.toNatClampNeg) + (1 : Int32))), u_129.2.2.2.1.2.2), u_129.2.2.2.2)))))))))))))))))))) ∧ (¬ p2 = (1 : Int32) → S_M_access_196 g p0 p1 p2 v5 z)) := rfl
def L_M_access_75 (g : GM) (p0 p1 p2 : Int32) (v5 : Int32) (z : Ms) : Int32 × Ms := (if v5 = (4 : Int32) then L_M_access_101 g p0 p1 p2 v5 (z.1, z.2.1, z.2.2.1, z.2.2.2.1, (upd z.2.2.2.2 (((7 : Int32) * p0) + (3 : Int32)).toNatClampNeg ((z.2.2.2.2 (((7 : Int32) * p0) + (3 : Int32)).toNatClampNeg) + (1 : Int32)))) else L_M_access_101 g p0 p1 p2 v5 (z.1, z.2.1, z.2.2.1, z.2.2.2.1, (upd z.2.2.2.2 (((7 : Int32) * p0) + v5).toNatClampNeg ((z.2.2.2.2 (((7 : Int32) * p0) + v5).toNatClampNeg) + (1 : Int32)))))
theorem L_M_access_75_eq (g : GM) (p0 p1 p2 : Int32) (v5 : Int32) (z : Ms) : L_M_access_75 g p0 p1 p2 v5 z = (if v5 = (4 : Int32) then L_M_access_101 g p0 p1 p2 v5 (z.1, z.2.1, z.2.2.1, z.2.2.2.1, (upd z.2.2.2.2 (((7 : Int32) * p0) + (3 : Int32)).toNatClampNeg ((z.2.2.2.2 (((7 : Int32) * p0) + (3 : Int32)).toNatClampNeg) + (1 : Int32)))) else L_M_access_101 g p0 p1 p2 v5 (z.1, z.2.1, z.2.2.1, z.2.2.2.1, (upd z.2.2.2.2 (((7 : Int32) * p0) + v5).toNatClampNeg ((z.2.2.2.2 (((7 : Int32) * p0) + v5).toNatClampNeg) + (1 : Int32))))) := rfl
def S_M_access_75 (g : GM) (p0 p1 p2 : Int32) (v5 : Int32) (z : Ms) : Prop := ((v5 = (4 : Int32) → (vp_in (((7 : Int32) * p0) + (3 : Int32)) 28 ∧ (vp_in (((7 : Int32) * p0) + (3 : Int32)) 28 ∧ S_M_access_101 g p0 p1 p2 v5 (z.1, z.2.1, z.2.2.1, z.2.2.2.1, (upd z.2.2.2.2 (((7 : Int32) * p0) + (3 : Int32)).toNatClampNeg ((z.2.2.2.2 (((7 : Int32) * p0) + (3 : Int32)).toNatClampNeg) + (1 : Int32))))))) ∧ (¬ v5 = (4 : Int32) → (vp_in (((7 : Int32) * p0) + v5) 28 ∧ (vp_in (((7 : Int32) * p0) + v5) 28 ∧ S_M_access_101 g p0 p1 p2 v5 (z.1, z.2.1, z.2.2.1, z.2.2.2.1, (upd z.2.2.2.2 (((7 : Int32) * p0) + v5).toNatClampNeg ((z.2.2.2.2 (((7 : Int32) * p0) + v5).toNatClampNeg) + (1 : Int32))))))))
theorem S_M_access_75_eq (g : GM) (p0 p1 p2 : Int32) (v5 : Int32) (z : Ms) : S_M_access_75 g p0 p1 p2 v5 z = ((v5 = (4 : Int32) → (vp_in (((7 : Int32) * p0) + (3 : Int32)) 28 ∧ (vp_in (((7 : Int32) * p0) + (3 : Int32)) 28 ∧ S_M_access_101 g p0 p1 p2 v5 (z.1, z.2.1, z.2.2.1, z.2.2.2.1, (upd z.2.2.2.2 (((7 : Int32) * p0) + (3 : Int32)).toNatClampNeg ((z.2.2.2.2 (((7 : Int32) * p0) + (3 : Int32)).toNatClampNeg) + (1 : Int32))))))) ∧ (¬ v5 = (4 : Int32) → (vp_in (((7 : Int32) * p0) + v5) 28 ∧ (vp_in (((7 : Int32) * p0) + v5) 28 ∧ S_M_access_101 g p0 p1 p2 v5 (z.1, z.2.1, z.2.2.1, z.2.2.2.1, (upd z.2.2.2.2 (((7 : Int32) * p0) + v5).toNatClampNeg ((z.2.2.2.2 (((7 : Int32) * p0) + v5).toNatClampNeg) + (1 : Int32)))))))) := rfl
def L_M_access_63 (g : GM) (p0 p1 p2 : Int32) (v4 v5 : Int32) (z : Ms) : Int32 × Ms := (if v4 < 0 then L_M_access_75 g p0 p1 p2 v5 z else (bnd (M_M_use g z p0 v4) (fun u_72 => L_M_access_75 g p0 p1 p2 v5 u_72)))
theorem L_M_access_63_eq (g : GM) (p0 p1 p2 : Int32) (v4 v5 : Int32) (z : Ms) : L_M_access_63 g p0 p1 p2 v4 v5 z = (if v4 < 0 then L_M_access_75 g p0 p1 p2 v5 z else (bnd (M_M_use g z p0 v4) (fun u_72 => L_M_access_75 g p0 p1 p2 v5 u_72))) := rfl
def S_M_access_63 (g : GM) (p0 p1 p2 : Int32) (v4 v5 : Int32) (z : Ms) : Prop := ((v4 < 0 → S_M_access_75 g p0 p1 p2 v5 z) ∧ (¬ v4 < 0 → (S_M_use g z p0 v4 ∧ (bnd (M_M_use g z p0 v4) (fun u_72 => S_M_access_75 g p0 p1 p2 v5 u_72)))))
theorem S_M_access_63_eq (g : GM) (p0 p1 p2 : Int32) (v4 v5 : Int32) (z : Ms) : S_M_access_63 g p0 p1 p2 v4 v5 z = ((v4 < 0 → S_M_access_75 g p0 p1 p2 v5 z) ∧ (¬ v4 < 0 → (S_M_use g z p0 v4 ∧ (bnd (M_M_use g z p0 v4) (fun u_72 => S_M_access_75 g p0 p1 p2 v5 u_72))))) := rfl
def M_M_access (g : GM) (x : Ms) (p0 p1 p2 : Int32) : Int32 × Ms := (bnd2 (M_M_isCore g x p0) (fun r_2 u_2 => (if r_2 = 0 then ((0 : Int32), u_2) else (bnd (M_M_within p2 (0 : Int32) (1 : Int32)) (fun r_13 => (if r_13 = 0 then (bnd2 (M_M_fail g u_2 (2 : Int32)) (fun r_21 u_21 => (r_21, u_21))) else (bnd (M_M_at g (u_2.1, u_2.2.1, u_2.2.2.1, u_2.2.2.2.1, (upd u_2.2.2.2.2 ((7 : Int32) * p0).toNatClampNeg ((u_2.2.2.2.2 ((7 : Int32) * p0).toNatClampNeg) + (1 : Int32)))) p0 p1) (fun r_41 => (if r_41 < 0 then (bnd2 (M_M_bring g (u_2.1, u_2.2.1, u_2.2.2.1, u_2.2.2.2.1, (upd u_2.2.2.2.2 ((7 : Int32) * p0).toNatClampNeg ((u_2.2.2.2.2 ((7 : Int32) * p0).toNatClampNeg) + (1 : Int32)))) p0 p1) (fun r_58 u_58 => L_M_access_63 g p0 p1 p2 r_41 r_58 u_58)) else L_M_access_63 g p0 p1 p2 r_41 (1 : Int32) (u_2.1, u_2.2.1, u_2.2.2.1, u_2.2.2.2.1, (upd u_2.2.2.2.2 ((7 : Int32) * p0).toNatClampNeg ((u_2.2.2.2.2 ((7 : Int32) * p0).toNatClampNeg) + (1 : Int32)))))))))))))
theorem M_M_access_eq (g : GM) (x : Ms) (p0 p1 p2 : Int32) : M_M_access g x p0 p1 p2 = (bnd2 (M_M_isCore g x p0) (fun r_2 u_2 => (if r_2 = 0 then ((0 : Int32), u_2) else (bnd (M_M_within p2 (0 : Int32) (1 : Int32)) (fun r_13 => (if r_13 = 0 then (bnd2 (M_M_fail g u_2 (2 : Int32)) (fun r_21 u_21 => (r_21, u_21))) else (bnd (M_M_at g (u_2.1, u_2.2.1, u_2.2.2.1, u_2.2.2.2.1, (upd u_2.2.2.2.2 ((7 : Int32) * p0).toNatClampNeg ((u_2.2.2.2.2 ((7 : Int32) * p0).toNatClampNeg) + (1 : Int32)))) p0 p1) (fun r_41 => (if r_41 < 0 then (bnd2 (M_M_bring g (u_2.1, u_2.2.1, u_2.2.2.1, u_2.2.2.2.1, (upd u_2.2.2.2.2 ((7 : Int32) * p0).toNatClampNeg ((u_2.2.2.2.2 ((7 : Int32) * p0).toNatClampNeg) + (1 : Int32)))) p0 p1) (fun r_58 u_58 => L_M_access_63 g p0 p1 p2 r_41 r_58 u_58)) else L_M_access_63 g p0 p1 p2 r_41 (1 : Int32) (u_2.1, u_2.2.1, u_2.2.2.1, u_2.2.2.2.1, (upd u_2.2.2.2.2 ((7 : Int32) * p0).toNatClampNeg ((u_2.2.2.2.2 ((7 : Int32) * p0).toNatClampNeg) + (1 : Int32))))))))))))) := rfl
def S_M_access (g : GM) (x : Ms) (p0 p1 p2 : Int32) : Prop := (bnd2 (M_M_isCore g x p0) (fun r_2 u_2 => ((r_2 = 0 → True) ∧ (¬ r_2 = 0 → (bnd (M_M_within p2 (0 : Int32) (1 : Int32)) (fun r_13 => ((r_13 = 0 → (bnd2 (M_M_fail g u_2 (2 : Int32)) (fun r_21 u_21 => True))) ∧ (¬ r_13 = 0 → (vp_in ((7 : Int32) * p0) 28 ∧ (vp_in ((7 : Int32) * p0) 28 ∧ (S_M_at g (u_2.1, u_2.2.1, u_2.2.2.1, u_2.2.2.2.1, (upd u_2.2.2.2.2 ((7 : Int32) * p0).toNatClampNeg ((u_2.2.2.2.2 ((7 : Int32) * p0).toNatClampNeg) + (1 : Int32)))) p0 p1 ∧ (bnd (M_M_at g (u_2.1, u_2.2.1, u_2.2.2.1, u_2.2.2.2.1, (upd u_2.2.2.2.2 ((7 : Int32) * p0).toNatClampNeg ((u_2.2.2.2.2 ((7 : Int32) * p0).toNatClampNeg) + (1 : Int32)))) p0 p1) (fun r_41 => ((r_41 < 0 → (S_M_bring g (u_2.1, u_2.2.1, u_2.2.2.1, u_2.2.2.2.1, (upd u_2.2.2.2.2 ((7 : Int32) * p0).toNatClampNeg ((u_2.2.2.2.2 ((7 : Int32) * p0).toNatClampNeg) + (1 : Int32)))) p0 p1 ∧ (bnd2 (M_M_bring g (u_2.1, u_2.2.1, u_2.2.2.1, u_2.2.2.2.1, (upd u_2.2.2.2.2 ((7 : Int32) * p0).toNatClampNeg ((u_2.2.2.2.2 ((7 : Int32) * p0).toNatClampNeg) + (1 : Int32)))) p0 p1) (fun r_58 u_58 => S_M_access_63 g p0 p1 p2 r_41 r_58 u_58)))) ∧ (¬ r_41 < 0 → S_M_access_63 g p0 p1 p2 r_41 (1 : Int32) (u_2.1, u_2.2.1, u_2.2.2.1, u_2.2.2.2.1, (upd u_2.2.2.2.2 ((7 : Int32) * p0).toNatClampNeg ((u_2.2.2.2.2 ((7 : Int32) * p0).toNatClampNeg) + (1 : Int32)))))))))))))))))))
theorem S_M_access_eq (g : GM) (x : Ms) (p0 p1 p2 : Int32) : S_M_access g x p0 p1 p2 = (bnd2 (M_M_isCore g x p0) (fun r_2 u_2 => ((r_2 = 0 → True) ∧ (¬ r_2 = 0 → (bnd (M_M_within p2 (0 : Int32) (1 : Int32)) (fun r_13 => ((r_13 = 0 → (bnd2 (M_M_fail g u_2 (2 : Int32)) (fun r_21 u_21 => True))) ∧ (¬ r_13 = 0 → (vp_in ((7 : Int32) * p0) 28 ∧ (vp_in ((7 : Int32) * p0) 28 ∧ (S_M_at g (u_2.1, u_2.2.1, u_2.2.2.1, u_2.2.2.2.1, (upd u_2.2.2.2.2 ((7 : Int32) * p0).toNatClampNeg ((u_2.2.2.2.2 ((7 : Int32) * p0).toNatClampNeg) + (1 : Int32)))) p0 p1 ∧ (bnd (M_M_at g (u_2.1, u_2.2.1, u_2.2.2.1, u_2.2.2.2.1, (upd u_2.2.2.2.2 ((7 : Int32) * p0).toNatClampNeg ((u_2.2.2.2.2 ((7 : Int32) * p0).toNatClampNeg) + (1 : Int32)))) p0 p1) (fun r_41 => ((r_41 < 0 → (S_M_bring g (u_2.1, u_2.2.1, u_2.2.2.1, u_2.2.2.2.1, (upd u_2.2.2.2.2 ((7 : Int32) * p0).toNatClampNeg ((u_2.2.2.2.2 ((7 : Int32) * p0).toNatClampNeg) + (1 : Int32)))) p0 p1 ∧ (bnd2 (M_M_bring g (u_2.1, u_2.2.1, u_2.2.2.1, u_2.2.2.2.1, (upd u_2.2.2.2.2 ((7 : Int32) * p0).toNatClampNeg ((u_2.2.2.2.2 ((7 : Int32) * p0).toNatClampNeg) + (1 : Int32)))) p0 p1) (fun r_58 u_58 => S_M_access_63 g p0 p1 p2 r_41 r_58 u_58)))) ∧ (¬ r_41 < 0 → S_M_access_63 g p0 p1 p2 r_41 (1 : Int32) (u_2.1, u_2.2.1, u_2.2.2.1, u_2.2.2.2.1, (upd u_2.2.2.2.2 ((7 : Int32) * p0).toNatClampNeg ((u_2.2.2.2.2 ((7 : Int32) * p0).toNatClampNeg) + (1 : Int32))))))))))))))))))) := rfl
abbrev w_M_access : List Cond := .code y_M_access b_M_access 7 (some .int) :: tbW
abbrev rm_M_access : Room := { frames := 7, cells := 0, slots := 0, locals := 171 }
set_option maxHeartbeats 4000000 in
set_option maxRecDepth 100000 in
theorem c_M_access (l : Launch) (D : va_G) (cI cZ : ClassId) (g : GM) (hg : okM g) (x : Ms) (p0 p1 p2 : Int32) (hs : S_M_access g x p0 p1 p2) : Met l y_M_access w_M_access rm_M_access (PcW D vwCl (tyK cI cZ) [.ref g.1.1, .int p0, .int p1, .int p2] (wM cI cZ g x)) (va_Qi (fun (r : Int32) (u : Ms) => (r, u) = M_M_access g x p0 p1 p2) (fun (u : Ms) (t : State) => va_P D vwCl (wM cI cZ g u) t.heap) (Aw (wM cI cZ g x))) 0 0 (Aw (wM cI cZ g x)) := by
  refine Met.ofW (cc := b_M_access) (maxL := 7) (ret := (some .int)) (by decide) rfl ?_
  intro p e s m args below meth c s₁ B hml hv
  obtain ⟨rfl, hP, hK, hD0⟩ := hv
  have hx := B.exec
  have hb := B.bytes
  have hr := B.returns
  have htb : ∀ w ∈ tbW, w.before _ s = true := fun w h => atoms_spec (ws := w_M_access) B.pre w (List.mem_cons_of_mem _ h)
  have hown : s.vm.findClass R_M = some m.cls := findClass_of_methodNamed B.named
  have hlocks := B.notSynchronized
  have hD : va_D (Aw (wM cI cZ g x)) (wM cI cZ g x) := ⟨hD0.1, fun k q hk => ⟨k, q.2, hk⟩⟩
  have hS : va_S (Aw (wM cI cZ g x)) s.heap s.heap [] := va_S.rf
  have cut_196 : ∀ (v5 : Int32) (z : Ms) (H : Heap) (locs : List Loc) (ls : Array Slot), M_M_access g x p0 p1 p2 = L_M_access_196 g p0 p1 p2 v5 z → S_M_access_196 g p0 p1 p2 v5 z → va_P D vwCl (wM cI cZ g z) H → va_D (Aw (wM cI cZ g x)) (wM cI cZ g z) → va_S (Aw (wM cI cZ g x)) s.heap H locs → lv_has ls 7 [(0, .ref g.1.1), (1, .int p0), (2, .int p1), (3, .int p2), (5, .int v5)] → W p l e (headSpec w_M_access rm_M_access).room s m ([.ref g.1.1, .int p0, .int p1, .int p2] : List Value).toArray below meth c H locs 0 0 (MQ below (va_Qi (fun (r : Int32) (u : Ms) => (r, u) = M_M_access g x p0 p1 p2) (fun (u : Ms) (t : State) => va_P D vwCl (wM cI cZ g u) t.heap) (Aw (wM cI cZ g x))) ([.ref g.1.1, .int p0, .int p1, .int p2] : List Value).toArray s 0 0 (Aw (wM cI cZ g x))) (F0 m 196 ls []) := by
    intro v5 z H locs ls hF hs hP hD hS hl
    have hF := hF.trans (L_M_access_196_eq g p0 p1 p2 v5 z)
    have hs := Eq.mp (S_M_access_196_eq g p0 p1 p2 v5 z) hs
    refine lv_iload hx hb d_M_access_196 (lv_at hl 4 rfl) ?_
    refine lv_iconst (v := 4) hx hb d_M_access_198 (by decide) ?_
    refine lv_icmp_ne (tgt := 206) hx hb d_M_access_199 (by decide) (fun c_199 => ?_) (fun c_199 => ?_)
    · have hF := hF.trans (if_neg c_199)
      have hs := hs.2 c_199
      refine lv_iload hx hb d_M_access_206 (lv_at hl 4 rfl) ?_
      exact W.iret (v := v5) hx hb hr (fun t ht hW => ⟨⟨v5, z, rfl, hF.symm, by dsimp only; rw [ht]; exact hP⟩, hS.F ht⟩) hS.2.2 d_M_access_208
    · have hF := hF.trans (if_pos c_199)
      have hs := hs.1 c_199
      refine lv_iconst (v := 3) hx hb d_M_access_202 (by decide) ?_
      refine lv_goto (tgt := 208) hx hb d_M_access_203 (by decide) ?_
      exact W.iret (v := (3 : Int32)) hx hb hr (fun t ht hW => ⟨⟨(3 : Int32), z, rfl, hF.symm, by dsimp only; rw [ht]; exact hP⟩, hS.F ht⟩) hS.2.2 d_M_access_208
  have cut_101 : ∀ (v5 : Int32) (z : Ms) (H : Heap) (locs : List Loc) (ls : Array Slot), M_M_access g x p0 p1 p2 = L_M_access_101 g p0 p1 p2 v5 z → S_M_access_101 g p0 p1 p2 v5 z → va_P D vwCl (wM cI cZ g z) H → va_D (Aw (wM cI cZ g x)) (wM cI cZ g z) → va_S (Aw (wM cI cZ g x)) s.heap H locs → lv_has ls 7 [(0, .ref g.1.1), (1, .int p0), (2, .int p1), (3, .int p2), (5, .int v5)] → W p l e (headSpec w_M_access rm_M_access).room s m ([.ref g.1.1, .int p0, .int p1, .int p2] : List Value).toArray below meth c H locs 0 0 (MQ below (va_Qi (fun (r : Int32) (u : Ms) => (r, u) = M_M_access g x p0 p1 p2) (fun (u : Ms) (t : State) => va_P D vwCl (wM cI cZ g u) t.heap) (Aw (wM cI cZ g x))) ([.ref g.1.1, .int p0, .int p1, .int p2] : List Value).toArray s 0 0 (Aw (wM cI cZ g x))) (F0 m 101 ls []) := by
    intro v5 z H locs ls hF hs hP hD hS hl
    have hF := hF.trans (L_M_access_101_eq g p0 p1 p2 v5 z)
    have hs := Eq.mp (S_M_access_101_eq g p0 p1 p2 v5 z) hs
    refine lv_iload_n hx hb d_M_access_101 rfl (lv_at hl 3 rfl) ?_
    refine lv_iconst (v := 1) hx hb d_M_access_102 (by decide) ?_
    refine lv_icmp_ne (tgt := 196) hx hb d_M_access_103 (by decide) (fun c_103 => ?_) (fun c_103 => ?_)
    · have hF := hF.trans (if_neg c_103)
      have hs := hs.2 c_103
      have hl := lv_sub (l' := [(0, .ref g.1.1), (1, .int p0), (2, .int p1), (3, .int p2), (5, .int v5)]) hl [0, 1, 2, 3, 4] rfl
      exact cut_196 v5 z _ _ _ hF hs hP hD hS hl
    · have hF := hF.trans (if_pos c_103)
      have hs := hs.1 c_103
      refine lv_aload_n hx hb d_M_access_106 rfl (lv_at hl 0 rfl) ?_
      refine va_get (D := D) (ci := 3) (v := .ref g.1.2.2.2.2.2.2.2.2.2.2) (C := R_M) (T := T_M) (N := 20) hx hb htb i_M hown hK hP 0 rfl rfl 17 (by decide) (htb _ k_M_42) (fun _ h9 => h9) rfl d_M_access_107 ?_
      refine lv_bipush (v := 7) hx hb d_M_access_110 (by decide) ?_
      refine lv_iload_n hx hb d_M_access_112 rfl (lv_at hl 1 rfl) ?_
      refine lv_imul hx hb d_M_access_113 ?_
      refine lv_iconst (v := 4) hx hb d_M_access_114 (by decide) ?_
      refine lv_iadd hx hb d_M_access_115 ?_
      refine lv_dup2_11 hx hb d_M_access_116 rfl rfl ?_
      refine va_iald hx hb hK hP 10 0 rfl rfl hs.1 d_M_access_117 ?_
      have hs := hs.2
      refine lv_iconst (v := 1) hx hb d_M_access_118 (by decide) ?_
      refine lv_iadd hx hb d_M_access_119 ?_
      refine va_iast hx hb hK hP hD hS 10 0 rfl rfl hs.1 d_M_access_120 (fun H locs hP hD hS => ?_)
      have hs := hs.2
      have hP : va_P D vwCl (wM cI cZ g (z.1, z.2.1, z.2.2.1, z.2.2.2.1, (upd z.2.2.2.2 (((7 : Int32) * p0) + (4 : Int32)).toNatClampNeg ((z.2.2.2.2 (((7 : Int32) * p0) + (4 : Int32)).toNatClampNeg) + (1 : Int32))))) H := hP
      have hD : va_D _ (wM cI cZ g (z.1, z.2.1, z.2.2.1, z.2.2.2.1, (upd z.2.2.2.2 (((7 : Int32) * p0) + (4 : Int32)).toNatClampNeg ((z.2.2.2.2 (((7 : Int32) * p0) + (4 : Int32)).toNatClampNeg) + (1 : Int32))))) := hD
      refine lv_aload_n hx hb d_M_access_121 rfl (lv_at hl 0 rfl) ?_
      refine lv_iload_n hx hb d_M_access_122 rfl (lv_at hl 1 rfl) ?_
      refine lv_iload_n hx hb d_M_access_123 rfl (lv_at hl 2 rfl) ?_
      refine cwv_ (As := [.int p0, .int p1]) (rest := []) (wldC := fun u => (wM cI cZ g u)) ⟨hx, hb, hml, hown, htb⟩ (c_M_othersLose l D cI cZ g hg (z.1, z.2.1, z.2.2.1, z.2.2.2.1, (upd z.2.2.2.2 (((7 : Int32) * p0) + (4 : Int32)).toNatClampNeg ((z.2.2.2.2 (((7 : Int32) * p0) + (4 : Int32)).toNatClampNeg) + (1 : Int32)))) p0 p1 hs.1) (cwv (n := 2) htb cd_M_othersLose k_M_154 in_M_othersLose se_M_othersLose ini_M hd_M_othersLose ⟨Nat.le_of_ble_eq_true rfl, Nat.le_of_ble_eq_true rfl⟩) hK hP hD hS [0, 1, 2, 3, 4, 5, 6, 7, 8, 9, 10] [] [0, 1, 2, 3, 4, 5, 6, 7, 8, 9, 10] rfl rfl (by decide) (by decide) rfl (fun _ => rfl) (fun _ => rfl) (ci := 3) rfl rfl rfl hl.1 rfl (Nat.le_of_ble_eq_true rfl) d_M_access_124 ⟨Nat.zero_le _, Nat.zero_le _⟩ (fun u_124 H locs hw_124 hP hD hS => ?_)
      have hP : va_P D vwCl (wM cI cZ g u_124) H := hP
      have hD : va_D _ (wM cI cZ g u_124) := hD
      have hF := hF.trans (bnd_eq hw_124)
      have hs := Eq.mp (bnd_eq hw_124) hs.2
      refine lv_aload_n hx hb d_M_access_127 rfl (lv_at hl 0 rfl) ?_
      refine lv_iload_n hx hb d_M_access_128 rfl (lv_at hl 2 rfl) ?_
      refine cwi (As := [.int p1]) (rest := []) (wldC := fun u => (wM cI cZ g u)) ⟨hx, hb, hml, hown, htb⟩ (c_M_learn l D cI cZ g hg u_124 p1 hs.1) (cwv (n := 1) htb cd_M_learn k_M_92 in_M_learn se_M_learn ini_M hd_M_learn ⟨Nat.le_of_ble_eq_true rfl, Nat.le_of_ble_eq_true rfl⟩) hK hP hD hS [0, 1, 2, 3, 4, 5, 6, 7, 8, 9, 10] [] [0, 1, 2, 3, 4, 5, 6, 7, 8, 9, 10] rfl rfl (by decide) (by decide) rfl (fun _ => rfl) (fun _ => rfl) (ci := 3) rfl rfl rfl hl.1 rfl (Nat.le_of_ble_eq_true rfl) d_M_access_129 ⟨Nat.zero_le _, Nat.zero_le _⟩ (fun r_129 u_129 H locs hw_129 hP hD hS => ?_)
      have hP : va_P D vwCl (wM cI cZ g u_129) H := hP
      have hD : va_D _ (wM cI cZ g u_129) := hD
      have hF := hF.trans (bnd2_eq hw_129)
      have hs := Eq.mp (bnd2_eq hw_129) hs.2
      refine lv_istore (lv' := [(6, .int r_129), (0, .ref g.1.1), (1, .int p0), (2, .int p1), (3, .int p2), (5, .int v5)]) hx hb d_M_access_132 hl (by decide) rfl (fun ls hl => ?_)
      refine lv_aload_n hx hb d_M_access_134 rfl (lv_at hl 1 rfl) ?_
      refine va_get (D := D) (ci := 3) (v := .ref g.1.2.2.2.2.2.2.2.2.1) (C := R_M) (T := T_M) (N := 20) hx hb htb i_M hown hK hP 0 rfl rfl 15 (by decide) (htb _ k_M_36) (fun _ h9 => h9) rfl d_M_access_135 ?_
      refine lv_iload hx hb d_M_access_138 (lv_at hl 0 rfl) ?_
      refine lv_dup2_11 hx hb d_M_access_140 rfl rfl ?_
      refine va_iald hx hb hK hP 8 0 rfl rfl hs.1 d_M_access_141 ?_
      have hs := hs.2
      refine lv_iconst (v := 1) hx hb d_M_access_142 (by decide) ?_
      refine lv_iadd hx hb d_M_access_143 ?_
      refine va_iast hx hb hK hP hD hS 8 0 rfl rfl hs.1 d_M_access_144 (fun H locs hP hD hS => ?_)
      have hs := hs.2
      have hP : va_P D vwCl (wM cI cZ g (u_129.1, u_129.2.1, u_129.2.2.1, (u_129.2.2.2.1.1, (upd u_129.2.2.2.1.2.1 r_129.toNatClampNeg ((u_129.2.2.2.1.2.1 r_129.toNatClampNeg) + (1 : Int32))), u_129.2.2.2.1.2.2), u_129.2.2.2.2)) H := hP
      have hD : va_D _ (wM cI cZ g (u_129.1, u_129.2.1, u_129.2.2.1, (u_129.2.2.2.1.1, (upd u_129.2.2.2.1.2.1 r_129.toNatClampNeg ((u_129.2.2.2.1.2.1 r_129.toNatClampNeg) + (1 : Int32))), u_129.2.2.2.1.2.2), u_129.2.2.2.2)) := hD
      refine lv_iload hx hb d_M_access_145 (lv_at hl 5 rfl) ?_
      refine lv_iconst (v := 4) hx hb d_M_access_147 (by decide) ?_
      refine lv_icmp_ne (tgt := 166) hx hb d_M_access_148 (by decide) (fun c_148 => ?_) (fun c_148 => ?_)
      · have hF := hF.trans (if_neg c_148)
        have hs := hs.2 c_148
        refine lv_aload_n hx hb d_M_access_166 rfl (lv_at hl 1 rfl) ?_
        refine lv_iload_n hx hb d_M_access_167 rfl (lv_at hl 2 rfl) ?_
        refine lv_iload_n hx hb d_M_access_168 rfl (lv_at hl 3 rfl) ?_
        refine cpi (As := [.int p0, .int p1]) (rest := []) ⟨hx, hb, hml, hown, htb⟩ (c_M_at l D cI cZ g hg (u_129.1, u_129.2.1, u_129.2.2.1, (u_129.2.2.2.1.1, (upd u_129.2.2.2.1.2.1 r_129.toNatClampNeg ((u_129.2.2.2.1.2.1 r_129.toNatClampNeg) + (1 : Int32))), u_129.2.2.2.1.2.2), u_129.2.2.2.2) p0 p1 hs.1) (cwv (n := 2) htb cd_M_at k_M_98 in_M_at se_M_at ini_M hd_M_at ⟨Nat.le_of_ble_eq_true rfl, Nat.le_of_ble_eq_true rfl⟩) hK hP [0, 1, 2, 3, 4, 5, 6, 7, 8, 9, 10] rfl (ci := 3) rfl rfl rfl hl.1 rfl (Nat.le_of_ble_eq_true rfl) d_M_access_169 ⟨Nat.zero_le _, Nat.zero_le _⟩ (fun r_169 hw_169 => ?_)
        have hF := hF.trans (bnd_eq hw_169)
        have hs := Eq.mp (bnd_eq hw_169) hs.2
        refine lv_istore (lv' := [(4, .int r_169), (6, .int r_129), (0, .ref g.1.1), (1, .int p0), (2, .int p1), (3, .int p2), (5, .int v5)]) hx hb d_M_access_172 hl (by decide) rfl (fun ls hl => ?_)
        refine lv_aload_n hx hb d_M_access_174 rfl (lv_at hl 2 rfl) ?_
        refine va_get (D := D) (ci := 3) (v := .ref g.1.2.2.2.1) (C := R_M) (T := T_M) (N := 20) hx hb htb i_M hown hK hP 0 rfl rfl 7 (by decide) (htb _ k_M_16) (fun _ h9 => h9) rfl d_M_access_175 ?_
        refine lv_iload hx hb d_M_access_178 (lv_at hl 0 rfl) ?_
        refine lv_iconst (v := 1) hx hb d_M_access_180 (by decide) ?_
        refine va_zast hx hb hK hP hD hS 3 1 rfl rfl hs.1 d_M_access_181 (fun H locs hP hD hS => ?_)
        have hs := hs.2
        have hP : va_P D vwCl (wM cI cZ g (u_129.1, (u_129.2.1.1, u_129.2.1.2.1, (upd u_129.2.1.2.2.1 r_169.toNatClampNeg (vp_nar .boolean (1 : Int32))), u_129.2.1.2.2.2.1, u_129.2.1.2.2.2.2), u_129.2.2.1, (u_129.2.2.2.1.1, (upd u_129.2.2.2.1.2.1 r_129.toNatClampNeg ((u_129.2.2.2.1.2.1 r_129.toNatClampNeg) + (1 : Int32))), u_129.2.2.2.1.2.2), u_129.2.2.2.2)) H := hP
        have hD : va_D _ (wM cI cZ g (u_129.1, (u_129.2.1.1, u_129.2.1.2.1, (upd u_129.2.1.2.2.1 r_169.toNatClampNeg (vp_nar .boolean (1 : Int32))), u_129.2.1.2.2.2.1, u_129.2.1.2.2.2.2), u_129.2.2.1, (u_129.2.2.2.1.1, (upd u_129.2.2.2.1.2.1 r_129.toNatClampNeg ((u_129.2.2.2.1.2.1 r_129.toNatClampNeg) + (1 : Int32))), u_129.2.2.2.1.2.2), u_129.2.2.2.2)) := hD
        refine lv_aload_n hx hb d_M_access_182 rfl (lv_at hl 2 rfl) ?_
        refine va_get (D := D) (ci := 3) (v := .ref g.1.2.2.2.2.1) (C := R_M) (T := T_M) (N := 20) hx hb htb i_M hown hK hP 0 rfl rfl 8 (by decide) (htb _ k_M_20) (fun _ h9 => h9) rfl d_M_access_183 ?_
        refine lv_iload hx hb d_M_access_186 (lv_at hl 0 rfl) ?_
        refine lv_aload_n hx hb d_M_access_188 rfl (lv_at hl 2 rfl) ?_
        refine va_get (D := D) (ci := 3) (v := .ref g.1.2.2.2.2.2.2.2.2.1) (C := R_M) (T := T_M) (N := 20) hx hb htb i_M hown hK hP 0 rfl rfl 15 (by decide) (htb _ k_M_36) (fun _ h9 => h9) rfl d_M_access_189 ?_
        refine lv_iload hx hb d_M_access_192 (lv_at hl 1 rfl) ?_
        refine va_iald hx hb hK hP 8 0 rfl rfl hs.1 d_M_access_194 ?_
        have hs := hs.2
        refine va_iast hx hb hK hP hD hS 4 0 rfl rfl hs.1 d_M_access_195 (fun H locs hP hD hS => ?_)
        have hs := hs.2
        have hP : va_P D vwCl (wM cI cZ g (u_129.1, (u_129.2.1.1, u_129.2.1.2.1, (upd u_129.2.1.2.2.1 r_169.toNatClampNeg (vp_nar .boolean (1 : Int32))), (upd u_129.2.1.2.2.2.1 r_169.toNatClampNeg ((upd u_129.2.2.2.1.2.1 r_129.toNatClampNeg ((u_129.2.2.2.1.2.1 r_129.toNatClampNeg) + (1 : Int32))) r_129.toNatClampNeg)), u_129.2.1.2.2.2.2), u_129.2.2.1, (u_129.2.2.2.1.1, (upd u_129.2.2.2.1.2.1 r_129.toNatClampNeg ((u_129.2.2.2.1.2.1 r_129.toNatClampNeg) + (1 : Int32))), u_129.2.2.2.1.2.2), u_129.2.2.2.2)) H := hP
        have hD : va_D _ (wM cI cZ g (u_129.1, (u_129.2.1.1, u_129.2.1.2.1, (upd u_129.2.1.2.2.1 r_169.toNatClampNeg (vp_nar .boolean (1 : Int32))), (upd u_129.2.1.2.2.2.1 r_169.toNatClampNeg ((upd u_129.2.2.2.1.2.1 r_129.toNatClampNeg ((u_129.2.2.2.1.2.1 r_129.toNatClampNeg) + (1 : Int32))) r_129.toNatClampNeg)), u_129.2.1.2.2.2.2), u_129.2.2.1, (u_129.2.2.2.1.1, (upd u_129.2.2.2.1.2.1 r_129.toNatClampNeg ((u_129.2.2.2.1.2.1 r_129.toNatClampNeg) + (1 : Int32))), u_129.2.2.2.1.2.2), u_129.2.2.2.2)) := hD
        have hl := lv_sub (l' := [(0, .ref g.1.1), (1, .int p0), (2, .int p1), (3, .int p2), (5, .int v5)]) hl [2, 3, 4, 5, 6] rfl
        exact cut_196 v5 (u_129.1, (u_129.2.1.1, u_129.2.1.2.1, (upd u_129.2.1.2.2.1 r_169.toNatClampNeg (vp_nar .boolean (1 : Int32))), (upd u_129.2.1.2.2.2.1 r_169.toNatClampNeg ((upd u_129.2.2.2.1.2.1 r_129.toNatClampNeg ((u_129.2.2.2.1.2.1 r_129.toNatClampNeg) + (1 : Int32))) r_129.toNatClampNeg)), u_129.2.1.2.2.2.2), u_129.2.2.1, (u_129.2.2.2.1.1, (upd u_129.2.2.2.1.2.1 r_129.toNatClampNeg ((u_129.2.2.2.1.2.1 r_129.toNatClampNeg) + (1 : Int32))), u_129.2.2.2.1.2.2), u_129.2.2.2.2) _ _ _ hF hs hP hD hS hl
      · have hF := hF.trans (if_pos c_148)
        have hs := hs.1 c_148
        refine lv_aload_n hx hb d_M_access_151 rfl (lv_at hl 1 rfl) ?_
        refine lv_iload_n hx hb d_M_access_152 rfl (lv_at hl 3 rfl) ?_
        refine lv_aload_n hx hb d_M_access_153 rfl (lv_at hl 1 rfl) ?_
        refine va_get (D := D) (ci := 3) (v := .ref g.1.2.2.2.2.2.2.2.2.1) (C := R_M) (T := T_M) (N := 20) hx hb htb i_M hown hK hP 0 rfl rfl 15 (by decide) (htb _ k_M_36) (fun _ h9 => h9) rfl d_M_access_154 ?_
        refine lv_iload hx hb d_M_access_157 (lv_at hl 0 rfl) ?_
        refine va_iald hx hb hK hP 8 0 rfl rfl hs.1 d_M_access_159 ?_
        have hs := hs.2
        refine cwv_ (As := [.int p1, .int ((upd u_129.2.2.2.1.2.1 r_129.toNatClampNeg ((u_129.2.2.2.1.2.1 r_129.toNatClampNeg) + (1 : Int32))) r_129.toNatClampNeg)]) (rest := []) (wldC := fun u => (wM cI cZ g u)) ⟨hx, hb, hml, hown, htb⟩ (c_M_toMemory l D cI cZ g hg (u_129.1, u_129.2.1, u_129.2.2.1, (u_129.2.2.2.1.1, (upd u_129.2.2.2.1.2.1 r_129.toNatClampNeg ((u_129.2.2.2.1.2.1 r_129.toNatClampNeg) + (1 : Int32))), u_129.2.2.2.1.2.2), u_129.2.2.2.2) p1 ((upd u_129.2.2.2.1.2.1 r_129.toNatClampNeg ((u_129.2.2.2.1.2.1 r_129.toNatClampNeg) + (1 : Int32))) r_129.toNatClampNeg) hs.1) (cwv (n := 2) htb cd_M_toMemory k_M_101 in_M_toMemory se_M_toMemory ini_M hd_M_toMemory ⟨Nat.le_of_ble_eq_true rfl, Nat.le_of_ble_eq_true rfl⟩) hK hP hD hS [0, 1, 2, 3, 4, 5, 6, 7, 8, 9, 10] [] [0, 1, 2, 3, 4, 5, 6, 7, 8, 9, 10] rfl rfl (by decide) (by decide) rfl (fun _ => rfl) (fun _ => rfl) (ci := 3) rfl rfl rfl hl.1 rfl (Nat.le_of_ble_eq_true rfl) d_M_access_160 ⟨Nat.zero_le _, Nat.zero_le _⟩ (fun u_160 H locs hw_160 hP hD hS => ?_)
        have hP : va_P D vwCl (wM cI cZ g u_160) H := hP
        have hD : va_D _ (wM cI cZ g u_160) := hD
        have hF := hF.trans (bnd_eq hw_160)
        have hs := Eq.mp (bnd_eq hw_160) hs.2
        refine lv_goto (tgt := 196) hx hb d_M_access_163 (by decide) ?_
        have hl := lv_sub (l' := [(0, .ref g.1.1), (1, .int p0), (2, .int p1), (3, .int p2), (5, .int v5)]) hl [1, 2, 3, 4, 5] rfl
        exact cut_196 v5 u_160 _ _ _ hF hs hP hD hS hl
  have cut_75 : ∀ (v5 : Int32) (z : Ms) (H : Heap) (locs : List Loc) (ls : Array Slot), M_M_access g x p0 p1 p2 = L_M_access_75 g p0 p1 p2 v5 z → S_M_access_75 g p0 p1 p2 v5 z → va_P D vwCl (wM cI cZ g z) H → va_D (Aw (wM cI cZ g x)) (wM cI cZ g z) → va_S (Aw (wM cI cZ g x)) s.heap H locs → lv_has ls 7 [(0, .ref g.1.1), (1, .int p0), (2, .int p1), (3, .int p2), (5, .int v5)] → W p l e (headSpec w_M_access rm_M_access).room s m ([.ref g.1.1, .int p0, .int p1, .int p2] : List Value).toArray below meth c H locs 0 0 (MQ below (va_Qi (fun (r : Int32) (u : Ms) => (r, u) = M_M_access g x p0 p1 p2) (fun (u : Ms) (t : State) => va_P D vwCl (wM cI cZ g u) t.heap) (Aw (wM cI cZ g x))) ([.ref g.1.1, .int p0, .int p1, .int p2] : List Value).toArray s 0 0 (Aw (wM cI cZ g x))) (F0 m 75 ls []) := by
    intro v5 z H locs ls hF hs hP hD hS hl
    have hF := hF.trans (L_M_access_75_eq g p0 p1 p2 v5 z)
    have hs := Eq.mp (S_M_access_75_eq g p0 p1 p2 v5 z) hs
    refine lv_aload_n hx hb d_M_access_75 rfl (lv_at hl 0 rfl) ?_
    refine va_get (D := D) (ci := 3) (v := .ref g.1.2.2.2.2.2.2.2.2.2.2) (C := R_M) (T := T_M) (N := 20) hx hb htb i_M hown hK hP 0 rfl rfl 17 (by decide) (htb _ k_M_42) (fun _ h9 => h9) rfl d_M_access_76 ?_
    refine lv_bipush (v := 7) hx hb d_M_access_79 (by decide) ?_
    refine lv_iload_n hx hb d_M_access_81 rfl (lv_at hl 1 rfl) ?_
    refine lv_imul hx hb d_M_access_82 ?_
    refine lv_iload hx hb d_M_access_83 (lv_at hl 4 rfl) ?_
    refine lv_iconst (v := 4) hx hb d_M_access_85 (by decide) ?_
    refine lv_icmp_ne (tgt := 93) hx hb d_M_access_86 (by decide) (fun c_86 => ?_) (fun c_86 => ?_)
    · have hF := hF.trans (if_neg c_86)
      have hs := hs.2 c_86
      refine lv_iload hx hb d_M_access_93 (lv_at hl 4 rfl) ?_
      refine lv_iadd hx hb d_M_access_95 ?_
      refine lv_dup2_11 hx hb d_M_access_96 rfl rfl ?_
      refine va_iald hx hb hK hP 10 0 rfl rfl hs.1 d_M_access_97 ?_
      have hs := hs.2
      refine lv_iconst (v := 1) hx hb d_M_access_98 (by decide) ?_
      refine lv_iadd hx hb d_M_access_99 ?_
      refine va_iast hx hb hK hP hD hS 10 0 rfl rfl hs.1 d_M_access_100 (fun H locs hP hD hS => ?_)
      have hs := hs.2
      have hP : va_P D vwCl (wM cI cZ g (z.1, z.2.1, z.2.2.1, z.2.2.2.1, (upd z.2.2.2.2 (((7 : Int32) * p0) + v5).toNatClampNeg ((z.2.2.2.2 (((7 : Int32) * p0) + v5).toNatClampNeg) + (1 : Int32))))) H := hP
      have hD : va_D _ (wM cI cZ g (z.1, z.2.1, z.2.2.1, z.2.2.2.1, (upd z.2.2.2.2 (((7 : Int32) * p0) + v5).toNatClampNeg ((z.2.2.2.2 (((7 : Int32) * p0) + v5).toNatClampNeg) + (1 : Int32))))) := hD
      have hl := lv_sub (l' := [(0, .ref g.1.1), (1, .int p0), (2, .int p1), (3, .int p2), (5, .int v5)]) hl [0, 1, 2, 3, 4] rfl
      exact cut_101 v5 (z.1, z.2.1, z.2.2.1, z.2.2.2.1, (upd z.2.2.2.2 (((7 : Int32) * p0) + v5).toNatClampNeg ((z.2.2.2.2 (((7 : Int32) * p0) + v5).toNatClampNeg) + (1 : Int32)))) _ _ _ hF hs hP hD hS hl
    · have hF := hF.trans (if_pos c_86)
      have hs := hs.1 c_86
      refine lv_iconst (v := 3) hx hb d_M_access_89 (by decide) ?_
      refine lv_goto (tgt := 95) hx hb d_M_access_90 (by decide) ?_
      refine lv_iadd hx hb d_M_access_95 ?_
      refine lv_dup2_11 hx hb d_M_access_96 rfl rfl ?_
      refine va_iald hx hb hK hP 10 0 rfl rfl hs.1 d_M_access_97 ?_
      have hs := hs.2
      refine lv_iconst (v := 1) hx hb d_M_access_98 (by decide) ?_
      refine lv_iadd hx hb d_M_access_99 ?_
      refine va_iast hx hb hK hP hD hS 10 0 rfl rfl hs.1 d_M_access_100 (fun H locs hP hD hS => ?_)
      have hs := hs.2
      have hP : va_P D vwCl (wM cI cZ g (z.1, z.2.1, z.2.2.1, z.2.2.2.1, (upd z.2.2.2.2 (((7 : Int32) * p0) + (3 : Int32)).toNatClampNeg ((z.2.2.2.2 (((7 : Int32) * p0) + (3 : Int32)).toNatClampNeg) + (1 : Int32))))) H := hP
      have hD : va_D _ (wM cI cZ g (z.1, z.2.1, z.2.2.1, z.2.2.2.1, (upd z.2.2.2.2 (((7 : Int32) * p0) + (3 : Int32)).toNatClampNeg ((z.2.2.2.2 (((7 : Int32) * p0) + (3 : Int32)).toNatClampNeg) + (1 : Int32))))) := hD
      have hl := lv_sub (l' := [(0, .ref g.1.1), (1, .int p0), (2, .int p1), (3, .int p2), (5, .int v5)]) hl [0, 1, 2, 3, 4] rfl
      exact cut_101 v5 (z.1, z.2.1, z.2.2.1, z.2.2.2.1, (upd z.2.2.2.2 (((7 : Int32) * p0) + (3 : Int32)).toNatClampNeg ((z.2.2.2.2 (((7 : Int32) * p0) + (3 : Int32)).toNatClampNeg) + (1 : Int32)))) _ _ _ hF hs hP hD hS hl
  have cut_63 : ∀ (v4 v5 : Int32) (z : Ms) (H : Heap) (locs : List Loc) (ls : Array Slot), M_M_access g x p0 p1 p2 = L_M_access_63 g p0 p1 p2 v4 v5 z → S_M_access_63 g p0 p1 p2 v4 v5 z → va_P D vwCl (wM cI cZ g z) H → va_D (Aw (wM cI cZ g x)) (wM cI cZ g z) → va_S (Aw (wM cI cZ g x)) s.heap H locs → lv_has ls 7 [(0, .ref g.1.1), (1, .int p0), (2, .int p1), (3, .int p2), (4, .int v4), (5, .int v5)] → W p l e (headSpec w_M_access rm_M_access).room s m ([.ref g.1.1, .int p0, .int p1, .int p2] : List Value).toArray below meth c H locs 0 0 (MQ below (va_Qi (fun (r : Int32) (u : Ms) => (r, u) = M_M_access g x p0 p1 p2) (fun (u : Ms) (t : State) => va_P D vwCl (wM cI cZ g u) t.heap) (Aw (wM cI cZ g x))) ([.ref g.1.1, .int p0, .int p1, .int p2] : List Value).toArray s 0 0 (Aw (wM cI cZ g x))) (F0 m 63 ls []) := by
    intro v4 v5 z H locs ls hF hs hP hD hS hl
    have hF := hF.trans (L_M_access_63_eq g p0 p1 p2 v4 v5 z)
    have hs := Eq.mp (S_M_access_63_eq g p0 p1 p2 v4 v5 z) hs
    refine lv_iload hx hb d_M_access_63 (lv_at hl 4 rfl) ?_
    refine lv_if_lt (tgt := 75) hx hb d_M_access_65 (by decide) (fun c_65 => ?_) (fun c_65 => ?_)
    · have hF := hF.trans (if_pos c_65)
      have hs := hs.1 c_65
      have hl := lv_sub (l' := [(0, .ref g.1.1), (1, .int p0), (2, .int p1), (3, .int p2), (5, .int v5)]) hl [0, 1, 2, 3, 5] rfl
      exact cut_75 v5 z _ _ _ hF hs hP hD hS hl
    · have hF := hF.trans (if_neg c_65)
      have hs := hs.2 c_65
      refine lv_aload_n hx hb d_M_access_68 rfl (lv_at hl 0 rfl) ?_
      refine lv_iload_n hx hb d_M_access_69 rfl (lv_at hl 1 rfl) ?_
      refine lv_iload hx hb d_M_access_70 (lv_at hl 4 rfl) ?_
      refine cwv_ (As := [.int p0, .int v4]) (rest := []) (wldC := fun u => (wM cI cZ g u)) ⟨hx, hb, hml, hown, htb⟩ (c_M_use l D cI cZ g hg z p0 v4 hs.1) (cwv (n := 2) htb cd_M_use k_M_136 in_M_use se_M_use ini_M hd_M_use ⟨Nat.le_of_ble_eq_true rfl, Nat.le_of_ble_eq_true rfl⟩) hK hP hD hS [0, 1, 2, 3, 4, 5, 6, 7, 8, 9, 10] [] [0, 1, 2, 3, 4, 5, 6, 7, 8, 9, 10] rfl rfl (by decide) (by decide) rfl (fun _ => rfl) (fun _ => rfl) (ci := 3) rfl rfl rfl hl.1 rfl (Nat.le_of_ble_eq_true rfl) d_M_access_72 ⟨Nat.zero_le _, Nat.zero_le _⟩ (fun u_72 H locs hw_72 hP hD hS => ?_)
      have hP : va_P D vwCl (wM cI cZ g u_72) H := hP
      have hD : va_D _ (wM cI cZ g u_72) := hD
      have hF := hF.trans (bnd_eq hw_72)
      have hs := Eq.mp (bnd_eq hw_72) hs.2
      have hl := lv_sub (l' := [(0, .ref g.1.1), (1, .int p0), (2, .int p1), (3, .int p2), (5, .int v5)]) hl [0, 1, 2, 3, 5] rfl
      exact cut_75 v5 u_72 _ _ _ hF hs hP hD hS hl
  have hl := lv_entry ([.ref g.1.1, .int p0, .int p1, .int p2]) (n := 7) (Nat.le_of_ble_eq_true rfl)
  rw [lg_entry_eq]
  generalize (lg_sl ([.ref g.1.1, .int p0, .int p1, .int p2]) ++ List.replicate (7 - (lg_sl ([.ref g.1.1, .int p0, .int p1, .int p2])).length) Slot.unset).toArray = ls at hl ⊢
  have hl : lv_has ls 7 [(0, .ref g.1.1), (1, .int p0), (2, .int p1), (3, .int p2)] := hl
  have hF := M_M_access_eq g x p0 p1 p2
  have hs := Eq.mp (S_M_access_eq g x p0 p1 p2) hs
  refine lv_aload_n hx hb d_M_access_0 rfl (lv_at hl 0 rfl) ?_
  refine lv_iload_n hx hb d_M_access_1 rfl (lv_at hl 1 rfl) ?_
  refine cwi (As := [.int p0]) (rest := []) (wldC := fun u => (wM cI cZ g u)) ⟨hx, hb, hml, hown, htb⟩ (c_M_isCore l D cI cZ g hg x p0) (cwv (n := 1) htb cd_M_isCore k_M_145 in_M_isCore se_M_isCore ini_M hd_M_isCore ⟨Nat.le_of_ble_eq_true rfl, Nat.le_of_ble_eq_true rfl⟩) hK hP hD hS [0, 1, 2, 3, 4, 5, 6, 7, 8, 9, 10] [] [0, 1, 2, 3, 4, 5, 6, 7, 8, 9, 10] rfl rfl (by decide) (by decide) rfl (fun _ => rfl) (fun _ => rfl) (ci := 3) rfl rfl rfl hl.1 rfl (Nat.le_of_ble_eq_true rfl) d_M_access_2 ⟨Nat.zero_le _, Nat.zero_le _⟩ (fun r_2 u_2 H locs hw_2 hP hD hS => ?_)
  have hP : va_P D vwCl (wM cI cZ g u_2) H := hP
  have hD : va_D _ (wM cI cZ g u_2) := hD
  have hF := hF.trans (bnd2_eq hw_2)
  have hs := Eq.mp (bnd2_eq hw_2) hs
  refine lv_if_ne (tgt := 10) hx hb d_M_access_5 (by decide) (fun c_5 => ?_) (fun c_5 => ?_)
  · have hF := hF.trans (if_neg c_5)
    have hs := hs.2 c_5
    refine lv_iload_n hx hb d_M_access_10 rfl (lv_at hl 3 rfl) ?_
    refine lv_iconst (v := 0) hx hb d_M_access_11 (by decide) ?_
    refine lv_iconst (v := 1) hx hb d_M_access_12 (by decide) ?_
    refine cps (As := [.int p2, .int (0 : Int32), .int (1 : Int32)]) (rest := []) ⟨hx, hb, hml, hown, htb⟩ (c_M_within l p2 (0 : Int32) (1 : Int32)) (cws (n := 3) htb cd_M_within k_M_64 st_M_within ini_M hd_M_within ⟨Nat.le_of_ble_eq_true rfl, Nat.le_of_ble_eq_true rfl⟩) rfl hl.1 rfl (Nat.le_of_ble_eq_true rfl) d_M_access_13 ⟨Nat.zero_le _, Nat.zero_le _⟩ (fun r_13 hw_13 => ?_)
    have hF := hF.trans (bnd_eq hw_13)
    have hs := Eq.mp (bnd_eq hw_13) hs
    refine lv_if_ne (tgt := 25) hx hb d_M_access_16 (by decide) (fun c_16 => ?_) (fun c_16 => ?_)
    · have hF := hF.trans (if_neg c_16)
      have hs := hs.2 c_16
      refine lv_aload_n hx hb d_M_access_25 rfl (lv_at hl 0 rfl) ?_
      refine va_get (D := D) (ci := 3) (v := .ref g.1.2.2.2.2.2.2.2.2.2.2) (C := R_M) (T := T_M) (N := 20) hx hb htb i_M hown hK hP 0 rfl rfl 17 (by decide) (htb _ k_M_42) (fun _ h9 => h9) rfl d_M_access_26 ?_
      refine lv_bipush (v := 7) hx hb d_M_access_29 (by decide) ?_
      refine lv_iload_n hx hb d_M_access_31 rfl (lv_at hl 1 rfl) ?_
      refine lv_imul hx hb d_M_access_32 ?_
      refine lv_dup2_11 hx hb d_M_access_33 rfl rfl ?_
      refine va_iald hx hb hK hP 10 0 rfl rfl hs.1 d_M_access_34 ?_
      have hs := hs.2
      refine lv_iconst (v := 1) hx hb d_M_access_35 (by decide) ?_
      refine lv_iadd hx hb d_M_access_36 ?_
      refine va_iast hx hb hK hP hD hS 10 0 rfl rfl hs.1 d_M_access_37 (fun H locs hP hD hS => ?_)
      have hs := hs.2
      have hP : va_P D vwCl (wM cI cZ g (u_2.1, u_2.2.1, u_2.2.2.1, u_2.2.2.2.1, (upd u_2.2.2.2.2 ((7 : Int32) * p0).toNatClampNeg ((u_2.2.2.2.2 ((7 : Int32) * p0).toNatClampNeg) + (1 : Int32))))) H := hP
      have hD : va_D _ (wM cI cZ g (u_2.1, u_2.2.1, u_2.2.2.1, u_2.2.2.2.1, (upd u_2.2.2.2.2 ((7 : Int32) * p0).toNatClampNeg ((u_2.2.2.2.2 ((7 : Int32) * p0).toNatClampNeg) + (1 : Int32))))) := hD
      refine lv_aload_n hx hb d_M_access_38 rfl (lv_at hl 0 rfl) ?_
      refine lv_iload_n hx hb d_M_access_39 rfl (lv_at hl 1 rfl) ?_
      refine lv_iload_n hx hb d_M_access_40 rfl (lv_at hl 2 rfl) ?_
      refine cpi (As := [.int p0, .int p1]) (rest := []) ⟨hx, hb, hml, hown, htb⟩ (c_M_at l D cI cZ g hg (u_2.1, u_2.2.1, u_2.2.2.1, u_2.2.2.2.1, (upd u_2.2.2.2.2 ((7 : Int32) * p0).toNatClampNeg ((u_2.2.2.2.2 ((7 : Int32) * p0).toNatClampNeg) + (1 : Int32)))) p0 p1 hs.1) (cwv (n := 2) htb cd_M_at k_M_98 in_M_at se_M_at ini_M hd_M_at ⟨Nat.le_of_ble_eq_true rfl, Nat.le_of_ble_eq_true rfl⟩) hK hP [0, 1, 2, 3, 4, 5, 6, 7, 8, 9, 10] rfl (ci := 3) rfl rfl rfl hl.1 rfl (Nat.le_of_ble_eq_true rfl) d_M_access_41 ⟨Nat.zero_le _, Nat.zero_le _⟩ (fun r_41 hw_41 => ?_)
      have hF := hF.trans (bnd_eq hw_41)
      have hs := Eq.mp (bnd_eq hw_41) hs.2
      refine lv_istore (lv' := [(4, .int r_41), (0, .ref g.1.1), (1, .int p0), (2, .int p1), (3, .int p2)]) hx hb d_M_access_44 hl (by decide) rfl (fun ls hl => ?_)
      refine lv_iload hx hb d_M_access_46 (lv_at hl 0 rfl) ?_
      refine lv_if_lt (tgt := 55) hx hb d_M_access_48 (by decide) (fun c_48 => ?_) (fun c_48 => ?_)
      · have hF := hF.trans (if_pos c_48)
        have hs := hs.1 c_48
        refine lv_aload_n hx hb d_M_access_55 rfl (lv_at hl 1 rfl) ?_
        refine lv_iload_n hx hb d_M_access_56 rfl (lv_at hl 2 rfl) ?_
        refine lv_iload_n hx hb d_M_access_57 rfl (lv_at hl 3 rfl) ?_
        refine cwi (As := [.int p0, .int p1]) (rest := []) (wldC := fun u => (wM cI cZ g u)) ⟨hx, hb, hml, hown, htb⟩ (c_M_bring l D cI cZ g hg (u_2.1, u_2.2.1, u_2.2.2.1, u_2.2.2.2.1, (upd u_2.2.2.2.2 ((7 : Int32) * p0).toNatClampNeg ((u_2.2.2.2.2 ((7 : Int32) * p0).toNatClampNeg) + (1 : Int32)))) p0 p1 hs.1) (cwv (n := 2) htb cd_M_bring k_M_151 in_M_bring se_M_bring ini_M hd_M_bring ⟨Nat.le_of_ble_eq_true rfl, Nat.le_of_ble_eq_true rfl⟩) hK hP hD hS [0, 1, 2, 3, 4, 5, 6, 7, 8, 9, 10] [] [0, 1, 2, 3, 4, 5, 6, 7, 8, 9, 10] rfl rfl (by decide) (by decide) rfl (fun _ => rfl) (fun _ => rfl) (ci := 3) rfl rfl rfl hl.1 rfl (Nat.le_of_ble_eq_true rfl) d_M_access_58 ⟨Nat.zero_le _, Nat.zero_le _⟩ (fun r_58 u_58 H locs hw_58 hP hD hS => ?_)
        have hP : va_P D vwCl (wM cI cZ g u_58) H := hP
        have hD : va_D _ (wM cI cZ g u_58) := hD
        have hF := hF.trans (bnd2_eq hw_58)
        have hs := Eq.mp (bnd2_eq hw_58) hs.2
        refine lv_istore (lv' := [(5, .int r_58), (4, .int r_41), (0, .ref g.1.1), (1, .int p0), (2, .int p1), (3, .int p2)]) hx hb d_M_access_61 hl (by decide) rfl (fun ls hl => ?_)
        have hl := lv_sub (l' := [(0, .ref g.1.1), (1, .int p0), (2, .int p1), (3, .int p2), (4, .int r_41), (5, .int r_58)]) hl [2, 3, 4, 5, 1, 0] rfl
        exact cut_63 r_41 r_58 u_58 _ _ _ hF hs hP hD hS hl
      · have hF := hF.trans (if_neg c_48)
        have hs := hs.2 c_48
        refine lv_iconst (v := 1) hx hb d_M_access_51 (by decide) ?_
        refine lv_goto (tgt := 61) hx hb d_M_access_52 (by decide) ?_
        refine lv_istore (lv' := [(5, .int (1 : Int32)), (4, .int r_41), (0, .ref g.1.1), (1, .int p0), (2, .int p1), (3, .int p2)]) hx hb d_M_access_61 hl (by decide) rfl (fun ls hl => ?_)
        have hl := lv_sub (l' := [(0, .ref g.1.1), (1, .int p0), (2, .int p1), (3, .int p2), (4, .int r_41), (5, .int (1 : Int32))]) hl [2, 3, 4, 5, 1, 0] rfl
        exact cut_63 r_41 (1 : Int32) (u_2.1, u_2.2.1, u_2.2.2.1, u_2.2.2.2.1, (upd u_2.2.2.2.2 ((7 : Int32) * p0).toNatClampNeg ((u_2.2.2.2.2 ((7 : Int32) * p0).toNatClampNeg) + (1 : Int32)))) _ _ _ hF hs hP hD hS hl
    · have hF := hF.trans (if_pos c_16)
      have hs := hs.1 c_16
      refine lv_aload_n hx hb d_M_access_19 rfl (lv_at hl 0 rfl) ?_
      refine lv_iconst (v := 2) hx hb d_M_access_20 (by decide) ?_
      refine cwi (As := [.int (2 : Int32)]) (rest := []) (wldC := fun u => (wM cI cZ g u)) ⟨hx, hb, hml, hown, htb⟩ (c_M_fail l D cI cZ g hg u_2 (2 : Int32)) (cwv (n := 1) htb cd_M_fail k_M_148 in_M_fail se_M_fail ini_M hd_M_fail ⟨Nat.le_of_ble_eq_true rfl, Nat.le_of_ble_eq_true rfl⟩) hK hP hD hS [0, 1, 2, 3, 4, 5, 6, 7, 8, 9, 10] [] [0, 1, 2, 3, 4, 5, 6, 7, 8, 9, 10] rfl rfl (by decide) (by decide) rfl (fun _ => rfl) (fun _ => rfl) (ci := 3) rfl rfl rfl hl.1 rfl (Nat.le_of_ble_eq_true rfl) d_M_access_21 ⟨Nat.zero_le _, Nat.zero_le _⟩ (fun r_21 u_21 H locs hw_21 hP hD hS => ?_)
      have hP : va_P D vwCl (wM cI cZ g u_21) H := hP
      have hD : va_D _ (wM cI cZ g u_21) := hD
      have hF := hF.trans (bnd2_eq hw_21)
      have hs := Eq.mp (bnd2_eq hw_21) hs
      exact W.iret (v := r_21) hx hb hr (fun t ht hW => ⟨⟨r_21, u_21, rfl, hF.symm, by dsimp only; rw [ht]; exact hP⟩, hS.F ht⟩) hS.2.2 d_M_access_24
  · have hF := hF.trans (if_pos c_5)
    have hs := hs.1 c_5
    refine lv_iconst (v := 0) hx hb d_M_access_8 (by decide) ?_
    exact W.iret (v := (0 : Int32)) hx hb hr (fun t ht hW => ⟨⟨(0 : Int32), u_2, rfl, hF.symm, by dsimp only; rw [ht]; exact hP⟩, hS.F ht⟩) hS.2.2 d_M_access_9

def M_M_quota (g : GM) (x : Ms) (p0 p1 : Int32) : Int32 × Ms := (bnd2 (M_M_isCore g x p0) (fun r_2 u_2 => (if r_2 = 0 then ((0 : Int32), u_2) else (bnd (M_M_within p1 (0 : Int32) (4 : Int32)) (fun r_13 => (if r_13 = 0 then (bnd2 (M_M_fail g u_2 (2 : Int32)) (fun r_21 u_21 => (r_21, u_21))) else ((u_2.2.2.1 p0.toNatClampNeg), (u_2.1, u_2.2.1, (upd u_2.2.2.1 p0.toNatClampNeg p1), u_2.2.2.2.1, u_2.2.2.2.2))))))))
theorem M_M_quota_eq (g : GM) (x : Ms) (p0 p1 : Int32) : M_M_quota g x p0 p1 = (bnd2 (M_M_isCore g x p0) (fun r_2 u_2 => (if r_2 = 0 then ((0 : Int32), u_2) else (bnd (M_M_within p1 (0 : Int32) (4 : Int32)) (fun r_13 => (if r_13 = 0 then (bnd2 (M_M_fail g u_2 (2 : Int32)) (fun r_21 u_21 => (r_21, u_21))) else ((u_2.2.2.1 p0.toNatClampNeg), (u_2.1, u_2.2.1, (upd u_2.2.2.1 p0.toNatClampNeg p1), u_2.2.2.2.1, u_2.2.2.2.2)))))))) := rfl
def S_M_quota (g : GM) (x : Ms) (p0 p1 : Int32) : Prop := (bnd2 (M_M_isCore g x p0) (fun r_2 u_2 => ((r_2 = 0 → True) ∧ (¬ r_2 = 0 → (bnd (M_M_within p1 (0 : Int32) (4 : Int32)) (fun r_13 => ((r_13 = 0 → (bnd2 (M_M_fail g u_2 (2 : Int32)) (fun r_21 u_21 => True))) ∧ (¬ r_13 = 0 → (vp_in p0 4 ∧ (vp_in p0 4 ∧ True))))))))))
theorem S_M_quota_eq (g : GM) (x : Ms) (p0 p1 : Int32) : S_M_quota g x p0 p1 = (bnd2 (M_M_isCore g x p0) (fun r_2 u_2 => ((r_2 = 0 → True) ∧ (¬ r_2 = 0 → (bnd (M_M_within p1 (0 : Int32) (4 : Int32)) (fun r_13 => ((r_13 = 0 → (bnd2 (M_M_fail g u_2 (2 : Int32)) (fun r_21 u_21 => True))) ∧ (¬ r_13 = 0 → (vp_in p0 4 ∧ (vp_in p0 4 ∧ True)))))))))) := rfl
abbrev w_M_quota : List Cond := .code y_M_quota b_M_quota 4 (some .int) :: tbW
abbrev rm_M_quota : Room := { frames := 2, cells := 0, slots := 0, locals := 43 }
set_option maxHeartbeats 4000000 in
set_option maxRecDepth 100000 in
theorem c_M_quota (l : Launch) (D : va_G) (cI cZ : ClassId) (g : GM) (hg : okM g) (x : Ms) (p0 p1 : Int32) (hs : S_M_quota g x p0 p1) : Met l y_M_quota w_M_quota rm_M_quota (PcW D vwCl (tyK cI cZ) [.ref g.1.1, .int p0, .int p1] (wM cI cZ g x)) (va_Qi (fun (r : Int32) (u : Ms) => (r, u) = M_M_quota g x p0 p1) (fun (u : Ms) (t : State) => va_P D vwCl (wM cI cZ g u) t.heap) (Aw (wM cI cZ g x))) 0 0 (Aw (wM cI cZ g x)) := by
  refine Met.ofW (cc := b_M_quota) (maxL := 4) (ret := (some .int)) (by decide) rfl ?_
  intro p e s m args below meth c s₁ B hml hv
  obtain ⟨rfl, hP, hK, hD0⟩ := hv
  have hx := B.exec
  have hb := B.bytes
  have hr := B.returns
  have htb : ∀ w ∈ tbW, w.before _ s = true := fun w h => atoms_spec (ws := w_M_quota) B.pre w (List.mem_cons_of_mem _ h)
  have hown : s.vm.findClass R_M = some m.cls := findClass_of_methodNamed B.named
  have hlocks := B.notSynchronized
  have hD : va_D (Aw (wM cI cZ g x)) (wM cI cZ g x) := ⟨hD0.1, fun k q hk => ⟨k, q.2, hk⟩⟩
  have hS : va_S (Aw (wM cI cZ g x)) s.heap s.heap [] := va_S.rf
  have hl := lv_entry ([.ref g.1.1, .int p0, .int p1]) (n := 4) (Nat.le_of_ble_eq_true rfl)
  rw [lg_entry_eq]
  generalize (lg_sl ([.ref g.1.1, .int p0, .int p1]) ++ List.replicate (4 - (lg_sl ([.ref g.1.1, .int p0, .int p1])).length) Slot.unset).toArray = ls at hl ⊢
  have hl : lv_has ls 4 [(0, .ref g.1.1), (1, .int p0), (2, .int p1)] := hl
  have hF := M_M_quota_eq g x p0 p1
  have hs := Eq.mp (S_M_quota_eq g x p0 p1) hs
  refine lv_aload_n hx hb d_M_quota_0 rfl (lv_at hl 0 rfl) ?_
  refine lv_iload_n hx hb d_M_quota_1 rfl (lv_at hl 1 rfl) ?_
  refine cwi (As := [.int p0]) (rest := []) (wldC := fun u => (wM cI cZ g u)) ⟨hx, hb, hml, hown, htb⟩ (c_M_isCore l D cI cZ g hg x p0) (cwv (n := 1) htb cd_M_isCore k_M_145 in_M_isCore se_M_isCore ini_M hd_M_isCore ⟨Nat.le_of_ble_eq_true rfl, Nat.le_of_ble_eq_true rfl⟩) hK hP hD hS [0, 1, 2, 3, 4, 5, 6, 7, 8, 9, 10] [] [0, 1, 2, 3, 4, 5, 6, 7, 8, 9, 10] rfl rfl (by decide) (by decide) rfl (fun _ => rfl) (fun _ => rfl) (ci := 3) rfl rfl rfl hl.1 rfl (Nat.le_of_ble_eq_true rfl) d_M_quota_2 ⟨Nat.zero_le _, Nat.zero_le _⟩ (fun r_2 u_2 H locs hw_2 hP hD hS => ?_)
  have hP : va_P D vwCl (wM cI cZ g u_2) H := hP
  have hD : va_D _ (wM cI cZ g u_2) := hD
  have hF := hF.trans (bnd2_eq hw_2)
  have hs := Eq.mp (bnd2_eq hw_2) hs
  refine lv_if_ne (tgt := 10) hx hb d_M_quota_5 (by decide) (fun c_5 => ?_) (fun c_5 => ?_)
  · have hF := hF.trans (if_neg c_5)
    have hs := hs.2 c_5
    refine lv_iload_n hx hb d_M_quota_10 rfl (lv_at hl 2 rfl) ?_
    refine lv_iconst (v := 0) hx hb d_M_quota_11 (by decide) ?_
    refine lv_iconst (v := 4) hx hb d_M_quota_12 (by decide) ?_
    refine cps (As := [.int p1, .int (0 : Int32), .int (4 : Int32)]) (rest := []) ⟨hx, hb, hml, hown, htb⟩ (c_M_within l p1 (0 : Int32) (4 : Int32)) (cws (n := 3) htb cd_M_within k_M_64 st_M_within ini_M hd_M_within ⟨Nat.le_of_ble_eq_true rfl, Nat.le_of_ble_eq_true rfl⟩) rfl hl.1 rfl (Nat.le_of_ble_eq_true rfl) d_M_quota_13 ⟨Nat.zero_le _, Nat.zero_le _⟩ (fun r_13 hw_13 => ?_)
    have hF := hF.trans (bnd_eq hw_13)
    have hs := Eq.mp (bnd_eq hw_13) hs
    refine lv_if_ne (tgt := 25) hx hb d_M_quota_16 (by decide) (fun c_16 => ?_) (fun c_16 => ?_)
    · have hF := hF.trans (if_neg c_16)
      have hs := hs.2 c_16
      refine lv_aload_n hx hb d_M_quota_25 rfl (lv_at hl 0 rfl) ?_
      refine va_get (D := D) (ci := 3) (v := .ref g.1.2.2.2.2.2.2.1) (C := R_M) (T := T_M) (N := 20) hx hb htb i_M hown hK hP 0 rfl rfl 10 (by decide) (htb _ k_M_26) (fun _ h9 => h9) rfl d_M_quota_26 ?_
      refine lv_iload_n hx hb d_M_quota_29 rfl (lv_at hl 1 rfl) ?_
      refine va_iald hx hb hK hP 6 0 rfl rfl hs.1 d_M_quota_30 ?_
      have hs := hs.2
      refine lv_istore_n (lv' := [(3, .int (u_2.2.2.1 p0.toNatClampNeg)), (0, .ref g.1.1), (1, .int p0), (2, .int p1)]) hx hb d_M_quota_31 rfl hl (by decide) rfl (fun ls hl => ?_)
      refine lv_aload_n hx hb d_M_quota_32 rfl (lv_at hl 1 rfl) ?_
      refine va_get (D := D) (ci := 3) (v := .ref g.1.2.2.2.2.2.2.1) (C := R_M) (T := T_M) (N := 20) hx hb htb i_M hown hK hP 0 rfl rfl 10 (by decide) (htb _ k_M_26) (fun _ h9 => h9) rfl d_M_quota_33 ?_
      refine lv_iload_n hx hb d_M_quota_36 rfl (lv_at hl 2 rfl) ?_
      refine lv_iload_n hx hb d_M_quota_37 rfl (lv_at hl 3 rfl) ?_
      refine va_iast hx hb hK hP hD hS 6 0 rfl rfl hs.1 d_M_quota_38 (fun H locs hP hD hS => ?_)
      have hs := hs.2
      have hP : va_P D vwCl (wM cI cZ g (u_2.1, u_2.2.1, (upd u_2.2.2.1 p0.toNatClampNeg p1), u_2.2.2.2.1, u_2.2.2.2.2)) H := hP
      have hD : va_D _ (wM cI cZ g (u_2.1, u_2.2.1, (upd u_2.2.2.1 p0.toNatClampNeg p1), u_2.2.2.2.1, u_2.2.2.2.2)) := hD
      refine lv_iload_n hx hb d_M_quota_39 rfl (lv_at hl 0 rfl) ?_
      exact W.iret (v := (u_2.2.2.1 p0.toNatClampNeg)) hx hb hr (fun t ht hW => ⟨⟨(u_2.2.2.1 p0.toNatClampNeg), (u_2.1, u_2.2.1, (upd u_2.2.2.1 p0.toNatClampNeg p1), u_2.2.2.2.1, u_2.2.2.2.2), rfl, hF.symm, by dsimp only; rw [ht]; exact hP⟩, hS.F ht⟩) hS.2.2 d_M_quota_40
    · have hF := hF.trans (if_pos c_16)
      have hs := hs.1 c_16
      refine lv_aload_n hx hb d_M_quota_19 rfl (lv_at hl 0 rfl) ?_
      refine lv_iconst (v := 2) hx hb d_M_quota_20 (by decide) ?_
      refine cwi (As := [.int (2 : Int32)]) (rest := []) (wldC := fun u => (wM cI cZ g u)) ⟨hx, hb, hml, hown, htb⟩ (c_M_fail l D cI cZ g hg u_2 (2 : Int32)) (cwv (n := 1) htb cd_M_fail k_M_148 in_M_fail se_M_fail ini_M hd_M_fail ⟨Nat.le_of_ble_eq_true rfl, Nat.le_of_ble_eq_true rfl⟩) hK hP hD hS [0, 1, 2, 3, 4, 5, 6, 7, 8, 9, 10] [] [0, 1, 2, 3, 4, 5, 6, 7, 8, 9, 10] rfl rfl (by decide) (by decide) rfl (fun _ => rfl) (fun _ => rfl) (ci := 3) rfl rfl rfl hl.1 rfl (Nat.le_of_ble_eq_true rfl) d_M_quota_21 ⟨Nat.zero_le _, Nat.zero_le _⟩ (fun r_21 u_21 H locs hw_21 hP hD hS => ?_)
      have hP : va_P D vwCl (wM cI cZ g u_21) H := hP
      have hD : va_D _ (wM cI cZ g u_21) := hD
      have hF := hF.trans (bnd2_eq hw_21)
      have hs := Eq.mp (bnd2_eq hw_21) hs
      exact W.iret (v := r_21) hx hb hr (fun t ht hW => ⟨⟨r_21, u_21, rfl, hF.symm, by dsimp only; rw [ht]; exact hP⟩, hS.F ht⟩) hS.2.2 d_M_quota_24
  · have hF := hF.trans (if_pos c_5)
    have hs := hs.1 c_5
    refine lv_iconst (v := 0) hx hb d_M_quota_8 (by decide) ?_
    exact W.iret (v := (0 : Int32)) hx hb hr (fun t ht hW => ⟨⟨(0 : Int32), u_2, rfl, hF.symm, by dsimp only; rw [ht]; exact hP⟩, hS.F ht⟩) hS.2.2 d_M_quota_9

def M_M_bypass (g : GM) (x : Ms) (p0 p1 : Int32) : Int32 × Ms := (if x.1.2.2.1 < x.1.2.1 then ((0 : Int32), (((0 : Int32), p0, p1, x.1.2.2.2.1, x.1.2.2.2.2.1, x.1.2.2.2.2.2), x.2.1, x.2.2.1, x.2.2.2.1, x.2.2.2.2)) else ((1 : Int32), (((0 : Int32), p0, p1, x.1.2.2.2.1, x.1.2.2.2.2.1, x.1.2.2.2.2.2), x.2.1, x.2.2.1, x.2.2.2.1, x.2.2.2.2)))
theorem M_M_bypass_eq (g : GM) (x : Ms) (p0 p1 : Int32) : M_M_bypass g x p0 p1 = (if x.1.2.2.1 < x.1.2.1 then ((0 : Int32), (((0 : Int32), p0, p1, x.1.2.2.2.1, x.1.2.2.2.2.1, x.1.2.2.2.2.2), x.2.1, x.2.2.1, x.2.2.2.1, x.2.2.2.2)) else ((1 : Int32), (((0 : Int32), p0, p1, x.1.2.2.2.1, x.1.2.2.2.2.1, x.1.2.2.2.2.2), x.2.1, x.2.2.1, x.2.2.2.1, x.2.2.2.2))) := rfl
abbrev w_M_bypass : List Cond := .code y_M_bypass b_M_bypass 4 (some .boolean) :: tbW
abbrev rm_M_bypass : Room := { frames := 0, cells := 0, slots := 0, locals := 0 }
set_option maxHeartbeats 4000000 in
set_option maxRecDepth 100000 in
theorem c_M_bypass (l : Launch) (D : va_G) (cI cZ : ClassId) (g : GM) (hg : okM g) (x : Ms) (p0 p1 : Int32) : Met l y_M_bypass w_M_bypass rm_M_bypass (PcW D vwCl (tyK cI cZ) [.ref g.1.1, .int p0, .int p1] (wM cI cZ g x)) (va_Qi (fun (r : Int32) (u : Ms) => (r, u) = M_M_bypass g x p0 p1) (fun (u : Ms) (t : State) => va_P D vwCl (wM cI cZ g u) t.heap) (Aw (wM cI cZ g x))) 0 0 (Aw (wM cI cZ g x)) := by
  refine Met.ofW (cc := b_M_bypass) (maxL := 4) (ret := (some .boolean)) (by decide) rfl ?_
  intro p e s m args below meth c s₁ B hml hv
  obtain ⟨rfl, hP, hK, hD0⟩ := hv
  have hx := B.exec
  have hb := B.bytes
  have hr := B.returns
  have htb : ∀ w ∈ tbW, w.before _ s = true := fun w h => atoms_spec (ws := w_M_bypass) B.pre w (List.mem_cons_of_mem _ h)
  have hown : s.vm.findClass R_M = some m.cls := findClass_of_methodNamed B.named
  have hlocks := B.notSynchronized
  have hD : va_D (Aw (wM cI cZ g x)) (wM cI cZ g x) := ⟨hD0.1, fun k q hk => ⟨k, q.2, hk⟩⟩
  have hS : va_S (Aw (wM cI cZ g x)) s.heap s.heap [] := va_S.rf
  have hl := lv_entry ([.ref g.1.1, .int p0, .int p1]) (n := 4) (Nat.le_of_ble_eq_true rfl)
  rw [lg_entry_eq]
  generalize (lg_sl ([.ref g.1.1, .int p0, .int p1]) ++ List.replicate (4 - (lg_sl ([.ref g.1.1, .int p0, .int p1])).length) Slot.unset).toArray = ls at hl ⊢
  have hl : lv_has ls 4 [(0, .ref g.1.1), (1, .int p0), (2, .int p1)] := hl
  have hF := M_M_bypass_eq g x p0 p1
  refine lv_aload_n hx hb d_M_bypass_0 rfl (lv_at hl 0 rfl) ?_
  refine lv_iconst (v := 0) hx hb d_M_bypass_1 (by decide) ?_
  refine va_put (D := D) (ci := 3) (v := .int (0 : Int32)) (ty := .int) (C := R_M) (T := T_M) (N := 20) hx hb htb i_M ty_M tyo_M nm_M hown hK hP hD hS 0 rfl rfl 0 (by decide) (htb _ k_M_61) (fun _ h9 => h9) rfl (by decide +kernel) rfl rfl (Nat.le_of_ble_eq_true rfl) d_M_bypass_2 (fun H locs hP hD hS => ?_)
  have hP : va_P D vwCl (wM cI cZ g (((0 : Int32), x.1.2.1, x.1.2.2.1, x.1.2.2.2.1, x.1.2.2.2.2.1, x.1.2.2.2.2.2), x.2.1, x.2.2.1, x.2.2.2.1, x.2.2.2.2)) H := hP
  have hD : va_D _ (wM cI cZ g (((0 : Int32), x.1.2.1, x.1.2.2.1, x.1.2.2.2.1, x.1.2.2.2.2.1, x.1.2.2.2.2.2), x.2.1, x.2.2.1, x.2.2.2.1, x.2.2.2.2)) := hD
  refine lv_aload_n hx hb d_M_bypass_5 rfl (lv_at hl 0 rfl) ?_
  refine va_get (D := D) (ci := 3) (v := .int x.1.2.1) (C := R_M) (T := T_M) (N := 20) hx hb htb i_M hown hK hP 0 rfl rfl 11 (by decide) (htb _ k_M_29) (fun _ h9 => h9) rfl d_M_bypass_6 ?_
  refine lv_aload_n hx hb d_M_bypass_9 rfl (lv_at hl 0 rfl) ?_
  refine va_get (D := D) (ci := 3) (v := .int x.1.2.2.1) (C := R_M) (T := T_M) (N := 20) hx hb htb i_M hown hK hP 0 rfl rfl 12 (by decide) (htb _ k_M_104) (fun _ h9 => h9) rfl d_M_bypass_10 ?_
  refine lv_icmp_gt (tgt := 20) hx hb d_M_bypass_13 (by decide) (fun c_13 => ?_) (fun c_13 => ?_)
  · have hF := hF.trans (if_pos c_13)
    refine lv_iconst (v := 0) hx hb d_M_bypass_20 (by decide) ?_
    refine lv_istore_n (lv' := [(3, .int (0 : Int32)), (0, .ref g.1.1), (1, .int p0), (2, .int p1)]) hx hb d_M_bypass_21 rfl hl (by decide) rfl (fun ls hl => ?_)
    refine lv_aload_n hx hb d_M_bypass_22 rfl (lv_at hl 1 rfl) ?_
    refine lv_iload_n hx hb d_M_bypass_23 rfl (lv_at hl 2 rfl) ?_
    refine va_put (D := D) (ci := 3) (v := .int p0) (ty := .int) (C := R_M) (T := T_M) (N := 20) hx hb htb i_M ty_M tyo_M nm_M hown hK hP hD hS 0 rfl rfl 11 (by decide) (htb _ k_M_29) (fun _ h9 => h9) rfl (by decide +kernel) rfl rfl (Nat.le_of_ble_eq_true rfl) d_M_bypass_24 (fun H locs hP hD hS => ?_)
    have hP : va_P D vwCl (wM cI cZ g (((0 : Int32), p0, x.1.2.2.1, x.1.2.2.2.1, x.1.2.2.2.2.1, x.1.2.2.2.2.2), x.2.1, x.2.2.1, x.2.2.2.1, x.2.2.2.2)) H := hP
    have hD : va_D _ (wM cI cZ g (((0 : Int32), p0, x.1.2.2.1, x.1.2.2.2.1, x.1.2.2.2.2.1, x.1.2.2.2.2.2), x.2.1, x.2.2.1, x.2.2.2.1, x.2.2.2.2)) := hD
    refine lv_aload_n hx hb d_M_bypass_27 rfl (lv_at hl 1 rfl) ?_
    refine lv_iload_n hx hb d_M_bypass_28 rfl (lv_at hl 3 rfl) ?_
    refine va_put (D := D) (ci := 3) (v := .int p1) (ty := .int) (C := R_M) (T := T_M) (N := 20) hx hb htb i_M ty_M tyo_M nm_M hown hK hP hD hS 0 rfl rfl 12 (by decide) (htb _ k_M_104) (fun _ h9 => h9) rfl (by decide +kernel) rfl rfl (Nat.le_of_ble_eq_true rfl) d_M_bypass_29 (fun H locs hP hD hS => ?_)
    have hP : va_P D vwCl (wM cI cZ g (((0 : Int32), p0, p1, x.1.2.2.2.1, x.1.2.2.2.2.1, x.1.2.2.2.2.2), x.2.1, x.2.2.1, x.2.2.2.1, x.2.2.2.2)) H := hP
    have hD : va_D _ (wM cI cZ g (((0 : Int32), p0, p1, x.1.2.2.2.1, x.1.2.2.2.2.1, x.1.2.2.2.2.2), x.2.1, x.2.2.1, x.2.2.2.1, x.2.2.2.2)) := hD
    refine lv_iload_n hx hb d_M_bypass_32 rfl (lv_at hl 0 rfl) ?_
    exact W.zret (v := (0 : Int32)) (ty := .boolean) hx hb hr rfl (fun t ht hW => ⟨⟨(0 : Int32), (((0 : Int32), p0, p1, x.1.2.2.2.1, x.1.2.2.2.2.1, x.1.2.2.2.2.2), x.2.1, x.2.2.1, x.2.2.2.1, x.2.2.2.2), rfl, hF.symm, by dsimp only; rw [ht]; exact hP⟩, hS.F ht⟩) hS.2.2 d_M_bypass_33
  · have hF := hF.trans (if_neg c_13)
    refine lv_iconst (v := 1) hx hb d_M_bypass_16 (by decide) ?_
    refine lv_goto (tgt := 21) hx hb d_M_bypass_17 (by decide) ?_
    refine lv_istore_n (lv' := [(3, .int (1 : Int32)), (0, .ref g.1.1), (1, .int p0), (2, .int p1)]) hx hb d_M_bypass_21 rfl hl (by decide) rfl (fun ls hl => ?_)
    refine lv_aload_n hx hb d_M_bypass_22 rfl (lv_at hl 1 rfl) ?_
    refine lv_iload_n hx hb d_M_bypass_23 rfl (lv_at hl 2 rfl) ?_
    refine va_put (D := D) (ci := 3) (v := .int p0) (ty := .int) (C := R_M) (T := T_M) (N := 20) hx hb htb i_M ty_M tyo_M nm_M hown hK hP hD hS 0 rfl rfl 11 (by decide) (htb _ k_M_29) (fun _ h9 => h9) rfl (by decide +kernel) rfl rfl (Nat.le_of_ble_eq_true rfl) d_M_bypass_24 (fun H locs hP hD hS => ?_)
    have hP : va_P D vwCl (wM cI cZ g (((0 : Int32), p0, x.1.2.2.1, x.1.2.2.2.1, x.1.2.2.2.2.1, x.1.2.2.2.2.2), x.2.1, x.2.2.1, x.2.2.2.1, x.2.2.2.2)) H := hP
    have hD : va_D _ (wM cI cZ g (((0 : Int32), p0, x.1.2.2.1, x.1.2.2.2.1, x.1.2.2.2.2.1, x.1.2.2.2.2.2), x.2.1, x.2.2.1, x.2.2.2.1, x.2.2.2.2)) := hD
    refine lv_aload_n hx hb d_M_bypass_27 rfl (lv_at hl 1 rfl) ?_
    refine lv_iload_n hx hb d_M_bypass_28 rfl (lv_at hl 3 rfl) ?_
    refine va_put (D := D) (ci := 3) (v := .int p1) (ty := .int) (C := R_M) (T := T_M) (N := 20) hx hb htb i_M ty_M tyo_M nm_M hown hK hP hD hS 0 rfl rfl 12 (by decide) (htb _ k_M_104) (fun _ h9 => h9) rfl (by decide +kernel) rfl rfl (Nat.le_of_ble_eq_true rfl) d_M_bypass_29 (fun H locs hP hD hS => ?_)
    have hP : va_P D vwCl (wM cI cZ g (((0 : Int32), p0, p1, x.1.2.2.2.1, x.1.2.2.2.2.1, x.1.2.2.2.2.2), x.2.1, x.2.2.1, x.2.2.2.1, x.2.2.2.2)) H := hP
    have hD : va_D _ (wM cI cZ g (((0 : Int32), p0, p1, x.1.2.2.2.1, x.1.2.2.2.2.1, x.1.2.2.2.2.2), x.2.1, x.2.2.1, x.2.2.2.1, x.2.2.2.2)) := hD
    refine lv_iload_n hx hb d_M_bypass_32 rfl (lv_at hl 0 rfl) ?_
    exact W.zret (v := (1 : Int32)) (ty := .boolean) hx hb hr rfl (fun t ht hW => ⟨⟨(1 : Int32), (((0 : Int32), p0, p1, x.1.2.2.2.1, x.1.2.2.2.2.1, x.1.2.2.2.2.2), x.2.1, x.2.2.1, x.2.2.2.1, x.2.2.2.2), rfl, hF.symm, by dsimp only; rw [ht]; exact hP⟩, hS.F ht⟩) hS.2.2 d_M_bypass_33

def L_M_isWrittenInFirst_4 (g : GM) (x : Ms) (p0 : Int32) : Nat → Int32 → Int32 → Int32
  | 0, _, _ => 0
  | n + 1, v2, v3 => (if g.2.1 ≤ v3 then v2 else (if v2 = 0 then (bnd (M_M_at g x v3 p0) (fun r_19 => (if r_19 < 0 then L_M_isWrittenInFirst_4 g x p0 n (0 : Int32) (v3 + 1) else (bnd (M_M_at g x v3 p0) (fun r_32 => (if (x.2.1.2.2.1 r_32.toNatClampNeg) = 0 then L_M_isWrittenInFirst_4 g x p0 n (0 : Int32) (v3 + 1) else L_M_isWrittenInFirst_4 g x p0 n (1 : Int32) (v3 + 1))))))) else L_M_isWrittenInFirst_4 g x p0 n (1 : Int32) (v3 + 1)))
theorem L_M_isWrittenInFirst_4_eq (g : GM) (x : Ms) (p0 : Int32) (n : Nat) (v2 v3 : Int32) : L_M_isWrittenInFirst_4 g x p0 (n + 1) v2 v3 = (if g.2.1 ≤ v3 then v2 else (if v2 = 0 then (bnd (M_M_at g x v3 p0) (fun r_19 => (if r_19 < 0 then L_M_isWrittenInFirst_4 g x p0 n (0 : Int32) (v3 + 1) else (bnd (M_M_at g x v3 p0) (fun r_32 => (if (x.2.1.2.2.1 r_32.toNatClampNeg) = 0 then L_M_isWrittenInFirst_4 g x p0 n (0 : Int32) (v3 + 1) else L_M_isWrittenInFirst_4 g x p0 n (1 : Int32) (v3 + 1))))))) else L_M_isWrittenInFirst_4 g x p0 n (1 : Int32) (v3 + 1))) := by first | rfl | rw [L_M_isWrittenInFirst_4]
def S_M_isWrittenInFirst_4 (g : GM) (x : Ms) (p0 : Int32) : Nat → Int32 → Int32 → Prop
  | 0, _, _ => True
  | n + 1, v2, v3 => ((g.2.1 ≤ v3 → (narrow .boolean (.int v2) = .int v2 ∧ True)) ∧ (¬ g.2.1 ≤ v3 → ((v2 = 0 → (S_M_at g x v3 p0 ∧ (bnd (M_M_at g x v3 p0) (fun r_19 => ((r_19 < 0 → (mu (v3 + 1) g.2.1 < mu v3 g.2.1 ∧ S_M_isWrittenInFirst_4 g x p0 n (0 : Int32) (v3 + 1))) ∧ (¬ r_19 < 0 → (S_M_at g x v3 p0 ∧ (bnd (M_M_at g x v3 p0) (fun r_32 => (vp_in r_32 320 ∧ (((x.2.1.2.2.1 r_32.toNatClampNeg) = 0 → (mu (v3 + 1) g.2.1 < mu v3 g.2.1 ∧ S_M_isWrittenInFirst_4 g x p0 n (0 : Int32) (v3 + 1))) ∧ (¬ (x.2.1.2.2.1 r_32.toNatClampNeg) = 0 → (mu (v3 + 1) g.2.1 < mu v3 g.2.1 ∧ S_M_isWrittenInFirst_4 g x p0 n (1 : Int32) (v3 + 1)))))))))))))) ∧ (¬ v2 = 0 → (mu (v3 + 1) g.2.1 < mu v3 g.2.1 ∧ S_M_isWrittenInFirst_4 g x p0 n (1 : Int32) (v3 + 1))))))
theorem S_M_isWrittenInFirst_4_eq (g : GM) (x : Ms) (p0 : Int32) (n : Nat) (v2 v3 : Int32) : S_M_isWrittenInFirst_4 g x p0 (n + 1) v2 v3 = ((g.2.1 ≤ v3 → (narrow .boolean (.int v2) = .int v2 ∧ True)) ∧ (¬ g.2.1 ≤ v3 → ((v2 = 0 → (S_M_at g x v3 p0 ∧ (bnd (M_M_at g x v3 p0) (fun r_19 => ((r_19 < 0 → (mu (v3 + 1) g.2.1 < mu v3 g.2.1 ∧ S_M_isWrittenInFirst_4 g x p0 n (0 : Int32) (v3 + 1))) ∧ (¬ r_19 < 0 → (S_M_at g x v3 p0 ∧ (bnd (M_M_at g x v3 p0) (fun r_32 => (vp_in r_32 320 ∧ (((x.2.1.2.2.1 r_32.toNatClampNeg) = 0 → (mu (v3 + 1) g.2.1 < mu v3 g.2.1 ∧ S_M_isWrittenInFirst_4 g x p0 n (0 : Int32) (v3 + 1))) ∧ (¬ (x.2.1.2.2.1 r_32.toNatClampNeg) = 0 → (mu (v3 + 1) g.2.1 < mu v3 g.2.1 ∧ S_M_isWrittenInFirst_4 g x p0 n (1 : Int32) (v3 + 1)))))))))))))) ∧ (¬ v2 = 0 → (mu (v3 + 1) g.2.1 < mu v3 g.2.1 ∧ S_M_isWrittenInFirst_4 g x p0 n (1 : Int32) (v3 + 1)))))) := by first | rfl | rw [S_M_isWrittenInFirst_4]
def M_M_isWrittenInFirst (g : GM) (x : Ms) (p0 : Int32) : Int32 := L_M_isWrittenInFirst_4 g x p0 (mu (0 : Int32) g.2.1 + 1) (0 : Int32) (0 : Int32)
theorem M_M_isWrittenInFirst_eq (g : GM) (x : Ms) (p0 : Int32) : M_M_isWrittenInFirst g x p0 = L_M_isWrittenInFirst_4 g x p0 (mu (0 : Int32) g.2.1 + 1) (0 : Int32) (0 : Int32) := rfl
def S_M_isWrittenInFirst (g : GM) (x : Ms) (p0 : Int32) : Prop := S_M_isWrittenInFirst_4 g x p0 (mu (0 : Int32) g.2.1 + 1) (0 : Int32) (0 : Int32)
theorem S_M_isWrittenInFirst_eq (g : GM) (x : Ms) (p0 : Int32) : S_M_isWrittenInFirst g x p0 = S_M_isWrittenInFirst_4 g x p0 (mu (0 : Int32) g.2.1 + 1) (0 : Int32) (0 : Int32) := rfl
abbrev w_M_isWrittenInFirst : List Cond := .code y_M_isWrittenInFirst b_M_isWrittenInFirst 4 (some .boolean) :: tbW
abbrev rm_M_isWrittenInFirst : Room := { frames := 1, cells := 0, slots := 0, locals := 23 }
set_option maxHeartbeats 4000000 in
set_option maxRecDepth 100000 in
theorem c_M_isWrittenInFirst (l : Launch) (D : va_G) (cI cZ : ClassId) (g : GM) (hg : okM g) (x : Ms) (p0 : Int32) (hs : S_M_isWrittenInFirst g x p0) : Met l y_M_isWrittenInFirst w_M_isWrittenInFirst rm_M_isWrittenInFirst (PcR D vwCl (tyK cI cZ) [.ref g.1.1, .int p0] (wM cI cZ g x)) (vp_Si (fun r => r = M_M_isWrittenInFirst g x p0)) 0 0 (fun _ => False) := by
  refine Met.ofW (cc := b_M_isWrittenInFirst) (maxL := 4) (ret := (some .boolean)) (by decide) rfl ?_
  intro p e s m args below meth c s₁ B hml hv
  obtain ⟨rfl, hP, hK⟩ := hv
  have hx := B.exec
  have hb := B.bytes
  have hr := B.returns
  have htb : ∀ w ∈ tbW, w.before _ s = true := fun w h => atoms_spec (ws := w_M_isWrittenInFirst) B.pre w (List.mem_cons_of_mem _ h)
  have hown : s.vm.findClass R_M = some m.cls := findClass_of_methodNamed B.named
  have hlocks := B.notSynchronized
  have cut_4 : ∀ (n : Nat) (v2 v3 : Int32) (ls : Array Slot), mu v3 g.2.1 < n → M_M_isWrittenInFirst g x p0 = L_M_isWrittenInFirst_4 g x p0 n v2 v3 → S_M_isWrittenInFirst_4 g x p0 n v2 v3 → lv_has ls 4 [(0, .ref g.1.1), (1, .int p0), (2, .int v2), (3, .int v3)] → W p l e (headSpec w_M_isWrittenInFirst rm_M_isWrittenInFirst).room s m ([.ref g.1.1, .int p0] : List Value).toArray below meth c s.heap [] 0 0 (MQ below (vp_Si (fun r => r = M_M_isWrittenInFirst g x p0)) ([.ref g.1.1, .int p0] : List Value).toArray s 0 0 (fun _ => False)) (F0 m 4 ls []) := by
    intro n
    induction n with
    | zero => intro v2 v3 ls hm _ _ _; exact absurd hm (Nat.not_lt_zero _)
    | succ n ih =>
      intro v2 v3 ls hm hF hs hl
      have hF := hF.trans (L_M_isWrittenInFirst_4_eq g x p0 n v2 v3)
      have hs := Eq.mp (S_M_isWrittenInFirst_4_eq g x p0 n v2 v3) hs
      refine lv_iload_n hx hb d_M_isWrittenInFirst_4 rfl (lv_at hl 3 rfl) ?_
      refine lv_aload_n hx hb d_M_isWrittenInFirst_5 rfl (lv_at hl 0 rfl) ?_
      refine va_get (D := D) (ci := 3) (v := .int g.2.1) (C := R_M) (T := T_M) (N := 20) hx hb htb i_M hown hK hP 0 rfl rfl 1 (by decide) (htb _ k_M_45) (fun _ h9 => h9) rfl d_M_isWrittenInFirst_6 ?_
      refine lv_icmp_ge (tgt := 51) hx hb d_M_isWrittenInFirst_9 (by decide) (fun c_9 => ?_) (fun c_9 => ?_)
      · have hF := hF.trans (if_pos c_9)
        have hs := hs.1 c_9
        refine lv_iload_n hx hb d_M_isWrittenInFirst_51 rfl (lv_at hl 2 rfl) ?_
        exact W.zret (v := v2) (ty := .boolean) hx hb hr hs.1 (fun t ht hW => ⟨_, rfl, hF.symm, ht⟩) (fun q h => by cases h) d_M_isWrittenInFirst_52
      · have hF := hF.trans (if_neg c_9)
        have hs := hs.2 c_9
        refine lv_iload_n hx hb d_M_isWrittenInFirst_12 rfl (lv_at hl 2 rfl) ?_
        refine lv_if_ne (tgt := 39) hx hb d_M_isWrittenInFirst_13 (by decide) (fun c_13 => ?_) (fun c_13 => ?_)
        · have hF := hF.trans (if_neg c_13)
          have hs := hs.2 c_13
          refine lv_iconst (v := 1) hx hb d_M_isWrittenInFirst_39 (by decide) ?_
          refine lv_goto (tgt := 44) hx hb d_M_isWrittenInFirst_40 (by decide) ?_
          refine lv_istore_n (lv' := [(2, .int (1 : Int32)), (0, .ref g.1.1), (1, .int p0), (3, .int v3)]) hx hb d_M_isWrittenInFirst_44 rfl hl (by decide) rfl (fun ls hl => ?_)
          refine lv_iinc (v := (v3 + 1)) (lv' := [(3, .int (v3 + 1)), (2, .int (1 : Int32)), (0, .ref g.1.1), (1, .int p0)]) hx hb d_M_isWrittenInFirst_45 hl (k := 3) rfl rfl (by decide) rfl (fun ls hl => ?_)
          refine lv_goto (tgt := 4) hx hb d_M_isWrittenInFirst_48 (by decide) ?_
          have hl := lv_sub (l' := [(0, .ref g.1.1), (1, .int p0), (2, .int (1 : Int32)), (3, .int (v3 + 1))]) hl [2, 3, 1, 0] rfl
          exact ih (1 : Int32) (v3 + 1) _ (Nat.lt_of_lt_of_le hs.1 (Nat.le_of_lt_succ hm)) hF hs.2 hl
        · have hF := hF.trans (if_pos c_13)
          have hs := hs.1 c_13
          refine lv_aload_n hx hb d_M_isWrittenInFirst_16 rfl (lv_at hl 0 rfl) ?_
          refine lv_iload_n hx hb d_M_isWrittenInFirst_17 rfl (lv_at hl 3 rfl) ?_
          refine lv_iload_n hx hb d_M_isWrittenInFirst_18 rfl (lv_at hl 1 rfl) ?_
          refine cpi (As := [.int v3, .int p0]) (rest := []) ⟨hx, hb, hml, hown, htb⟩ (c_M_at l D cI cZ g hg x v3 p0 hs.1) (cwv (n := 2) htb cd_M_at k_M_98 in_M_at se_M_at ini_M hd_M_at ⟨Nat.le_of_ble_eq_true rfl, Nat.le_of_ble_eq_true rfl⟩) hK hP [0, 1, 2, 3, 4, 5, 6, 7, 8, 9, 10] rfl (ci := 3) rfl rfl rfl hl.1 rfl (Nat.le_of_ble_eq_true rfl) d_M_isWrittenInFirst_19 ⟨Nat.zero_le _, Nat.zero_le _⟩ (fun r_19 hw_19 => ?_)
          have hF := hF.trans (bnd_eq hw_19)
          have hs := Eq.mp (bnd_eq hw_19) hs.2
          refine lv_if_lt (tgt := 43) hx hb d_M_isWrittenInFirst_22 (by decide) (fun c_22 => ?_) (fun c_22 => ?_)
          · have hF := hF.trans (if_pos c_22)
            have hs := hs.1 c_22
            refine lv_iconst (v := 0) hx hb d_M_isWrittenInFirst_43 (by decide) ?_
            refine lv_istore_n (lv' := [(2, .int (0 : Int32)), (0, .ref g.1.1), (1, .int p0), (3, .int v3)]) hx hb d_M_isWrittenInFirst_44 rfl hl (by decide) rfl (fun ls hl => ?_)
            refine lv_iinc (v := (v3 + 1)) (lv' := [(3, .int (v3 + 1)), (2, .int (0 : Int32)), (0, .ref g.1.1), (1, .int p0)]) hx hb d_M_isWrittenInFirst_45 hl (k := 3) rfl rfl (by decide) rfl (fun ls hl => ?_)
            refine lv_goto (tgt := 4) hx hb d_M_isWrittenInFirst_48 (by decide) ?_
            have hl := lv_sub (l' := [(0, .ref g.1.1), (1, .int p0), (2, .int (0 : Int32)), (3, .int (v3 + 1))]) hl [2, 3, 1, 0] rfl
            exact ih (0 : Int32) (v3 + 1) _ (Nat.lt_of_lt_of_le hs.1 (Nat.le_of_lt_succ hm)) hF hs.2 hl
          · have hF := hF.trans (if_neg c_22)
            have hs := hs.2 c_22
            refine lv_aload_n hx hb d_M_isWrittenInFirst_25 rfl (lv_at hl 0 rfl) ?_
            refine va_get (D := D) (ci := 3) (v := .ref g.1.2.2.2.1) (C := R_M) (T := T_M) (N := 20) hx hb htb i_M hown hK hP 0 rfl rfl 7 (by decide) (htb _ k_M_16) (fun _ h9 => h9) rfl d_M_isWrittenInFirst_26 ?_
            refine lv_aload_n hx hb d_M_isWrittenInFirst_29 rfl (lv_at hl 0 rfl) ?_
            refine lv_iload_n hx hb d_M_isWrittenInFirst_30 rfl (lv_at hl 3 rfl) ?_
            refine lv_iload_n hx hb d_M_isWrittenInFirst_31 rfl (lv_at hl 1 rfl) ?_
            refine cpi (As := [.int v3, .int p0]) (rest := [.ref g.1.2.2.2.1]) ⟨hx, hb, hml, hown, htb⟩ (c_M_at l D cI cZ g hg x v3 p0 hs.1) (cwv (n := 2) htb cd_M_at k_M_98 in_M_at se_M_at ini_M hd_M_at ⟨Nat.le_of_ble_eq_true rfl, Nat.le_of_ble_eq_true rfl⟩) hK hP [0, 1, 2, 3, 4, 5, 6, 7, 8, 9, 10] rfl (ci := 3) rfl rfl rfl hl.1 rfl (Nat.le_of_ble_eq_true rfl) d_M_isWrittenInFirst_32 ⟨Nat.zero_le _, Nat.zero_le _⟩ (fun r_32 hw_32 => ?_)
            have hF := hF.trans (bnd_eq hw_32)
            have hs := Eq.mp (bnd_eq hw_32) hs.2
            refine va_zald hx hb hK hP 3 1 rfl rfl hs.1 d_M_isWrittenInFirst_35 ?_
            have hs := hs.2
            refine lv_if_eq (tgt := 43) hx hb d_M_isWrittenInFirst_36 (by decide) (fun c_36 => ?_) (fun c_36 => ?_)
            · have hF := hF.trans (if_pos c_36)
              have hs := hs.1 c_36
              refine lv_iconst (v := 0) hx hb d_M_isWrittenInFirst_43 (by decide) ?_
              refine lv_istore_n (lv' := [(2, .int (0 : Int32)), (0, .ref g.1.1), (1, .int p0), (3, .int v3)]) hx hb d_M_isWrittenInFirst_44 rfl hl (by decide) rfl (fun ls hl => ?_)
              refine lv_iinc (v := (v3 + 1)) (lv' := [(3, .int (v3 + 1)), (2, .int (0 : Int32)), (0, .ref g.1.1), (1, .int p0)]) hx hb d_M_isWrittenInFirst_45 hl (k := 3) rfl rfl (by decide) rfl (fun ls hl => ?_)
              refine lv_goto (tgt := 4) hx hb d_M_isWrittenInFirst_48 (by decide) ?_
              have hl := lv_sub (l' := [(0, .ref g.1.1), (1, .int p0), (2, .int (0 : Int32)), (3, .int (v3 + 1))]) hl [2, 3, 1, 0] rfl
              exact ih (0 : Int32) (v3 + 1) _ (Nat.lt_of_lt_of_le hs.1 (Nat.le_of_lt_succ hm)) hF hs.2 hl
            · have hF := hF.trans (if_neg c_36)
              have hs := hs.2 c_36
              refine lv_iconst (v := 1) hx hb d_M_isWrittenInFirst_39 (by decide) ?_
              refine lv_goto (tgt := 44) hx hb d_M_isWrittenInFirst_40 (by decide) ?_
              refine lv_istore_n (lv' := [(2, .int (1 : Int32)), (0, .ref g.1.1), (1, .int p0), (3, .int v3)]) hx hb d_M_isWrittenInFirst_44 rfl hl (by decide) rfl (fun ls hl => ?_)
              refine lv_iinc (v := (v3 + 1)) (lv' := [(3, .int (v3 + 1)), (2, .int (1 : Int32)), (0, .ref g.1.1), (1, .int p0)]) hx hb d_M_isWrittenInFirst_45 hl (k := 3) rfl rfl (by decide) rfl (fun ls hl => ?_)
              refine lv_goto (tgt := 4) hx hb d_M_isWrittenInFirst_48 (by decide) ?_
              have hl := lv_sub (l' := [(0, .ref g.1.1), (1, .int p0), (2, .int (1 : Int32)), (3, .int (v3 + 1))]) hl [2, 3, 1, 0] rfl
              exact ih (1 : Int32) (v3 + 1) _ (Nat.lt_of_lt_of_le hs.1 (Nat.le_of_lt_succ hm)) hF hs.2 hl
  have hl := lv_entry ([.ref g.1.1, .int p0]) (n := 4) (Nat.le_of_ble_eq_true rfl)
  rw [lg_entry_eq]
  generalize (lg_sl ([.ref g.1.1, .int p0]) ++ List.replicate (4 - (lg_sl ([.ref g.1.1, .int p0])).length) Slot.unset).toArray = ls at hl ⊢
  have hl : lv_has ls 4 [(0, .ref g.1.1), (1, .int p0)] := hl
  have hF := M_M_isWrittenInFirst_eq g x p0
  have hs := Eq.mp (S_M_isWrittenInFirst_eq g x p0) hs
  refine lv_iconst (v := 0) hx hb d_M_isWrittenInFirst_0 (by decide) ?_
  refine lv_istore_n (lv' := [(2, .int (0 : Int32)), (0, .ref g.1.1), (1, .int p0)]) hx hb d_M_isWrittenInFirst_1 rfl hl (by decide) rfl (fun ls hl => ?_)
  refine lv_iconst (v := 0) hx hb d_M_isWrittenInFirst_2 (by decide) ?_
  refine lv_istore_n (lv' := [(3, .int (0 : Int32)), (2, .int (0 : Int32)), (0, .ref g.1.1), (1, .int p0)]) hx hb d_M_isWrittenInFirst_3 rfl hl (by decide) rfl (fun ls hl => ?_)
  have hl := lv_sub (l' := [(0, .ref g.1.1), (1, .int p0), (2, .int (0 : Int32)), (3, .int (0 : Int32))]) hl [2, 3, 1, 0] rfl
  exact cut_4 (mu (0 : Int32) g.2.1 + 1) (0 : Int32) (0 : Int32) _ (Nat.lt_succ_self _) hF hs hl

def L_M_cacheOf_45 (g : GM) (p0 : Int32) (v2 : Int32) (z : Ms) : Int32 × Ms := (v2, z)
theorem L_M_cacheOf_45_eq (g : GM) (p0 : Int32) (v2 : Int32) (z : Ms) : L_M_cacheOf_45 g p0 v2 z = (v2, z) := rfl
def L_M_cacheOf_30 (g : GM) (p0 : Int32) (v2 : Int32) (z : Ms) : Int32 × Ms := (if v2 = (-2 : Int32) then L_M_cacheOf_45 g p0 v2 (((1 : Int32), z.1.2.1, z.1.2.2.1, z.1.2.2.2.1, z.1.2.2.2.2.1, z.1.2.2.2.2.2), z.2.1, z.2.2.1, z.2.2.2.1, z.2.2.2.2) else L_M_cacheOf_45 g p0 v2 (((0 : Int32), z.1.2.1, z.1.2.2.1, z.1.2.2.2.1, z.1.2.2.2.2.1, z.1.2.2.2.2.2), z.2.1, z.2.2.1, z.2.2.2.1, z.2.2.2.2))
theorem L_M_cacheOf_30_eq (g : GM) (p0 : Int32) (v2 : Int32) (z : Ms) : L_M_cacheOf_30 g p0 v2 z = (if v2 = (-2 : Int32) then L_M_cacheOf_45 g p0 v2 (((1 : Int32), z.1.2.1, z.1.2.2.1, z.1.2.2.2.1, z.1.2.2.2.2.1, z.1.2.2.2.2.2), z.2.1, z.2.2.1, z.2.2.2.1, z.2.2.2.2) else L_M_cacheOf_45 g p0 v2 (((0 : Int32), z.1.2.1, z.1.2.2.1, z.1.2.2.2.1, z.1.2.2.2.2.1, z.1.2.2.2.2.2), z.2.1, z.2.2.1, z.2.2.2.1, z.2.2.2.2)) := rfl
def M_M_cacheOf (g : GM) (x : Ms) (p0 : Int32) : Int32 × Ms := (if p0 = (-1 : Int32) then L_M_cacheOf_30 g p0 (4 : Int32) x else (bnd (M_M_within p0 (0 : Int32) (g.2.1 - (1 : Int32))) (fun r_17 => (if r_17 = 0 then L_M_cacheOf_30 g p0 (-2 : Int32) x else L_M_cacheOf_30 g p0 p0 x))))
theorem M_M_cacheOf_eq (g : GM) (x : Ms) (p0 : Int32) : M_M_cacheOf g x p0 = (if p0 = (-1 : Int32) then L_M_cacheOf_30 g p0 (4 : Int32) x else (bnd (M_M_within p0 (0 : Int32) (g.2.1 - (1 : Int32))) (fun r_17 => (if r_17 = 0 then L_M_cacheOf_30 g p0 (-2 : Int32) x else L_M_cacheOf_30 g p0 p0 x)))) := rfl
abbrev w_M_cacheOf : List Cond := .code y_M_cacheOf b_M_cacheOf 3 (some .int) :: tbW
abbrev rm_M_cacheOf : Room := { frames := 1, cells := 0, slots := 0, locals := 22 }
set_option maxHeartbeats 4000000 in
set_option maxRecDepth 100000 in
theorem c_M_cacheOf (l : Launch) (D : va_G) (cI cZ : ClassId) (g : GM) (hg : okM g) (x : Ms) (p0 : Int32) : Met l y_M_cacheOf w_M_cacheOf rm_M_cacheOf (PcW D vwCl (tyK cI cZ) [.ref g.1.1, .int p0] (wM cI cZ g x)) (va_Qi (fun (r : Int32) (u : Ms) => (r, u) = M_M_cacheOf g x p0) (fun (u : Ms) (t : State) => va_P D vwCl (wM cI cZ g u) t.heap) (Aw (wM cI cZ g x))) 0 0 (Aw (wM cI cZ g x)) := by
  refine Met.ofW (cc := b_M_cacheOf) (maxL := 3) (ret := (some .int)) (by decide) rfl ?_
  intro p e s m args below meth c s₁ B hml hv
  obtain ⟨rfl, hP, hK, hD0⟩ := hv
  have hx := B.exec
  have hb := B.bytes
  have hr := B.returns
  have htb : ∀ w ∈ tbW, w.before _ s = true := fun w h => atoms_spec (ws := w_M_cacheOf) B.pre w (List.mem_cons_of_mem _ h)
  have hown : s.vm.findClass R_M = some m.cls := findClass_of_methodNamed B.named
  have hlocks := B.notSynchronized
  have hD : va_D (Aw (wM cI cZ g x)) (wM cI cZ g x) := ⟨hD0.1, fun k q hk => ⟨k, q.2, hk⟩⟩
  have hS : va_S (Aw (wM cI cZ g x)) s.heap s.heap [] := va_S.rf
  have cut_45 : ∀ (v2 : Int32) (z : Ms) (H : Heap) (locs : List Loc) (ls : Array Slot), M_M_cacheOf g x p0 = L_M_cacheOf_45 g p0 v2 z → va_P D vwCl (wM cI cZ g z) H → va_D (Aw (wM cI cZ g x)) (wM cI cZ g z) → va_S (Aw (wM cI cZ g x)) s.heap H locs → lv_has ls 3 [(0, .ref g.1.1), (1, .int p0), (2, .int v2)] → W p l e (headSpec w_M_cacheOf rm_M_cacheOf).room s m ([.ref g.1.1, .int p0] : List Value).toArray below meth c H locs 0 0 (MQ below (va_Qi (fun (r : Int32) (u : Ms) => (r, u) = M_M_cacheOf g x p0) (fun (u : Ms) (t : State) => va_P D vwCl (wM cI cZ g u) t.heap) (Aw (wM cI cZ g x))) ([.ref g.1.1, .int p0] : List Value).toArray s 0 0 (Aw (wM cI cZ g x))) (F0 m 45 ls []) := by
    intro v2 z H locs ls hF hP hD hS hl
    have hF := hF.trans (L_M_cacheOf_45_eq g p0 v2 z)
    refine lv_iload_n hx hb d_M_cacheOf_45 rfl (lv_at hl 2 rfl) ?_
    exact W.iret (v := v2) hx hb hr (fun t ht hW => ⟨⟨v2, z, rfl, hF.symm, by dsimp only; rw [ht]; exact hP⟩, hS.F ht⟩) hS.2.2 d_M_cacheOf_46
  have cut_30 : ∀ (v2 : Int32) (z : Ms) (H : Heap) (locs : List Loc) (ls : Array Slot), M_M_cacheOf g x p0 = L_M_cacheOf_30 g p0 v2 z → va_P D vwCl (wM cI cZ g z) H → va_D (Aw (wM cI cZ g x)) (wM cI cZ g z) → va_S (Aw (wM cI cZ g x)) s.heap H locs → lv_has ls 3 [(0, .ref g.1.1), (1, .int p0), (2, .int v2)] → W p l e (headSpec w_M_cacheOf rm_M_cacheOf).room s m ([.ref g.1.1, .int p0] : List Value).toArray below meth c H locs 0 0 (MQ below (va_Qi (fun (r : Int32) (u : Ms) => (r, u) = M_M_cacheOf g x p0) (fun (u : Ms) (t : State) => va_P D vwCl (wM cI cZ g u) t.heap) (Aw (wM cI cZ g x))) ([.ref g.1.1, .int p0] : List Value).toArray s 0 0 (Aw (wM cI cZ g x))) (F0 m 30 ls []) := by
    intro v2 z H locs ls hF hP hD hS hl
    have hF := hF.trans (L_M_cacheOf_30_eq g p0 v2 z)
    refine lv_aload_n hx hb d_M_cacheOf_30 rfl (lv_at hl 0 rfl) ?_
    refine lv_iload_n hx hb d_M_cacheOf_31 rfl (lv_at hl 2 rfl) ?_
    refine lv_bipush (v := -2) hx hb d_M_cacheOf_32 (by decide) ?_
    refine lv_icmp_ne (tgt := 41) hx hb d_M_cacheOf_34 (by decide) (fun c_34 => ?_) (fun c_34 => ?_)
    · have hF := hF.trans (if_neg c_34)
      refine lv_iconst (v := 0) hx hb d_M_cacheOf_41 (by decide) ?_
      refine va_put (D := D) (ci := 3) (v := .int (0 : Int32)) (ty := .int) (C := R_M) (T := T_M) (N := 20) hx hb htb i_M ty_M tyo_M nm_M hown hK hP hD hS 0 rfl rfl 0 (by decide) (htb _ k_M_61) (fun _ h9 => h9) rfl (by decide +kernel) rfl rfl (Nat.le_of_ble_eq_true rfl) d_M_cacheOf_42 (fun H locs hP hD hS => ?_)
      have hP : va_P D vwCl (wM cI cZ g (((0 : Int32), z.1.2.1, z.1.2.2.1, z.1.2.2.2.1, z.1.2.2.2.2.1, z.1.2.2.2.2.2), z.2.1, z.2.2.1, z.2.2.2.1, z.2.2.2.2)) H := hP
      have hD : va_D _ (wM cI cZ g (((0 : Int32), z.1.2.1, z.1.2.2.1, z.1.2.2.2.1, z.1.2.2.2.2.1, z.1.2.2.2.2.2), z.2.1, z.2.2.1, z.2.2.2.1, z.2.2.2.2)) := hD
      have hl := lv_sub (l' := [(0, .ref g.1.1), (1, .int p0), (2, .int v2)]) hl [0, 1, 2] rfl
      exact cut_45 v2 (((0 : Int32), z.1.2.1, z.1.2.2.1, z.1.2.2.2.1, z.1.2.2.2.2.1, z.1.2.2.2.2.2), z.2.1, z.2.2.1, z.2.2.2.1, z.2.2.2.2) _ _ _ hF hP hD hS hl
    · have hF := hF.trans (if_pos c_34)
      refine lv_iconst (v := 1) hx hb d_M_cacheOf_37 (by decide) ?_
      refine lv_goto (tgt := 42) hx hb d_M_cacheOf_38 (by decide) ?_
      refine va_put (D := D) (ci := 3) (v := .int (1 : Int32)) (ty := .int) (C := R_M) (T := T_M) (N := 20) hx hb htb i_M ty_M tyo_M nm_M hown hK hP hD hS 0 rfl rfl 0 (by decide) (htb _ k_M_61) (fun _ h9 => h9) rfl (by decide +kernel) rfl rfl (Nat.le_of_ble_eq_true rfl) d_M_cacheOf_42 (fun H locs hP hD hS => ?_)
      have hP : va_P D vwCl (wM cI cZ g (((1 : Int32), z.1.2.1, z.1.2.2.1, z.1.2.2.2.1, z.1.2.2.2.2.1, z.1.2.2.2.2.2), z.2.1, z.2.2.1, z.2.2.2.1, z.2.2.2.2)) H := hP
      have hD : va_D _ (wM cI cZ g (((1 : Int32), z.1.2.1, z.1.2.2.1, z.1.2.2.2.1, z.1.2.2.2.2.1, z.1.2.2.2.2.2), z.2.1, z.2.2.1, z.2.2.2.1, z.2.2.2.2)) := hD
      have hl := lv_sub (l' := [(0, .ref g.1.1), (1, .int p0), (2, .int v2)]) hl [0, 1, 2] rfl
      exact cut_45 v2 (((1 : Int32), z.1.2.1, z.1.2.2.1, z.1.2.2.2.1, z.1.2.2.2.2.1, z.1.2.2.2.2.2), z.2.1, z.2.2.1, z.2.2.2.1, z.2.2.2.2) _ _ _ hF hP hD hS hl
  have hl := lv_entry ([.ref g.1.1, .int p0]) (n := 3) (Nat.le_of_ble_eq_true rfl)
  rw [lg_entry_eq]
  generalize (lg_sl ([.ref g.1.1, .int p0]) ++ List.replicate (3 - (lg_sl ([.ref g.1.1, .int p0])).length) Slot.unset).toArray = ls at hl ⊢
  have hl : lv_has ls 3 [(0, .ref g.1.1), (1, .int p0)] := hl
  have hF := M_M_cacheOf_eq g x p0
  refine lv_iload_n hx hb d_M_cacheOf_0 rfl (lv_at hl 1 rfl) ?_
  refine lv_iconst (v := -1) hx hb d_M_cacheOf_1 (by decide) ?_
  refine lv_icmp_ne (tgt := 9) hx hb d_M_cacheOf_2 (by decide) (fun c_2 => ?_) (fun c_2 => ?_)
  · have hF := hF.trans (if_neg c_2)
    refine lv_iload_n hx hb d_M_cacheOf_9 rfl (lv_at hl 1 rfl) ?_
    refine lv_iconst (v := 0) hx hb d_M_cacheOf_10 (by decide) ?_
    refine lv_aload_n hx hb d_M_cacheOf_11 rfl (lv_at hl 0 rfl) ?_
    refine va_get (D := D) (ci := 3) (v := .int g.2.1) (C := R_M) (T := T_M) (N := 20) hx hb htb i_M hown hK hP 0 rfl rfl 1 (by decide) (htb _ k_M_45) (fun _ h9 => h9) rfl d_M_cacheOf_12 ?_
    refine lv_iconst (v := 1) hx hb d_M_cacheOf_15 (by decide) ?_
    refine lv_isub hx hb d_M_cacheOf_16 ?_
    refine cps (As := [.int p0, .int (0 : Int32), .int (g.2.1 - (1 : Int32))]) (rest := []) ⟨hx, hb, hml, hown, htb⟩ (c_M_within l p0 (0 : Int32) (g.2.1 - (1 : Int32))) (cws (n := 3) htb cd_M_within k_M_64 st_M_within ini_M hd_M_within ⟨Nat.le_of_ble_eq_true rfl, Nat.le_of_ble_eq_true rfl⟩) rfl hl.1 rfl (Nat.le_of_ble_eq_true rfl) d_M_cacheOf_17 ⟨Nat.zero_le _, Nat.zero_le _⟩ (fun r_17 hw_17 => ?_)
    have hF := hF.trans (bnd_eq hw_17)
    refine lv_if_eq (tgt := 27) hx hb d_M_cacheOf_20 (by decide) (fun c_20 => ?_) (fun c_20 => ?_)
    · have hF := hF.trans (if_pos c_20)
      refine lv_bipush (v := -2) hx hb d_M_cacheOf_27 (by decide) ?_
      refine lv_istore_n (lv' := [(2, .int (-2 : Int32)), (0, .ref g.1.1), (1, .int p0)]) hx hb d_M_cacheOf_29 rfl hl (by decide) rfl (fun ls hl => ?_)
      have hl := lv_sub (l' := [(0, .ref g.1.1), (1, .int p0), (2, .int (-2 : Int32))]) hl [1, 2, 0] rfl
      exact cut_30 (-2 : Int32) x _ _ _ hF hP hD hS hl
    · have hF := hF.trans (if_neg c_20)
      refine lv_iload_n hx hb d_M_cacheOf_23 rfl (lv_at hl 1 rfl) ?_
      refine lv_goto (tgt := 29) hx hb d_M_cacheOf_24 (by decide) ?_
      refine lv_istore_n (lv' := [(2, .int p0), (0, .ref g.1.1), (1, .int p0)]) hx hb d_M_cacheOf_29 rfl hl (by decide) rfl (fun ls hl => ?_)
      have hl := lv_sub (l' := [(0, .ref g.1.1), (1, .int p0), (2, .int p0)]) hl [1, 2, 0] rfl
      exact cut_30 p0 x _ _ _ hF hP hD hS hl
  · have hF := hF.trans (if_pos c_2)
    refine lv_iconst (v := 4) hx hb d_M_cacheOf_5 (by decide) ?_
    refine lv_goto (tgt := 29) hx hb d_M_cacheOf_6 (by decide) ?_
    refine lv_istore_n (lv' := [(2, .int (4 : Int32)), (0, .ref g.1.1), (1, .int p0)]) hx hb d_M_cacheOf_29 rfl hl (by decide) rfl (fun ls hl => ?_)
    have hl := lv_sub (l' := [(0, .ref g.1.1), (1, .int p0), (2, .int (4 : Int32))]) hl [1, 2, 0] rfl
    exact cut_30 (4 : Int32) x _ _ _ hF hP hD hS hl

def L_M_holds_22 (g : GM) (p0 p1 : Int32) (v4 : Int32) (z : Ms) : Int32 × Ms := (if 0 ≤ v4 then (if (z.2.1.2.2.1 v4.toNatClampNeg) = 0 then ((1 : Int32), z) else ((2 : Int32), z)) else ((0 : Int32), z))
theorem L_M_holds_22_eq (g : GM) (p0 p1 : Int32) (v4 : Int32) (z : Ms) : L_M_holds_22 g p0 p1 v4 z = (if 0 ≤ v4 then (if (z.2.1.2.2.1 v4.toNatClampNeg) = 0 then ((1 : Int32), z) else ((2 : Int32), z)) else ((0 : Int32), z)) := rfl
def S_M_holds_22 (g : GM) (p0 p1 : Int32) (v4 : Int32) (z : Ms) : Prop := ((0 ≤ v4 → (vp_in v4 320 ∧ (((z.2.1.2.2.1 v4.toNatClampNeg) = 0 → True) ∧ (¬ (z.2.1.2.2.1 v4.toNatClampNeg) = 0 → True)))) ∧ (¬ 0 ≤ v4 → True))
theorem S_M_holds_22_eq (g : GM) (p0 p1 : Int32) (v4 : Int32) (z : Ms) : S_M_holds_22 g p0 p1 v4 z = ((0 ≤ v4 → (vp_in v4 320 ∧ (((z.2.1.2.2.1 v4.toNatClampNeg) = 0 → True) ∧ (¬ (z.2.1.2.2.1 v4.toNatClampNeg) = 0 → True)))) ∧ (¬ 0 ≤ v4 → True)) := rfl
def M_M_holds (g : GM) (x : Ms) (p0 p1 : Int32) : Int32 × Ms := (bnd2 (M_M_cacheOf g x p0) (fun r_2 u_2 => (if 0 ≤ r_2 then (bnd (M_M_at g u_2 r_2 p1) (fun r_17 => L_M_holds_22 g p0 p1 r_17 u_2)) else L_M_holds_22 g p0 p1 (-1 : Int32) u_2)))
theorem M_M_holds_eq (g : GM) (x : Ms) (p0 p1 : Int32) : M_M_holds g x p0 p1 = (bnd2 (M_M_cacheOf g x p0) (fun r_2 u_2 => (if 0 ≤ r_2 then (bnd (M_M_at g u_2 r_2 p1) (fun r_17 => L_M_holds_22 g p0 p1 r_17 u_2)) else L_M_holds_22 g p0 p1 (-1 : Int32) u_2))) := rfl
def S_M_holds (g : GM) (x : Ms) (p0 p1 : Int32) : Prop := (bnd2 (M_M_cacheOf g x p0) (fun r_2 u_2 => ((0 ≤ r_2 → (S_M_at g u_2 r_2 p1 ∧ (bnd (M_M_at g u_2 r_2 p1) (fun r_17 => S_M_holds_22 g p0 p1 r_17 u_2)))) ∧ (¬ 0 ≤ r_2 → S_M_holds_22 g p0 p1 (-1 : Int32) u_2))))
theorem S_M_holds_eq (g : GM) (x : Ms) (p0 p1 : Int32) : S_M_holds g x p0 p1 = (bnd2 (M_M_cacheOf g x p0) (fun r_2 u_2 => ((0 ≤ r_2 → (S_M_at g u_2 r_2 p1 ∧ (bnd (M_M_at g u_2 r_2 p1) (fun r_17 => S_M_holds_22 g p0 p1 r_17 u_2)))) ∧ (¬ 0 ≤ r_2 → S_M_holds_22 g p0 p1 (-1 : Int32) u_2)))) := rfl
abbrev w_M_holds : List Cond := .code y_M_holds b_M_holds 5 (some .int) :: tbW
abbrev rm_M_holds : Room := { frames := 2, cells := 0, slots := 0, locals := 44 }
set_option maxHeartbeats 4000000 in
set_option maxRecDepth 100000 in
theorem c_M_holds (l : Launch) (D : va_G) (cI cZ : ClassId) (g : GM) (hg : okM g) (x : Ms) (p0 p1 : Int32) (hs : S_M_holds g x p0 p1) : Met l y_M_holds w_M_holds rm_M_holds (PcW D vwCl (tyK cI cZ) [.ref g.1.1, .int p0, .int p1] (wM cI cZ g x)) (va_Qi (fun (r : Int32) (u : Ms) => (r, u) = M_M_holds g x p0 p1) (fun (u : Ms) (t : State) => va_P D vwCl (wM cI cZ g u) t.heap) (Aw (wM cI cZ g x))) 0 0 (Aw (wM cI cZ g x)) := by
  refine Met.ofW (cc := b_M_holds) (maxL := 5) (ret := (some .int)) (by decide) rfl ?_
  intro p e s m args below meth c s₁ B hml hv
  obtain ⟨rfl, hP, hK, hD0⟩ := hv
  have hx := B.exec
  have hb := B.bytes
  have hr := B.returns
  have htb : ∀ w ∈ tbW, w.before _ s = true := fun w h => atoms_spec (ws := w_M_holds) B.pre w (List.mem_cons_of_mem _ h)
  have hown : s.vm.findClass R_M = some m.cls := findClass_of_methodNamed B.named
  have hlocks := B.notSynchronized
  have hD : va_D (Aw (wM cI cZ g x)) (wM cI cZ g x) := ⟨hD0.1, fun k q hk => ⟨k, q.2, hk⟩⟩
  have hS : va_S (Aw (wM cI cZ g x)) s.heap s.heap [] := va_S.rf
  have cut_22 : ∀ (v4 : Int32) (z : Ms) (H : Heap) (locs : List Loc) (ls : Array Slot), M_M_holds g x p0 p1 = L_M_holds_22 g p0 p1 v4 z → S_M_holds_22 g p0 p1 v4 z → va_P D vwCl (wM cI cZ g z) H → va_D (Aw (wM cI cZ g x)) (wM cI cZ g z) → va_S (Aw (wM cI cZ g x)) s.heap H locs → lv_has ls 5 [(0, .ref g.1.1), (1, .int p0), (2, .int p1), (4, .int v4)] → W p l e (headSpec w_M_holds rm_M_holds).room s m ([.ref g.1.1, .int p0, .int p1] : List Value).toArray below meth c H locs 0 0 (MQ below (va_Qi (fun (r : Int32) (u : Ms) => (r, u) = M_M_holds g x p0 p1) (fun (u : Ms) (t : State) => va_P D vwCl (wM cI cZ g u) t.heap) (Aw (wM cI cZ g x))) ([.ref g.1.1, .int p0, .int p1] : List Value).toArray s 0 0 (Aw (wM cI cZ g x))) (F0 m 22 ls []) := by
    intro v4 z H locs ls hF hs hP hD hS hl
    have hF := hF.trans (L_M_holds_22_eq g p0 p1 v4 z)
    have hs := Eq.mp (S_M_holds_22_eq g p0 p1 v4 z) hs
    refine lv_iload hx hb d_M_holds_22 (lv_at hl 3 rfl) ?_
    refine lv_if_ge (tgt := 31) hx hb d_M_holds_24 (by decide) (fun c_24 => ?_) (fun c_24 => ?_)
    · have hF := hF.trans (if_pos c_24)
      have hs := hs.1 c_24
      refine lv_aload_n hx hb d_M_holds_31 rfl (lv_at hl 0 rfl) ?_
      refine va_get (D := D) (ci := 3) (v := .ref g.1.2.2.2.1) (C := R_M) (T := T_M) (N := 20) hx hb htb i_M hown hK hP 0 rfl rfl 7 (by decide) (htb _ k_M_16) (fun _ h9 => h9) rfl d_M_holds_32 ?_
      refine lv_iload hx hb d_M_holds_35 (lv_at hl 3 rfl) ?_
      refine va_zald hx hb hK hP 3 1 rfl rfl hs.1 d_M_holds_37 ?_
      have hs := hs.2
      refine lv_if_eq (tgt := 45) hx hb d_M_holds_38 (by decide) (fun c_38 => ?_) (fun c_38 => ?_)
      · have hF := hF.trans (if_pos c_38)
        have hs := hs.1 c_38
        refine lv_iconst (v := 1) hx hb d_M_holds_45 (by decide) ?_
        exact W.iret (v := (1 : Int32)) hx hb hr (fun t ht hW => ⟨⟨(1 : Int32), z, rfl, hF.symm, by dsimp only; rw [ht]; exact hP⟩, hS.F ht⟩) hS.2.2 d_M_holds_46
      · have hF := hF.trans (if_neg c_38)
        have hs := hs.2 c_38
        refine lv_iconst (v := 2) hx hb d_M_holds_41 (by decide) ?_
        refine lv_goto (tgt := 46) hx hb d_M_holds_42 (by decide) ?_
        exact W.iret (v := (2 : Int32)) hx hb hr (fun t ht hW => ⟨⟨(2 : Int32), z, rfl, hF.symm, by dsimp only; rw [ht]; exact hP⟩, hS.F ht⟩) hS.2.2 d_M_holds_46
    · have hF := hF.trans (if_neg c_24)
      have hs := hs.2 c_24
      refine lv_iconst (v := 0) hx hb d_M_holds_27 (by decide) ?_
      refine lv_goto (tgt := 46) hx hb d_M_holds_28 (by decide) ?_
      exact W.iret (v := (0 : Int32)) hx hb hr (fun t ht hW => ⟨⟨(0 : Int32), z, rfl, hF.symm, by dsimp only; rw [ht]; exact hP⟩, hS.F ht⟩) hS.2.2 d_M_holds_46
  have hl := lv_entry ([.ref g.1.1, .int p0, .int p1]) (n := 5) (Nat.le_of_ble_eq_true rfl)
  rw [lg_entry_eq]
  generalize (lg_sl ([.ref g.1.1, .int p0, .int p1]) ++ List.replicate (5 - (lg_sl ([.ref g.1.1, .int p0, .int p1])).length) Slot.unset).toArray = ls at hl ⊢
  have hl : lv_has ls 5 [(0, .ref g.1.1), (1, .int p0), (2, .int p1)] := hl
  have hF := M_M_holds_eq g x p0 p1
  have hs := Eq.mp (S_M_holds_eq g x p0 p1) hs
  refine lv_aload_n hx hb d_M_holds_0 rfl (lv_at hl 0 rfl) ?_
  refine lv_iload_n hx hb d_M_holds_1 rfl (lv_at hl 1 rfl) ?_
  refine cwi (As := [.int p0]) (rest := []) (wldC := fun u => (wM cI cZ g u)) ⟨hx, hb, hml, hown, htb⟩ (c_M_cacheOf l D cI cZ g hg x p0) (cwv (n := 1) htb cd_M_cacheOf k_M_160 in_M_cacheOf se_M_cacheOf ini_M hd_M_cacheOf ⟨Nat.le_of_ble_eq_true rfl, Nat.le_of_ble_eq_true rfl⟩) hK hP hD hS [0, 1, 2, 3, 4, 5, 6, 7, 8, 9, 10] [] [0, 1, 2, 3, 4, 5, 6, 7, 8, 9, 10] rfl rfl (by decide) (by decide) rfl (fun _ => rfl) (fun _ => rfl) (ci := 3) rfl rfl rfl hl.1 rfl (Nat.le_of_ble_eq_true rfl) d_M_holds_2 ⟨Nat.zero_le _, Nat.zero_le _⟩ (fun r_2 u_2 H locs hw_2 hP hD hS => ?_)
  have hP : va_P D vwCl (wM cI cZ g u_2) H := hP
  have hD : va_D _ (wM cI cZ g u_2) := hD
  have hF := hF.trans (bnd2_eq hw_2)
  have hs := Eq.mp (bnd2_eq hw_2) hs
  refine lv_istore_n (lv' := [(3, .int r_2), (0, .ref g.1.1), (1, .int p0), (2, .int p1)]) hx hb d_M_holds_5 rfl hl (by decide) rfl (fun ls hl => ?_)
  refine lv_iload_n hx hb d_M_holds_6 rfl (lv_at hl 0 rfl) ?_
  refine lv_if_ge (tgt := 14) hx hb d_M_holds_7 (by decide) (fun c_7 => ?_) (fun c_7 => ?_)
  · have hF := hF.trans (if_pos c_7)
    have hs := hs.1 c_7
    refine lv_aload_n hx hb d_M_holds_14 rfl (lv_at hl 1 rfl) ?_
    refine lv_iload_n hx hb d_M_holds_15 rfl (lv_at hl 0 rfl) ?_
    refine lv_iload_n hx hb d_M_holds_16 rfl (lv_at hl 3 rfl) ?_
    refine cpi (As := [.int r_2, .int p1]) (rest := []) ⟨hx, hb, hml, hown, htb⟩ (c_M_at l D cI cZ g hg u_2 r_2 p1 hs.1) (cwv (n := 2) htb cd_M_at k_M_98 in_M_at se_M_at ini_M hd_M_at ⟨Nat.le_of_ble_eq_true rfl, Nat.le_of_ble_eq_true rfl⟩) hK hP [0, 1, 2, 3, 4, 5, 6, 7, 8, 9, 10] rfl (ci := 3) rfl rfl rfl hl.1 rfl (Nat.le_of_ble_eq_true rfl) d_M_holds_17 ⟨Nat.zero_le _, Nat.zero_le _⟩ (fun r_17 hw_17 => ?_)
    have hF := hF.trans (bnd_eq hw_17)
    have hs := Eq.mp (bnd_eq hw_17) hs.2
    refine lv_istore (lv' := [(4, .int r_17), (3, .int r_2), (0, .ref g.1.1), (1, .int p0), (2, .int p1)]) hx hb d_M_holds_20 hl (by decide) rfl (fun ls hl => ?_)
    have hl := lv_sub (l' := [(0, .ref g.1.1), (1, .int p0), (2, .int p1), (4, .int r_17)]) hl [2, 3, 4, 0] rfl
    exact cut_22 r_17 u_2 _ _ _ hF hs hP hD hS hl
  · have hF := hF.trans (if_neg c_7)
    have hs := hs.2 c_7
    refine lv_iconst (v := -1) hx hb d_M_holds_10 (by decide) ?_
    refine lv_goto (tgt := 20) hx hb d_M_holds_11 (by decide) ?_
    refine lv_istore (lv' := [(4, .int (-1 : Int32)), (3, .int r_2), (0, .ref g.1.1), (1, .int p0), (2, .int p1)]) hx hb d_M_holds_20 hl (by decide) rfl (fun ls hl => ?_)
    have hl := lv_sub (l' := [(0, .ref g.1.1), (1, .int p0), (2, .int p1), (4, .int (-1 : Int32))]) hl [2, 3, 4, 0] rfl
    exact cut_22 (-1 : Int32) u_2 _ _ _ hF hs hP hD hS hl

def L_M_version_87 (g : GM) (p0 p1 : Int32) (v3 : Int32) (z : Ms) : Int32 × Ms := (if 0 ≤ v3 then ((z.2.1.2.2.2.1 v3.toNatClampNeg), z) else (bnd (M_M_memoryOf g z p1) (fun r_93 => (r_93, z))))
theorem L_M_version_87_eq (g : GM) (p0 p1 : Int32) (v3 : Int32) (z : Ms) : L_M_version_87 g p0 p1 v3 z = (if 0 ≤ v3 then ((z.2.1.2.2.2.1 v3.toNatClampNeg), z) else (bnd (M_M_memoryOf g z p1) (fun r_93 => (r_93, z)))) := rfl
def S_M_version_87 (g : GM) (p0 p1 : Int32) (v3 : Int32) (z : Ms) : Prop := ((0 ≤ v3 → (vp_in v3 320 ∧ True)) ∧ (¬ 0 ≤ v3 → (S_M_memoryOf g z p1 ∧ (bnd (M_M_memoryOf g z p1) (fun r_93 => True)))))
theorem S_M_version_87_eq (g : GM) (p0 p1 : Int32) (v3 : Int32) (z : Ms) : S_M_version_87 g p0 p1 v3 z = ((0 ≤ v3 → (vp_in v3 320 ∧ True)) ∧ (¬ 0 ≤ v3 → (S_M_memoryOf g z p1 ∧ (bnd (M_M_memoryOf g z p1) (fun r_93 => True))))) := rfl
def L_M_version_76 (g : GM) (p0 p1 : Int32) (v3 : Int32) (z : Ms) : Int32 × Ms := (if 0 ≤ v3 then L_M_version_87 g p0 p1 v3 z else (bnd (M_M_at g z (4 : Int32) p1) (fun r_83 => L_M_version_87 g p0 p1 r_83 z)))
theorem L_M_version_76_eq (g : GM) (p0 p1 : Int32) (v3 : Int32) (z : Ms) : L_M_version_76 g p0 p1 v3 z = (if 0 ≤ v3 then L_M_version_87 g p0 p1 v3 z else (bnd (M_M_at g z (4 : Int32) p1) (fun r_83 => L_M_version_87 g p0 p1 r_83 z))) := rfl
def S_M_version_76 (g : GM) (p0 p1 : Int32) (v3 : Int32) (z : Ms) : Prop := ((0 ≤ v3 → S_M_version_87 g p0 p1 v3 z) ∧ (¬ 0 ≤ v3 → (S_M_at g z (4 : Int32) p1 ∧ (bnd (M_M_at g z (4 : Int32) p1) (fun r_83 => S_M_version_87 g p0 p1 r_83 z)))))
theorem S_M_version_76_eq (g : GM) (p0 p1 : Int32) (v3 : Int32) (z : Ms) : S_M_version_76 g p0 p1 v3 z = ((0 ≤ v3 → S_M_version_87 g p0 p1 v3 z) ∧ (¬ 0 ≤ v3 → (S_M_at g z (4 : Int32) p1 ∧ (bnd (M_M_at g z (4 : Int32) p1) (fun r_83 => S_M_version_87 g p0 p1 r_83 z))))) := rfl
def L_M_version_20 (g : GM) (p0 p1 : Int32) : Nat → Int32 → Int32 → Ms → Int32 × Ms
  | 0, _, _, z => (0, z)
  | n + 1, v3, v4, z => (if g.2.1 ≤ v4 then L_M_version_76 g p0 p1 v3 z else (if 0 ≤ v3 then L_M_version_76 g p0 p1 v3 z else (bnd (M_M_at g z v4 p1) (fun r_37 => (if r_37 < 0 then L_M_version_20 g p0 p1 n (-1 : Int32) (v4 + 1) z else (bnd (M_M_at g z v4 p1) (fun r_51 => (if (z.2.1.2.2.1 r_51.toNatClampNeg) = 0 then L_M_version_20 g p0 p1 n (-1 : Int32) (v4 + 1) z else (bnd (M_M_at g z v4 p1) (fun r_62 => L_M_version_20 g p0 p1 n r_62 (v4 + 1) z))))))))))
theorem L_M_version_20_eq (g : GM) (p0 p1 : Int32) (n : Nat) (v3 v4 : Int32) (z : Ms) : L_M_version_20 g p0 p1 (n + 1) v3 v4 z = (if g.2.1 ≤ v4 then L_M_version_76 g p0 p1 v3 z else (if 0 ≤ v3 then L_M_version_76 g p0 p1 v3 z else (bnd (M_M_at g z v4 p1) (fun r_37 => (if r_37 < 0 then L_M_version_20 g p0 p1 n (-1 : Int32) (v4 + 1) z else (bnd (M_M_at g z v4 p1) (fun r_51 => (if (z.2.1.2.2.1 r_51.toNatClampNeg) = 0 then L_M_version_20 g p0 p1 n (-1 : Int32) (v4 + 1) z else (bnd (M_M_at g z v4 p1) (fun r_62 => L_M_version_20 g p0 p1 n r_62 (v4 + 1) z)))))))))) := by first | rfl | rw [L_M_version_20]
def S_M_version_20 (g : GM) (p0 p1 : Int32) : Nat → Int32 → Int32 → Ms → Prop
  | 0, _, _, _ => True
  | n + 1, v3, v4, z => ((g.2.1 ≤ v4 → S_M_version_76 g p0 p1 v3 z) ∧ (¬ g.2.1 ≤ v4 → ((0 ≤ v3 → S_M_version_76 g p0 p1 v3 z) ∧ (¬ 0 ≤ v3 → (S_M_at g z v4 p1 ∧ (bnd (M_M_at g z v4 p1) (fun r_37 => ((r_37 < 0 → (mu (v4 + 1) g.2.1 < mu v4 g.2.1 ∧ S_M_version_20 g p0 p1 n (-1 : Int32) (v4 + 1) z)) ∧ (¬ r_37 < 0 → (S_M_at g z v4 p1 ∧ (bnd (M_M_at g z v4 p1) (fun r_51 => (vp_in r_51 320 ∧ (((z.2.1.2.2.1 r_51.toNatClampNeg) = 0 → (mu (v4 + 1) g.2.1 < mu v4 g.2.1 ∧ S_M_version_20 g p0 p1 n (-1 : Int32) (v4 + 1) z)) ∧ (¬ (z.2.1.2.2.1 r_51.toNatClampNeg) = 0 → (S_M_at g z v4 p1 ∧ (bnd (M_M_at g z v4 p1) (fun r_62 => (mu (v4 + 1) g.2.1 < mu v4 g.2.1 ∧ S_M_version_20 g p0 p1 n r_62 (v4 + 1) z)))))))))))))))))))
theorem S_M_version_20_eq (g : GM) (p0 p1 : Int32) (n : Nat) (v3 v4 : Int32) (z : Ms) : S_M_version_20 g p0 p1 (n + 1) v3 v4 z = ((g.2.1 ≤ v4 → S_M_version_76 g p0 p1 v3 z) ∧ (¬ g.2.1 ≤ v4 → ((0 ≤ v3 → S_M_version_76 g p0 p1 v3 z) ∧ (¬ 0 ≤ v3 → (S_M_at g z v4 p1 ∧ (bnd (M_M_at g z v4 p1) (fun r_37 => ((r_37 < 0 → (mu (v4 + 1) g.2.1 < mu v4 g.2.1 ∧ S_M_version_20 g p0 p1 n (-1 : Int32) (v4 + 1) z)) ∧ (¬ r_37 < 0 → (S_M_at g z v4 p1 ∧ (bnd (M_M_at g z v4 p1) (fun r_51 => (vp_in r_51 320 ∧ (((z.2.1.2.2.1 r_51.toNatClampNeg) = 0 → (mu (v4 + 1) g.2.1 < mu v4 g.2.1 ∧ S_M_version_20 g p0 p1 n (-1 : Int32) (v4 + 1) z)) ∧ (¬ (z.2.1.2.2.1 r_51.toNatClampNeg) = 0 → (S_M_at g z v4 p1 ∧ (bnd (M_M_at g z v4 p1) (fun r_62 => (mu (v4 + 1) g.2.1 < mu v4 g.2.1 ∧ S_M_version_20 g p0 p1 n r_62 (v4 + 1) z))))))))))))))))))) := by first | rfl | rw [S_M_version_20]
def M_M_version (g : GM) (x : Ms) (p0 p1 : Int32) : Int32 × Ms := (bnd2 (M_M_isCore g x p0) (fun r_2 u_2 => (if r_2 = 0 then ((0 : Int32), u_2) else (bnd (M_M_at g u_2 p0 p1) (fun r_13 => L_M_version_20 g p0 p1 (mu (0 : Int32) g.2.1 + 1) r_13 (0 : Int32) u_2)))))
theorem M_M_version_eq (g : GM) (x : Ms) (p0 p1 : Int32) : M_M_version g x p0 p1 = (bnd2 (M_M_isCore g x p0) (fun r_2 u_2 => (if r_2 = 0 then ((0 : Int32), u_2) else (bnd (M_M_at g u_2 p0 p1) (fun r_13 => L_M_version_20 g p0 p1 (mu (0 : Int32) g.2.1 + 1) r_13 (0 : Int32) u_2))))) := rfl
def S_M_version (g : GM) (x : Ms) (p0 p1 : Int32) : Prop := (bnd2 (M_M_isCore g x p0) (fun r_2 u_2 => ((r_2 = 0 → True) ∧ (¬ r_2 = 0 → (S_M_at g u_2 p0 p1 ∧ (bnd (M_M_at g u_2 p0 p1) (fun r_13 => S_M_version_20 g p0 p1 (mu (0 : Int32) g.2.1 + 1) r_13 (0 : Int32) u_2)))))))
theorem S_M_version_eq (g : GM) (x : Ms) (p0 p1 : Int32) : S_M_version g x p0 p1 = (bnd2 (M_M_isCore g x p0) (fun r_2 u_2 => ((r_2 = 0 → True) ∧ (¬ r_2 = 0 → (S_M_at g u_2 p0 p1 ∧ (bnd (M_M_at g u_2 p0 p1) (fun r_13 => S_M_version_20 g p0 p1 (mu (0 : Int32) g.2.1 + 1) r_13 (0 : Int32) u_2))))))) := rfl
abbrev w_M_version : List Cond := .code y_M_version b_M_version 5 (some .int) :: tbW
abbrev rm_M_version : Room := { frames := 2, cells := 0, slots := 0, locals := 44 }
set_option maxHeartbeats 4000000 in
set_option maxRecDepth 100000 in
theorem c_M_version (l : Launch) (D : va_G) (cI cZ : ClassId) (g : GM) (hg : okM g) (x : Ms) (p0 p1 : Int32) (hs : S_M_version g x p0 p1) : Met l y_M_version w_M_version rm_M_version (PcW D vwCl (tyK cI cZ) [.ref g.1.1, .int p0, .int p1] (wM cI cZ g x)) (va_Qi (fun (r : Int32) (u : Ms) => (r, u) = M_M_version g x p0 p1) (fun (u : Ms) (t : State) => va_P D vwCl (wM cI cZ g u) t.heap) (Aw (wM cI cZ g x))) 0 0 (Aw (wM cI cZ g x)) := by
  refine Met.ofW (cc := b_M_version) (maxL := 5) (ret := (some .int)) (by decide) rfl ?_
  intro p e s m args below meth c s₁ B hml hv
  obtain ⟨rfl, hP, hK, hD0⟩ := hv
  have hx := B.exec
  have hb := B.bytes
  have hr := B.returns
  have htb : ∀ w ∈ tbW, w.before _ s = true := fun w h => atoms_spec (ws := w_M_version) B.pre w (List.mem_cons_of_mem _ h)
  have hown : s.vm.findClass R_M = some m.cls := findClass_of_methodNamed B.named
  have hlocks := B.notSynchronized
  have hD : va_D (Aw (wM cI cZ g x)) (wM cI cZ g x) := ⟨hD0.1, fun k q hk => ⟨k, q.2, hk⟩⟩
  have hS : va_S (Aw (wM cI cZ g x)) s.heap s.heap [] := va_S.rf
  have cut_87 : ∀ (v3 : Int32) (z : Ms) (H : Heap) (locs : List Loc) (ls : Array Slot), M_M_version g x p0 p1 = L_M_version_87 g p0 p1 v3 z → S_M_version_87 g p0 p1 v3 z → va_P D vwCl (wM cI cZ g z) H → va_D (Aw (wM cI cZ g x)) (wM cI cZ g z) → va_S (Aw (wM cI cZ g x)) s.heap H locs → lv_has ls 5 [(0, .ref g.1.1), (1, .int p0), (2, .int p1), (3, .int v3)] → W p l e (headSpec w_M_version rm_M_version).room s m ([.ref g.1.1, .int p0, .int p1] : List Value).toArray below meth c H locs 0 0 (MQ below (va_Qi (fun (r : Int32) (u : Ms) => (r, u) = M_M_version g x p0 p1) (fun (u : Ms) (t : State) => va_P D vwCl (wM cI cZ g u) t.heap) (Aw (wM cI cZ g x))) ([.ref g.1.1, .int p0, .int p1] : List Value).toArray s 0 0 (Aw (wM cI cZ g x))) (F0 m 87 ls []) := by
    intro v3 z H locs ls hF hs hP hD hS hl
    have hF := hF.trans (L_M_version_87_eq g p0 p1 v3 z)
    have hs := Eq.mp (S_M_version_87_eq g p0 p1 v3 z) hs
    refine lv_iload_n hx hb d_M_version_87 rfl (lv_at hl 3 rfl) ?_
    refine lv_if_ge (tgt := 99) hx hb d_M_version_88 (by decide) (fun c_88 => ?_) (fun c_88 => ?_)
    · have hF := hF.trans (if_pos c_88)
      have hs := hs.1 c_88
      refine lv_aload_n hx hb d_M_version_99 rfl (lv_at hl 0 rfl) ?_
      refine va_get (D := D) (ci := 3) (v := .ref g.1.2.2.2.2.1) (C := R_M) (T := T_M) (N := 20) hx hb htb i_M hown hK hP 0 rfl rfl 8 (by decide) (htb _ k_M_20) (fun _ h9 => h9) rfl d_M_version_100 ?_
      refine lv_iload_n hx hb d_M_version_103 rfl (lv_at hl 3 rfl) ?_
      refine va_iald hx hb hK hP 4 0 rfl rfl hs.1 d_M_version_104 ?_
      have hs := hs.2
      exact W.iret (v := (z.2.1.2.2.2.1 v3.toNatClampNeg)) hx hb hr (fun t ht hW => ⟨⟨(z.2.1.2.2.2.1 v3.toNatClampNeg), z, rfl, hF.symm, by dsimp only; rw [ht]; exact hP⟩, hS.F ht⟩) hS.2.2 d_M_version_105
    · have hF := hF.trans (if_neg c_88)
      have hs := hs.2 c_88
      refine lv_aload_n hx hb d_M_version_91 rfl (lv_at hl 0 rfl) ?_
      refine lv_iload_n hx hb d_M_version_92 rfl (lv_at hl 2 rfl) ?_
      refine cpi (As := [.int p1]) (rest := []) ⟨hx, hb, hml, hown, htb⟩ (c_M_memoryOf l D cI cZ g hg z p1 hs.1) (cwv (n := 1) htb cd_M_memoryOf k_M_142 in_M_memoryOf se_M_memoryOf ini_M hd_M_memoryOf ⟨Nat.le_of_ble_eq_true rfl, Nat.le_of_ble_eq_true rfl⟩) hK hP [0, 1, 2, 3, 4, 5, 6, 7, 8, 9, 10] rfl (ci := 3) rfl rfl rfl hl.1 rfl (Nat.le_of_ble_eq_true rfl) d_M_version_93 ⟨Nat.zero_le _, Nat.zero_le _⟩ (fun r_93 hw_93 => ?_)
      have hF := hF.trans (bnd_eq hw_93)
      have hs := Eq.mp (bnd_eq hw_93) hs.2
      refine lv_goto (tgt := 105) hx hb d_M_version_96 (by decide) ?_
      exact W.iret (v := r_93) hx hb hr (fun t ht hW => ⟨⟨r_93, z, rfl, hF.symm, by dsimp only; rw [ht]; exact hP⟩, hS.F ht⟩) hS.2.2 d_M_version_105
  have cut_76 : ∀ (v3 : Int32) (z : Ms) (H : Heap) (locs : List Loc) (ls : Array Slot), M_M_version g x p0 p1 = L_M_version_76 g p0 p1 v3 z → S_M_version_76 g p0 p1 v3 z → va_P D vwCl (wM cI cZ g z) H → va_D (Aw (wM cI cZ g x)) (wM cI cZ g z) → va_S (Aw (wM cI cZ g x)) s.heap H locs → lv_has ls 5 [(0, .ref g.1.1), (1, .int p0), (2, .int p1), (3, .int v3)] → W p l e (headSpec w_M_version rm_M_version).room s m ([.ref g.1.1, .int p0, .int p1] : List Value).toArray below meth c H locs 0 0 (MQ below (va_Qi (fun (r : Int32) (u : Ms) => (r, u) = M_M_version g x p0 p1) (fun (u : Ms) (t : State) => va_P D vwCl (wM cI cZ g u) t.heap) (Aw (wM cI cZ g x))) ([.ref g.1.1, .int p0, .int p1] : List Value).toArray s 0 0 (Aw (wM cI cZ g x))) (F0 m 76 ls []) := by
    intro v3 z H locs ls hF hs hP hD hS hl
    have hF := hF.trans (L_M_version_76_eq g p0 p1 v3 z)
    have hs := Eq.mp (S_M_version_76_eq g p0 p1 v3 z) hs
    refine lv_iload_n hx hb d_M_version_76 rfl (lv_at hl 3 rfl) ?_
    refine lv_if_ge (tgt := 87) hx hb d_M_version_77 (by decide) (fun c_77 => ?_) (fun c_77 => ?_)
    · have hF := hF.trans (if_pos c_77)
      have hs := hs.1 c_77
      have hl := lv_sub (l' := [(0, .ref g.1.1), (1, .int p0), (2, .int p1), (3, .int v3)]) hl [0, 1, 2, 3] rfl
      exact cut_87 v3 z _ _ _ hF hs hP hD hS hl
    · have hF := hF.trans (if_neg c_77)
      have hs := hs.2 c_77
      refine lv_aload_n hx hb d_M_version_80 rfl (lv_at hl 0 rfl) ?_
      refine lv_iconst (v := 4) hx hb d_M_version_81 (by decide) ?_
      refine lv_iload_n hx hb d_M_version_82 rfl (lv_at hl 2 rfl) ?_
      refine cpi (As := [.int (4 : Int32), .int p1]) (rest := []) ⟨hx, hb, hml, hown, htb⟩ (c_M_at l D cI cZ g hg z (4 : Int32) p1 hs.1) (cwv (n := 2) htb cd_M_at k_M_98 in_M_at se_M_at ini_M hd_M_at ⟨Nat.le_of_ble_eq_true rfl, Nat.le_of_ble_eq_true rfl⟩) hK hP [0, 1, 2, 3, 4, 5, 6, 7, 8, 9, 10] rfl (ci := 3) rfl rfl rfl hl.1 rfl (Nat.le_of_ble_eq_true rfl) d_M_version_83 ⟨Nat.zero_le _, Nat.zero_le _⟩ (fun r_83 hw_83 => ?_)
      have hF := hF.trans (bnd_eq hw_83)
      have hs := Eq.mp (bnd_eq hw_83) hs.2
      refine lv_istore_n (lv' := [(3, .int r_83), (0, .ref g.1.1), (1, .int p0), (2, .int p1)]) hx hb d_M_version_86 rfl hl (by decide) rfl (fun ls hl => ?_)
      have hl := lv_sub (l' := [(0, .ref g.1.1), (1, .int p0), (2, .int p1), (3, .int r_83)]) hl [1, 2, 3, 0] rfl
      exact cut_87 r_83 z _ _ _ hF hs hP hD hS hl
  have cut_20 : ∀ (n : Nat) (v3 v4 : Int32) (z : Ms) (H : Heap) (locs : List Loc) (ls : Array Slot), mu v4 g.2.1 < n → M_M_version g x p0 p1 = L_M_version_20 g p0 p1 n v3 v4 z → S_M_version_20 g p0 p1 n v3 v4 z → va_P D vwCl (wM cI cZ g z) H → va_D (Aw (wM cI cZ g x)) (wM cI cZ g z) → va_S (Aw (wM cI cZ g x)) s.heap H locs → lv_has ls 5 [(0, .ref g.1.1), (1, .int p0), (2, .int p1), (3, .int v3), (4, .int v4)] → W p l e (headSpec w_M_version rm_M_version).room s m ([.ref g.1.1, .int p0, .int p1] : List Value).toArray below meth c H locs 0 0 (MQ below (va_Qi (fun (r : Int32) (u : Ms) => (r, u) = M_M_version g x p0 p1) (fun (u : Ms) (t : State) => va_P D vwCl (wM cI cZ g u) t.heap) (Aw (wM cI cZ g x))) ([.ref g.1.1, .int p0, .int p1] : List Value).toArray s 0 0 (Aw (wM cI cZ g x))) (F0 m 20 ls []) := by
    intro n
    induction n with
    | zero => intro v3 v4 z H locs ls hm _ _ _ _ _ _; exact absurd hm (Nat.not_lt_zero _)
    | succ n ih =>
      intro v3 v4 z H locs ls hm hF hs hP hD hS hl
      have hF := hF.trans (L_M_version_20_eq g p0 p1 n v3 v4 z)
      have hs := Eq.mp (S_M_version_20_eq g p0 p1 n v3 v4 z) hs
      refine lv_iload hx hb d_M_version_20 (lv_at hl 4 rfl) ?_
      refine lv_aload_n hx hb d_M_version_22 rfl (lv_at hl 0 rfl) ?_
      refine va_get (D := D) (ci := 3) (v := .int g.2.1) (C := R_M) (T := T_M) (N := 20) hx hb htb i_M hown hK hP 0 rfl rfl 1 (by decide) (htb _ k_M_45) (fun _ h9 => h9) rfl d_M_version_23 ?_
      refine lv_icmp_ge (tgt := 76) hx hb d_M_version_26 (by decide) (fun c_26 => ?_) (fun c_26 => ?_)
      · have hF := hF.trans (if_pos c_26)
        have hs := hs.1 c_26
        have hl := lv_sub (l' := [(0, .ref g.1.1), (1, .int p0), (2, .int p1), (3, .int v3)]) hl [0, 1, 2, 3] rfl
        exact cut_76 v3 z _ _ _ hF hs hP hD hS hl
      · have hF := hF.trans (if_neg c_26)
        have hs := hs.2 c_26
        refine lv_iload_n hx hb d_M_version_29 rfl (lv_at hl 3 rfl) ?_
        refine lv_if_ge (tgt := 76) hx hb d_M_version_30 (by decide) (fun c_30 => ?_) (fun c_30 => ?_)
        · have hF := hF.trans (if_pos c_30)
          have hs := hs.1 c_30
          have hl := lv_sub (l' := [(0, .ref g.1.1), (1, .int p0), (2, .int p1), (3, .int v3)]) hl [0, 1, 2, 3] rfl
          exact cut_76 v3 z _ _ _ hF hs hP hD hS hl
        · have hF := hF.trans (if_neg c_30)
          have hs := hs.2 c_30
          refine lv_aload_n hx hb d_M_version_33 rfl (lv_at hl 0 rfl) ?_
          refine lv_iload hx hb d_M_version_34 (lv_at hl 4 rfl) ?_
          refine lv_iload_n hx hb d_M_version_36 rfl (lv_at hl 2 rfl) ?_
          refine cpi (As := [.int v4, .int p1]) (rest := []) ⟨hx, hb, hml, hown, htb⟩ (c_M_at l D cI cZ g hg z v4 p1 hs.1) (cwv (n := 2) htb cd_M_at k_M_98 in_M_at se_M_at ini_M hd_M_at ⟨Nat.le_of_ble_eq_true rfl, Nat.le_of_ble_eq_true rfl⟩) hK hP [0, 1, 2, 3, 4, 5, 6, 7, 8, 9, 10] rfl (ci := 3) rfl rfl rfl hl.1 rfl (Nat.le_of_ble_eq_true rfl) d_M_version_37 ⟨Nat.zero_le _, Nat.zero_le _⟩ (fun r_37 hw_37 => ?_)
          have hF := hF.trans (bnd_eq hw_37)
          have hs := Eq.mp (bnd_eq hw_37) hs.2
          refine lv_if_lt (tgt := 68) hx hb d_M_version_40 (by decide) (fun c_40 => ?_) (fun c_40 => ?_)
          · have hF := hF.trans (if_pos c_40)
            have hs := hs.1 c_40
            refine lv_iconst (v := -1) hx hb d_M_version_68 (by decide) ?_
            refine lv_istore_n (lv' := [(3, .int (-1 : Int32)), (0, .ref g.1.1), (1, .int p0), (2, .int p1), (4, .int v4)]) hx hb d_M_version_69 rfl hl (by decide) rfl (fun ls hl => ?_)
            refine lv_iinc (v := (v4 + 1)) (lv' := [(4, .int (v4 + 1)), (3, .int (-1 : Int32)), (0, .ref g.1.1), (1, .int p0), (2, .int p1)]) hx hb d_M_version_70 hl (k := 4) rfl rfl (by decide) rfl (fun ls hl => ?_)
            refine lv_goto (tgt := 20) hx hb d_M_version_73 (by decide) ?_
            have hl := lv_sub (l' := [(0, .ref g.1.1), (1, .int p0), (2, .int p1), (3, .int (-1 : Int32)), (4, .int (v4 + 1))]) hl [2, 3, 4, 1, 0] rfl
            exact ih (-1 : Int32) (v4 + 1) z _ _ _ (Nat.lt_of_lt_of_le hs.1 (Nat.le_of_lt_succ hm)) hF hs.2 hP hD hS hl
          · have hF := hF.trans (if_neg c_40)
            have hs := hs.2 c_40
            refine lv_aload_n hx hb d_M_version_43 rfl (lv_at hl 0 rfl) ?_
            refine va_get (D := D) (ci := 3) (v := .ref g.1.2.2.2.1) (C := R_M) (T := T_M) (N := 20) hx hb htb i_M hown hK hP 0 rfl rfl 7 (by decide) (htb _ k_M_16) (fun _ h9 => h9) rfl d_M_version_44 ?_
            refine lv_aload_n hx hb d_M_version_47 rfl (lv_at hl 0 rfl) ?_
            refine lv_iload hx hb d_M_version_48 (lv_at hl 4 rfl) ?_
            refine lv_iload_n hx hb d_M_version_50 rfl (lv_at hl 2 rfl) ?_
            refine cpi (As := [.int v4, .int p1]) (rest := [.ref g.1.2.2.2.1]) ⟨hx, hb, hml, hown, htb⟩ (c_M_at l D cI cZ g hg z v4 p1 hs.1) (cwv (n := 2) htb cd_M_at k_M_98 in_M_at se_M_at ini_M hd_M_at ⟨Nat.le_of_ble_eq_true rfl, Nat.le_of_ble_eq_true rfl⟩) hK hP [0, 1, 2, 3, 4, 5, 6, 7, 8, 9, 10] rfl (ci := 3) rfl rfl rfl hl.1 rfl (Nat.le_of_ble_eq_true rfl) d_M_version_51 ⟨Nat.zero_le _, Nat.zero_le _⟩ (fun r_51 hw_51 => ?_)
            have hF := hF.trans (bnd_eq hw_51)
            have hs := Eq.mp (bnd_eq hw_51) hs.2
            refine va_zald hx hb hK hP 3 1 rfl rfl hs.1 d_M_version_54 ?_
            have hs := hs.2
            refine lv_if_eq (tgt := 68) hx hb d_M_version_55 (by decide) (fun c_55 => ?_) (fun c_55 => ?_)
            · have hF := hF.trans (if_pos c_55)
              have hs := hs.1 c_55
              refine lv_iconst (v := -1) hx hb d_M_version_68 (by decide) ?_
              refine lv_istore_n (lv' := [(3, .int (-1 : Int32)), (0, .ref g.1.1), (1, .int p0), (2, .int p1), (4, .int v4)]) hx hb d_M_version_69 rfl hl (by decide) rfl (fun ls hl => ?_)
              refine lv_iinc (v := (v4 + 1)) (lv' := [(4, .int (v4 + 1)), (3, .int (-1 : Int32)), (0, .ref g.1.1), (1, .int p0), (2, .int p1)]) hx hb d_M_version_70 hl (k := 4) rfl rfl (by decide) rfl (fun ls hl => ?_)
              refine lv_goto (tgt := 20) hx hb d_M_version_73 (by decide) ?_
              have hl := lv_sub (l' := [(0, .ref g.1.1), (1, .int p0), (2, .int p1), (3, .int (-1 : Int32)), (4, .int (v4 + 1))]) hl [2, 3, 4, 1, 0] rfl
              exact ih (-1 : Int32) (v4 + 1) z _ _ _ (Nat.lt_of_lt_of_le hs.1 (Nat.le_of_lt_succ hm)) hF hs.2 hP hD hS hl
            · have hF := hF.trans (if_neg c_55)
              have hs := hs.2 c_55
              refine lv_aload_n hx hb d_M_version_58 rfl (lv_at hl 0 rfl) ?_
              refine lv_iload hx hb d_M_version_59 (lv_at hl 4 rfl) ?_
              refine lv_iload_n hx hb d_M_version_61 rfl (lv_at hl 2 rfl) ?_
              refine cpi (As := [.int v4, .int p1]) (rest := []) ⟨hx, hb, hml, hown, htb⟩ (c_M_at l D cI cZ g hg z v4 p1 hs.1) (cwv (n := 2) htb cd_M_at k_M_98 in_M_at se_M_at ini_M hd_M_at ⟨Nat.le_of_ble_eq_true rfl, Nat.le_of_ble_eq_true rfl⟩) hK hP [0, 1, 2, 3, 4, 5, 6, 7, 8, 9, 10] rfl (ci := 3) rfl rfl rfl hl.1 rfl (Nat.le_of_ble_eq_true rfl) d_M_version_62 ⟨Nat.zero_le _, Nat.zero_le _⟩ (fun r_62 hw_62 => ?_)
              have hF := hF.trans (bnd_eq hw_62)
              have hs := Eq.mp (bnd_eq hw_62) hs.2
              refine lv_goto (tgt := 69) hx hb d_M_version_65 (by decide) ?_
              refine lv_istore_n (lv' := [(3, .int r_62), (0, .ref g.1.1), (1, .int p0), (2, .int p1), (4, .int v4)]) hx hb d_M_version_69 rfl hl (by decide) rfl (fun ls hl => ?_)
              refine lv_iinc (v := (v4 + 1)) (lv' := [(4, .int (v4 + 1)), (3, .int r_62), (0, .ref g.1.1), (1, .int p0), (2, .int p1)]) hx hb d_M_version_70 hl (k := 4) rfl rfl (by decide) rfl (fun ls hl => ?_)
              refine lv_goto (tgt := 20) hx hb d_M_version_73 (by decide) ?_
              have hl := lv_sub (l' := [(0, .ref g.1.1), (1, .int p0), (2, .int p1), (3, .int r_62), (4, .int (v4 + 1))]) hl [2, 3, 4, 1, 0] rfl
              exact ih r_62 (v4 + 1) z _ _ _ (Nat.lt_of_lt_of_le hs.1 (Nat.le_of_lt_succ hm)) hF hs.2 hP hD hS hl
  have hl := lv_entry ([.ref g.1.1, .int p0, .int p1]) (n := 5) (Nat.le_of_ble_eq_true rfl)
  rw [lg_entry_eq]
  generalize (lg_sl ([.ref g.1.1, .int p0, .int p1]) ++ List.replicate (5 - (lg_sl ([.ref g.1.1, .int p0, .int p1])).length) Slot.unset).toArray = ls at hl ⊢
  have hl : lv_has ls 5 [(0, .ref g.1.1), (1, .int p0), (2, .int p1)] := hl
  have hF := M_M_version_eq g x p0 p1
  have hs := Eq.mp (S_M_version_eq g x p0 p1) hs
  refine lv_aload_n hx hb d_M_version_0 rfl (lv_at hl 0 rfl) ?_
  refine lv_iload_n hx hb d_M_version_1 rfl (lv_at hl 1 rfl) ?_
  refine cwi (As := [.int p0]) (rest := []) (wldC := fun u => (wM cI cZ g u)) ⟨hx, hb, hml, hown, htb⟩ (c_M_isCore l D cI cZ g hg x p0) (cwv (n := 1) htb cd_M_isCore k_M_145 in_M_isCore se_M_isCore ini_M hd_M_isCore ⟨Nat.le_of_ble_eq_true rfl, Nat.le_of_ble_eq_true rfl⟩) hK hP hD hS [0, 1, 2, 3, 4, 5, 6, 7, 8, 9, 10] [] [0, 1, 2, 3, 4, 5, 6, 7, 8, 9, 10] rfl rfl (by decide) (by decide) rfl (fun _ => rfl) (fun _ => rfl) (ci := 3) rfl rfl rfl hl.1 rfl (Nat.le_of_ble_eq_true rfl) d_M_version_2 ⟨Nat.zero_le _, Nat.zero_le _⟩ (fun r_2 u_2 H locs hw_2 hP hD hS => ?_)
  have hP : va_P D vwCl (wM cI cZ g u_2) H := hP
  have hD : va_D _ (wM cI cZ g u_2) := hD
  have hF := hF.trans (bnd2_eq hw_2)
  have hs := Eq.mp (bnd2_eq hw_2) hs
  refine lv_if_ne (tgt := 10) hx hb d_M_version_5 (by decide) (fun c_5 => ?_) (fun c_5 => ?_)
  · have hF := hF.trans (if_neg c_5)
    have hs := hs.2 c_5
    refine lv_aload_n hx hb d_M_version_10 rfl (lv_at hl 0 rfl) ?_
    refine lv_iload_n hx hb d_M_version_11 rfl (lv_at hl 1 rfl) ?_
    refine lv_iload_n hx hb d_M_version_12 rfl (lv_at hl 2 rfl) ?_
    refine cpi (As := [.int p0, .int p1]) (rest := []) ⟨hx, hb, hml, hown, htb⟩ (c_M_at l D cI cZ g hg u_2 p0 p1 hs.1) (cwv (n := 2) htb cd_M_at k_M_98 in_M_at se_M_at ini_M hd_M_at ⟨Nat.le_of_ble_eq_true rfl, Nat.le_of_ble_eq_true rfl⟩) hK hP [0, 1, 2, 3, 4, 5, 6, 7, 8, 9, 10] rfl (ci := 3) rfl rfl rfl hl.1 rfl (Nat.le_of_ble_eq_true rfl) d_M_version_13 ⟨Nat.zero_le _, Nat.zero_le _⟩ (fun r_13 hw_13 => ?_)
    have hF := hF.trans (bnd_eq hw_13)
    have hs := Eq.mp (bnd_eq hw_13) hs.2
    refine lv_istore_n (lv' := [(3, .int r_13), (0, .ref g.1.1), (1, .int p0), (2, .int p1)]) hx hb d_M_version_16 rfl hl (by decide) rfl (fun ls hl => ?_)
    refine lv_iconst (v := 0) hx hb d_M_version_17 (by decide) ?_
    refine lv_istore (lv' := [(4, .int (0 : Int32)), (3, .int r_13), (0, .ref g.1.1), (1, .int p0), (2, .int p1)]) hx hb d_M_version_18 hl (by decide) rfl (fun ls hl => ?_)
    have hl := lv_sub (l' := [(0, .ref g.1.1), (1, .int p0), (2, .int p1), (3, .int r_13), (4, .int (0 : Int32))]) hl [2, 3, 4, 1, 0] rfl
    exact cut_20 (mu (0 : Int32) g.2.1 + 1) r_13 (0 : Int32) u_2 _ _ _ (Nat.lt_succ_self _) hF hs hP hD hS hl
  · have hF := hF.trans (if_pos c_5)
    have hs := hs.1 c_5
    refine lv_iconst (v := 0) hx hb d_M_version_8 (by decide) ?_
    exact W.iret (v := (0 : Int32)) hx hb hr (fun t ht hW => ⟨⟨(0 : Int32), u_2, rfl, hF.symm, by dsimp only; rw [ht]; exact hP⟩, hS.F ht⟩) hS.2.2 d_M_version_9

def M_M_memory (g : GM) (x : Ms) (p0 : Int32) : Int32 × Ms := (bnd (M_M_memoryOf g (((0 : Int32), x.1.2.1, x.1.2.2.1, x.1.2.2.2.1, x.1.2.2.2.2.1, x.1.2.2.2.2.2), x.2.1, x.2.2.1, x.2.2.2.1, x.2.2.2.2) p0) (fun r_7 => (r_7, (((0 : Int32), x.1.2.1, x.1.2.2.1, x.1.2.2.2.1, x.1.2.2.2.2.1, x.1.2.2.2.2.2), x.2.1, x.2.2.1, x.2.2.2.1, x.2.2.2.2))))
theorem M_M_memory_eq (g : GM) (x : Ms) (p0 : Int32) : M_M_memory g x p0 = (bnd (M_M_memoryOf g (((0 : Int32), x.1.2.1, x.1.2.2.1, x.1.2.2.2.1, x.1.2.2.2.2.1, x.1.2.2.2.2.2), x.2.1, x.2.2.1, x.2.2.2.1, x.2.2.2.2) p0) (fun r_7 => (r_7, (((0 : Int32), x.1.2.1, x.1.2.2.1, x.1.2.2.2.1, x.1.2.2.2.2.1, x.1.2.2.2.2.2), x.2.1, x.2.2.1, x.2.2.2.1, x.2.2.2.2)))) := rfl
def S_M_memory (g : GM) (x : Ms) (p0 : Int32) : Prop := (S_M_memoryOf g (((0 : Int32), x.1.2.1, x.1.2.2.1, x.1.2.2.2.1, x.1.2.2.2.2.1, x.1.2.2.2.2.2), x.2.1, x.2.2.1, x.2.2.2.1, x.2.2.2.2) p0 ∧ (bnd (M_M_memoryOf g (((0 : Int32), x.1.2.1, x.1.2.2.1, x.1.2.2.2.1, x.1.2.2.2.2.1, x.1.2.2.2.2.2), x.2.1, x.2.2.1, x.2.2.2.1, x.2.2.2.2) p0) (fun r_7 => True)))
theorem S_M_memory_eq (g : GM) (x : Ms) (p0 : Int32) : S_M_memory g x p0 = (S_M_memoryOf g (((0 : Int32), x.1.2.1, x.1.2.2.1, x.1.2.2.2.1, x.1.2.2.2.2.1, x.1.2.2.2.2.2), x.2.1, x.2.2.1, x.2.2.2.1, x.2.2.2.2) p0 ∧ (bnd (M_M_memoryOf g (((0 : Int32), x.1.2.1, x.1.2.2.1, x.1.2.2.2.1, x.1.2.2.2.2.1, x.1.2.2.2.2.2), x.2.1, x.2.2.1, x.2.2.2.1, x.2.2.2.2) p0) (fun r_7 => True))) := rfl
abbrev w_M_memory : List Cond := .code y_M_memory b_M_memory 2 (some .int) :: tbW
abbrev rm_M_memory : Room := { frames := 2, cells := 0, slots := 0, locals := 44 }
set_option maxHeartbeats 4000000 in
set_option maxRecDepth 100000 in
theorem c_M_memory (l : Launch) (D : va_G) (cI cZ : ClassId) (g : GM) (hg : okM g) (x : Ms) (p0 : Int32) (hs : S_M_memory g x p0) : Met l y_M_memory w_M_memory rm_M_memory (PcW D vwCl (tyK cI cZ) [.ref g.1.1, .int p0] (wM cI cZ g x)) (va_Qi (fun (r : Int32) (u : Ms) => (r, u) = M_M_memory g x p0) (fun (u : Ms) (t : State) => va_P D vwCl (wM cI cZ g u) t.heap) (Aw (wM cI cZ g x))) 0 0 (Aw (wM cI cZ g x)) := by
  refine Met.ofW (cc := b_M_memory) (maxL := 2) (ret := (some .int)) (by decide) rfl ?_
  intro p e s m args below meth c s₁ B hml hv
  obtain ⟨rfl, hP, hK, hD0⟩ := hv
  have hx := B.exec
  have hb := B.bytes
  have hr := B.returns
  have htb : ∀ w ∈ tbW, w.before _ s = true := fun w h => atoms_spec (ws := w_M_memory) B.pre w (List.mem_cons_of_mem _ h)
  have hown : s.vm.findClass R_M = some m.cls := findClass_of_methodNamed B.named
  have hlocks := B.notSynchronized
  have hD : va_D (Aw (wM cI cZ g x)) (wM cI cZ g x) := ⟨hD0.1, fun k q hk => ⟨k, q.2, hk⟩⟩
  have hS : va_S (Aw (wM cI cZ g x)) s.heap s.heap [] := va_S.rf
  have hl := lv_entry ([.ref g.1.1, .int p0]) (n := 2) (Nat.le_of_ble_eq_true rfl)
  rw [lg_entry_eq]
  generalize (lg_sl ([.ref g.1.1, .int p0]) ++ List.replicate (2 - (lg_sl ([.ref g.1.1, .int p0])).length) Slot.unset).toArray = ls at hl ⊢
  have hl : lv_has ls 2 [(0, .ref g.1.1), (1, .int p0)] := hl
  have hF := M_M_memory_eq g x p0
  have hs := Eq.mp (S_M_memory_eq g x p0) hs
  refine lv_aload_n hx hb d_M_memory_0 rfl (lv_at hl 0 rfl) ?_
  refine lv_iconst (v := 0) hx hb d_M_memory_1 (by decide) ?_
  refine va_put (D := D) (ci := 3) (v := .int (0 : Int32)) (ty := .int) (C := R_M) (T := T_M) (N := 20) hx hb htb i_M ty_M tyo_M nm_M hown hK hP hD hS 0 rfl rfl 0 (by decide) (htb _ k_M_61) (fun _ h9 => h9) rfl (by decide +kernel) rfl rfl (Nat.le_of_ble_eq_true rfl) d_M_memory_2 (fun H locs hP hD hS => ?_)
  have hP : va_P D vwCl (wM cI cZ g (((0 : Int32), x.1.2.1, x.1.2.2.1, x.1.2.2.2.1, x.1.2.2.2.2.1, x.1.2.2.2.2.2), x.2.1, x.2.2.1, x.2.2.2.1, x.2.2.2.2)) H := hP
  have hD : va_D _ (wM cI cZ g (((0 : Int32), x.1.2.1, x.1.2.2.1, x.1.2.2.2.1, x.1.2.2.2.2.1, x.1.2.2.2.2.2), x.2.1, x.2.2.1, x.2.2.2.1, x.2.2.2.2)) := hD
  refine lv_aload_n hx hb d_M_memory_5 rfl (lv_at hl 0 rfl) ?_
  refine lv_iload_n hx hb d_M_memory_6 rfl (lv_at hl 1 rfl) ?_
  refine cpi (As := [.int p0]) (rest := []) ⟨hx, hb, hml, hown, htb⟩ (c_M_memoryOf l D cI cZ g hg (((0 : Int32), x.1.2.1, x.1.2.2.1, x.1.2.2.2.1, x.1.2.2.2.2.1, x.1.2.2.2.2.2), x.2.1, x.2.2.1, x.2.2.2.1, x.2.2.2.2) p0 hs.1) (cwv (n := 1) htb cd_M_memoryOf k_M_142 in_M_memoryOf se_M_memoryOf ini_M hd_M_memoryOf ⟨Nat.le_of_ble_eq_true rfl, Nat.le_of_ble_eq_true rfl⟩) hK hP [0, 1, 2, 3, 4, 5, 6, 7, 8, 9, 10] rfl (ci := 3) rfl rfl rfl hl.1 rfl (Nat.le_of_ble_eq_true rfl) d_M_memory_7 ⟨Nat.zero_le _, Nat.zero_le _⟩ (fun r_7 hw_7 => ?_)
  have hF := hF.trans (bnd_eq hw_7)
  have hs := Eq.mp (bnd_eq hw_7) hs.2
  exact W.iret (v := r_7) hx hb hr (fun t ht hW => ⟨⟨r_7, (((0 : Int32), x.1.2.1, x.1.2.2.1, x.1.2.2.2.1, x.1.2.2.2.2.1, x.1.2.2.2.2.2), x.2.1, x.2.2.1, x.2.2.2.1, x.2.2.2.2), rfl, hF.symm, by dsimp only; rw [ht]; exact hP⟩, hS.F ht⟩) hS.2.2 d_M_memory_10

def L_M_line_46 (g : GM) (p0 p1 p2 : Int32) : Nat → Int32 → Int32 → Int32 → Ms → Int32 × Ms
  | 0, _, _, _, z => (0, z)
  | n + 1, v4, v5, v6, z => (if (((64 : Int32) * v4) + (z.2.1.1 v4.toNatClampNeg)) ≤ v6 then (bnd2 (M_M_fail g z (1 : Int32)) (fun r_106 u_106 => (r_106, u_106))) else (bnd (M_M_setOf g z v4 (z.2.1.2.1 v6.toNatClampNeg)) (fun r_74 => (if r_74 = p1 then (if v5 = p2 then ((z.2.1.2.1 v6.toNatClampNeg), z) else L_M_line_46 g p0 p1 p2 n v4 (v5 + 1) (v6 + 1) z) else L_M_line_46 g p0 p1 p2 n v4 v5 (v6 + 1) z))))
theorem L_M_line_46_eq (g : GM) (p0 p1 p2 : Int32) (n : Nat) (v4 v5 v6 : Int32) (z : Ms) : L_M_line_46 g p0 p1 p2 (n + 1) v4 v5 v6 z = (if (((64 : Int32) * v4) + (z.2.1.1 v4.toNatClampNeg)) ≤ v6 then (bnd2 (M_M_fail g z (1 : Int32)) (fun r_106 u_106 => (r_106, u_106))) else (bnd (M_M_setOf g z v4 (z.2.1.2.1 v6.toNatClampNeg)) (fun r_74 => (if r_74 = p1 then (if v5 = p2 then ((z.2.1.2.1 v6.toNatClampNeg), z) else L_M_line_46 g p0 p1 p2 n v4 (v5 + 1) (v6 + 1) z) else L_M_line_46 g p0 p1 p2 n v4 v5 (v6 + 1) z)))) := by first | rfl | rw [L_M_line_46]
def S_M_line_46 (g : GM) (p0 p1 p2 : Int32) : Nat → Int32 → Int32 → Int32 → Ms → Prop
  | 0, _, _, _, _ => True
  | n + 1, v4, v5, v6, z => (vp_in v4 5 ∧ (((((64 : Int32) * v4) + (z.2.1.1 v4.toNatClampNeg)) ≤ v6 → (bnd2 (M_M_fail g z (1 : Int32)) (fun r_106 u_106 => True))) ∧ (¬ (((64 : Int32) * v4) + (z.2.1.1 v4.toNatClampNeg)) ≤ v6 → (vp_in v6 320 ∧ (S_M_setOf g z v4 (z.2.1.2.1 v6.toNatClampNeg) ∧ (bnd (M_M_setOf g z v4 (z.2.1.2.1 v6.toNatClampNeg)) (fun r_74 => ((r_74 = p1 → ((v5 = p2 → (vp_in v6 320 ∧ True)) ∧ (¬ v5 = p2 → (mu (v6 + 1) (((64 : Int32) * v4) + (z.2.1.1 v4.toNatClampNeg)) < mu v6 (((64 : Int32) * v4) + (z.2.1.1 v4.toNatClampNeg)) ∧ S_M_line_46 g p0 p1 p2 n v4 (v5 + 1) (v6 + 1) z)))) ∧ (¬ r_74 = p1 → (mu (v6 + 1) (((64 : Int32) * v4) + (z.2.1.1 v4.toNatClampNeg)) < mu v6 (((64 : Int32) * v4) + (z.2.1.1 v4.toNatClampNeg)) ∧ S_M_line_46 g p0 p1 p2 n v4 v5 (v6 + 1) z))))))))))
theorem S_M_line_46_eq (g : GM) (p0 p1 p2 : Int32) (n : Nat) (v4 v5 v6 : Int32) (z : Ms) : S_M_line_46 g p0 p1 p2 (n + 1) v4 v5 v6 z = (vp_in v4 5 ∧ (((((64 : Int32) * v4) + (z.2.1.1 v4.toNatClampNeg)) ≤ v6 → (bnd2 (M_M_fail g z (1 : Int32)) (fun r_106 u_106 => True))) ∧ (¬ (((64 : Int32) * v4) + (z.2.1.1 v4.toNatClampNeg)) ≤ v6 → (vp_in v6 320 ∧ (S_M_setOf g z v4 (z.2.1.2.1 v6.toNatClampNeg) ∧ (bnd (M_M_setOf g z v4 (z.2.1.2.1 v6.toNatClampNeg)) (fun r_74 => ((r_74 = p1 → ((v5 = p2 → (vp_in v6 320 ∧ True)) ∧ (¬ v5 = p2 → (mu (v6 + 1) (((64 : Int32) * v4) + (z.2.1.1 v4.toNatClampNeg)) < mu v6 (((64 : Int32) * v4) + (z.2.1.1 v4.toNatClampNeg)) ∧ S_M_line_46 g p0 p1 p2 n v4 (v5 + 1) (v6 + 1) z)))) ∧ (¬ r_74 = p1 → (mu (v6 + 1) (((64 : Int32) * v4) + (z.2.1.1 v4.toNatClampNeg)) < mu v6 (((64 : Int32) * v4) + (z.2.1.1 v4.toNatClampNeg)) ∧ S_M_line_46 g p0 p1 p2 n v4 v5 (v6 + 1) z)))))))))) := by first | rfl | rw [S_M_line_46]
def M_M_line (g : GM) (x : Ms) (p0 p1 p2 : Int32) : Int32 × Ms := (bnd2 (M_M_cacheOf g x p0) (fun r_2 u_2 => (if 0 ≤ r_2 then (bnd (M_M_sets g u_2 r_2) (fun r_19 => (bnd (M_M_within p1 (0 : Int32) (r_19 - (1 : Int32))) (fun r_24 => (if r_24 = 0 then (bnd2 (M_M_fail g u_2 (1 : Int32)) (fun r_32 u_32 => (r_32, u_32))) else L_M_line_46 g p0 p1 p2 (mu ((64 : Int32) * r_2) (((64 : Int32) * r_2) + (u_2.2.1.1 r_2.toNatClampNeg)) + 1) r_2 (0 : Int32) ((64 : Int32) * r_2) u_2))))) else ((0 : Int32), u_2))))
theorem M_M_line_eq (g : GM) (x : Ms) (p0 p1 p2 : Int32) : M_M_line g x p0 p1 p2 = (bnd2 (M_M_cacheOf g x p0) (fun r_2 u_2 => (if 0 ≤ r_2 then (bnd (M_M_sets g u_2 r_2) (fun r_19 => (bnd (M_M_within p1 (0 : Int32) (r_19 - (1 : Int32))) (fun r_24 => (if r_24 = 0 then (bnd2 (M_M_fail g u_2 (1 : Int32)) (fun r_32 u_32 => (r_32, u_32))) else L_M_line_46 g p0 p1 p2 (mu ((64 : Int32) * r_2) (((64 : Int32) * r_2) + (u_2.2.1.1 r_2.toNatClampNeg)) + 1) r_2 (0 : Int32) ((64 : Int32) * r_2) u_2))))) else ((0 : Int32), u_2)))) := rfl
def S_M_line (g : GM) (x : Ms) (p0 p1 p2 : Int32) : Prop := (bnd2 (M_M_cacheOf g x p0) (fun r_2 u_2 => ((0 ≤ r_2 → (bnd (M_M_sets g u_2 r_2) (fun r_19 => (bnd (M_M_within p1 (0 : Int32) (r_19 - (1 : Int32))) (fun r_24 => ((r_24 = 0 → (bnd2 (M_M_fail g u_2 (1 : Int32)) (fun r_32 u_32 => True))) ∧ (¬ r_24 = 0 → S_M_line_46 g p0 p1 p2 (mu ((64 : Int32) * r_2) (((64 : Int32) * r_2) + (u_2.2.1.1 r_2.toNatClampNeg)) + 1) r_2 (0 : Int32) ((64 : Int32) * r_2) u_2))))))) ∧ (¬ 0 ≤ r_2 → True))))
theorem S_M_line_eq (g : GM) (x : Ms) (p0 p1 p2 : Int32) : S_M_line g x p0 p1 p2 = (bnd2 (M_M_cacheOf g x p0) (fun r_2 u_2 => ((0 ≤ r_2 → (bnd (M_M_sets g u_2 r_2) (fun r_19 => (bnd (M_M_within p1 (0 : Int32) (r_19 - (1 : Int32))) (fun r_24 => ((r_24 = 0 → (bnd2 (M_M_fail g u_2 (1 : Int32)) (fun r_32 u_32 => True))) ∧ (¬ r_24 = 0 → S_M_line_46 g p0 p1 p2 (mu ((64 : Int32) * r_2) (((64 : Int32) * r_2) + (u_2.2.1.1 r_2.toNatClampNeg)) + 1) r_2 (0 : Int32) ((64 : Int32) * r_2) u_2))))))) ∧ (¬ 0 ≤ r_2 → True)))) := rfl
abbrev w_M_line : List Cond := .code y_M_line b_M_line 7 (some .int) :: tbW
abbrev rm_M_line : Room := { frames := 2, cells := 0, slots := 0, locals := 44 }
set_option maxHeartbeats 4000000 in
set_option maxRecDepth 100000 in
theorem c_M_line (l : Launch) (D : va_G) (cI cZ : ClassId) (g : GM) (hg : okM g) (x : Ms) (p0 p1 p2 : Int32) (hs : S_M_line g x p0 p1 p2) : Met l y_M_line w_M_line rm_M_line (PcW D vwCl (tyK cI cZ) [.ref g.1.1, .int p0, .int p1, .int p2] (wM cI cZ g x)) (va_Qi (fun (r : Int32) (u : Ms) => (r, u) = M_M_line g x p0 p1 p2) (fun (u : Ms) (t : State) => va_P D vwCl (wM cI cZ g u) t.heap) (Aw (wM cI cZ g x))) 0 0 (Aw (wM cI cZ g x)) := by
  refine Met.ofW (cc := b_M_line) (maxL := 7) (ret := (some .int)) (by decide) rfl ?_
  intro p e s m args below meth c s₁ B hml hv
  obtain ⟨rfl, hP, hK, hD0⟩ := hv
  have hx := B.exec
  have hb := B.bytes
  have hr := B.returns
  have htb : ∀ w ∈ tbW, w.before _ s = true := fun w h => atoms_spec (ws := w_M_line) B.pre w (List.mem_cons_of_mem _ h)
  have hown : s.vm.findClass R_M = some m.cls := findClass_of_methodNamed B.named
  have hlocks := B.notSynchronized
  have hD : va_D (Aw (wM cI cZ g x)) (wM cI cZ g x) := ⟨hD0.1, fun k q hk => ⟨k, q.2, hk⟩⟩
  have hS : va_S (Aw (wM cI cZ g x)) s.heap s.heap [] := va_S.rf
  have cut_46 : ∀ (n : Nat) (v4 v5 v6 : Int32) (z : Ms) (H : Heap) (locs : List Loc) (ls : Array Slot), mu v6 (((64 : Int32) * v4) + (z.2.1.1 v4.toNatClampNeg)) < n → M_M_line g x p0 p1 p2 = L_M_line_46 g p0 p1 p2 n v4 v5 v6 z → S_M_line_46 g p0 p1 p2 n v4 v5 v6 z → va_P D vwCl (wM cI cZ g z) H → va_D (Aw (wM cI cZ g x)) (wM cI cZ g z) → va_S (Aw (wM cI cZ g x)) s.heap H locs → lv_has ls 7 [(0, .ref g.1.1), (1, .int p0), (2, .int p1), (3, .int p2), (4, .int v4), (5, .int v5), (6, .int v6)] → W p l e (headSpec w_M_line rm_M_line).room s m ([.ref g.1.1, .int p0, .int p1, .int p2] : List Value).toArray below meth c H locs 0 0 (MQ below (va_Qi (fun (r : Int32) (u : Ms) => (r, u) = M_M_line g x p0 p1 p2) (fun (u : Ms) (t : State) => va_P D vwCl (wM cI cZ g u) t.heap) (Aw (wM cI cZ g x))) ([.ref g.1.1, .int p0, .int p1, .int p2] : List Value).toArray s 0 0 (Aw (wM cI cZ g x))) (F0 m 46 ls []) := by
    intro n
    induction n with
    | zero => intro v4 v5 v6 z H locs ls hm _ _ _ _ _ _; exact absurd hm (Nat.not_lt_zero _)
    | succ n ih =>
      intro v4 v5 v6 z H locs ls hm hF hs hP hD hS hl
      have hF := hF.trans (L_M_line_46_eq g p0 p1 p2 n v4 v5 v6 z)
      have hs := Eq.mp (S_M_line_46_eq g p0 p1 p2 n v4 v5 v6 z) hs
      refine lv_iload hx hb d_M_line_46 (lv_at hl 6 rfl) ?_
      refine lv_bipush (v := 64) hx hb d_M_line_48 (by decide) ?_
      refine lv_iload hx hb d_M_line_50 (lv_at hl 4 rfl) ?_
      refine lv_imul hx hb d_M_line_52 ?_
      refine lv_aload_n hx hb d_M_line_53 rfl (lv_at hl 0 rfl) ?_
      refine va_get (D := D) (ci := 3) (v := .ref g.1.2.1) (C := R_M) (T := T_M) (N := 20) hx hb htb i_M hown hK hP 0 rfl rfl 5 (by decide) (htb _ k_M_7) (fun _ h9 => h9) rfl d_M_line_54 ?_
      refine lv_iload hx hb d_M_line_57 (lv_at hl 4 rfl) ?_
      refine va_iald hx hb hK hP 1 0 rfl rfl hs.1 d_M_line_59 ?_
      have hs := hs.2
      refine lv_iadd hx hb d_M_line_60 ?_
      refine lv_icmp_ge (tgt := 104) hx hb d_M_line_61 (by decide) (fun c_61 => ?_) (fun c_61 => ?_)
      · have hF := hF.trans (if_pos c_61)
        have hs := hs.1 c_61
        refine lv_aload_n hx hb d_M_line_104 rfl (lv_at hl 0 rfl) ?_
        refine lv_iconst (v := 1) hx hb d_M_line_105 (by decide) ?_
        refine cwi (As := [.int (1 : Int32)]) (rest := []) (wldC := fun u => (wM cI cZ g u)) ⟨hx, hb, hml, hown, htb⟩ (c_M_fail l D cI cZ g hg z (1 : Int32)) (cwv (n := 1) htb cd_M_fail k_M_148 in_M_fail se_M_fail ini_M hd_M_fail ⟨Nat.le_of_ble_eq_true rfl, Nat.le_of_ble_eq_true rfl⟩) hK hP hD hS [0, 1, 2, 3, 4, 5, 6, 7, 8, 9, 10] [] [0, 1, 2, 3, 4, 5, 6, 7, 8, 9, 10] rfl rfl (by decide) (by decide) rfl (fun _ => rfl) (fun _ => rfl) (ci := 3) rfl rfl rfl hl.1 rfl (Nat.le_of_ble_eq_true rfl) d_M_line_106 ⟨Nat.zero_le _, Nat.zero_le _⟩ (fun r_106 u_106 H locs hw_106 hP hD hS => ?_)
        have hP : va_P D vwCl (wM cI cZ g u_106) H := hP
        have hD : va_D _ (wM cI cZ g u_106) := hD
        have hF := hF.trans (bnd2_eq hw_106)
        have hs := Eq.mp (bnd2_eq hw_106) hs
        exact W.iret (v := r_106) hx hb hr (fun t ht hW => ⟨⟨r_106, u_106, rfl, hF.symm, by dsimp only; rw [ht]; exact hP⟩, hS.F ht⟩) hS.2.2 d_M_line_109
      · have hF := hF.trans (if_neg c_61)
        have hs := hs.2 c_61
        refine lv_aload_n hx hb d_M_line_64 rfl (lv_at hl 0 rfl) ?_
        refine lv_iload hx hb d_M_line_65 (lv_at hl 4 rfl) ?_
        refine lv_aload_n hx hb d_M_line_67 rfl (lv_at hl 0 rfl) ?_
        refine va_get (D := D) (ci := 3) (v := .ref g.1.2.2.1) (C := R_M) (T := T_M) (N := 20) hx hb htb i_M hown hK hP 0 rfl rfl 6 (by decide) (htb _ k_M_13) (fun _ h9 => h9) rfl d_M_line_68 ?_
        refine lv_iload hx hb d_M_line_71 (lv_at hl 6 rfl) ?_
        refine va_iald hx hb hK hP 2 0 rfl rfl hs.1 d_M_line_73 ?_
        have hs := hs.2
        refine cpi (As := [.int v4, .int (z.2.1.2.1 v6.toNatClampNeg)]) (rest := []) ⟨hx, hb, hml, hown, htb⟩ (c_M_setOf l D cI cZ g hg z v4 (z.2.1.2.1 v6.toNatClampNeg) hs.1) (cwv (n := 2) htb cd_M_setOf k_M_89 in_M_setOf se_M_setOf ini_M hd_M_setOf ⟨Nat.le_of_ble_eq_true rfl, Nat.le_of_ble_eq_true rfl⟩) hK hP [0, 1, 2, 3, 4, 5, 6, 7, 8, 9, 10] rfl (ci := 3) rfl rfl rfl hl.1 rfl (Nat.le_of_ble_eq_true rfl) d_M_line_74 ⟨Nat.zero_le _, Nat.zero_le _⟩ (fun r_74 hw_74 => ?_)
        have hF := hF.trans (bnd_eq hw_74)
        have hs := Eq.mp (bnd_eq hw_74) hs.2
        refine lv_iload_n hx hb d_M_line_77 rfl (lv_at hl 2 rfl) ?_
        refine lv_icmp_ne (tgt := 98) hx hb d_M_line_78 (by decide) (fun c_78 => ?_) (fun c_78 => ?_)
        · have hF := hF.trans (if_neg c_78)
          have hs := hs.2 c_78
          refine lv_iinc (v := (v6 + 1)) (lv' := [(6, .int (v6 + 1)), (0, .ref g.1.1), (1, .int p0), (2, .int p1), (3, .int p2), (4, .int v4), (5, .int v5)]) hx hb d_M_line_98 hl (k := 6) rfl rfl (by decide) rfl (fun ls hl => ?_)
          refine lv_goto (tgt := 46) hx hb d_M_line_101 (by decide) ?_
          have hl := lv_sub (l' := [(0, .ref g.1.1), (1, .int p0), (2, .int p1), (3, .int p2), (4, .int v4), (5, .int v5), (6, .int (v6 + 1))]) hl [1, 2, 3, 4, 5, 6, 0] rfl
          exact ih v4 v5 (v6 + 1) z _ _ _ (Nat.lt_of_lt_of_le hs.1 (Nat.le_of_lt_succ hm)) hF hs.2 hP hD hS hl
        · have hF := hF.trans (if_pos c_78)
          have hs := hs.1 c_78
          refine lv_iload hx hb d_M_line_81 (lv_at hl 5 rfl) ?_
          refine lv_iload_n hx hb d_M_line_83 rfl (lv_at hl 3 rfl) ?_
          refine lv_icmp_ne (tgt := 95) hx hb d_M_line_84 (by decide) (fun c_84 => ?_) (fun c_84 => ?_)
          · have hF := hF.trans (if_neg c_84)
            have hs := hs.2 c_84
            refine lv_iinc (v := (v5 + 1)) (lv' := [(5, .int (v5 + 1)), (0, .ref g.1.1), (1, .int p0), (2, .int p1), (3, .int p2), (4, .int v4), (6, .int v6)]) hx hb d_M_line_95 hl (k := 5) rfl rfl (by decide) rfl (fun ls hl => ?_)
            refine lv_iinc (v := (v6 + 1)) (lv' := [(6, .int (v6 + 1)), (5, .int (v5 + 1)), (0, .ref g.1.1), (1, .int p0), (2, .int p1), (3, .int p2), (4, .int v4)]) hx hb d_M_line_98 hl (k := 6) rfl rfl (by decide) rfl (fun ls hl => ?_)
            refine lv_goto (tgt := 46) hx hb d_M_line_101 (by decide) ?_
            have hl := lv_sub (l' := [(0, .ref g.1.1), (1, .int p0), (2, .int p1), (3, .int p2), (4, .int v4), (5, .int (v5 + 1)), (6, .int (v6 + 1))]) hl [2, 3, 4, 5, 6, 1, 0] rfl
            exact ih v4 (v5 + 1) (v6 + 1) z _ _ _ (Nat.lt_of_lt_of_le hs.1 (Nat.le_of_lt_succ hm)) hF hs.2 hP hD hS hl
          · have hF := hF.trans (if_pos c_84)
            have hs := hs.1 c_84
            refine lv_aload_n hx hb d_M_line_87 rfl (lv_at hl 0 rfl) ?_
            refine va_get (D := D) (ci := 3) (v := .ref g.1.2.2.1) (C := R_M) (T := T_M) (N := 20) hx hb htb i_M hown hK hP 0 rfl rfl 6 (by decide) (htb _ k_M_13) (fun _ h9 => h9) rfl d_M_line_88 ?_
            refine lv_iload hx hb d_M_line_91 (lv_at hl 6 rfl) ?_
            refine va_iald hx hb hK hP 2 0 rfl rfl hs.1 d_M_line_93 ?_
            have hs := hs.2
            exact W.iret (v := (z.2.1.2.1 v6.toNatClampNeg)) hx hb hr (fun t ht hW => ⟨⟨(z.2.1.2.1 v6.toNatClampNeg), z, rfl, hF.symm, by dsimp only; rw [ht]; exact hP⟩, hS.F ht⟩) hS.2.2 d_M_line_94
  have hl := lv_entry ([.ref g.1.1, .int p0, .int p1, .int p2]) (n := 7) (Nat.le_of_ble_eq_true rfl)
  rw [lg_entry_eq]
  generalize (lg_sl ([.ref g.1.1, .int p0, .int p1, .int p2]) ++ List.replicate (7 - (lg_sl ([.ref g.1.1, .int p0, .int p1, .int p2])).length) Slot.unset).toArray = ls at hl ⊢
  have hl : lv_has ls 7 [(0, .ref g.1.1), (1, .int p0), (2, .int p1), (3, .int p2)] := hl
  have hF := M_M_line_eq g x p0 p1 p2
  have hs := Eq.mp (S_M_line_eq g x p0 p1 p2) hs
  refine lv_aload_n hx hb d_M_line_0 rfl (lv_at hl 0 rfl) ?_
  refine lv_iload_n hx hb d_M_line_1 rfl (lv_at hl 1 rfl) ?_
  refine cwi (As := [.int p0]) (rest := []) (wldC := fun u => (wM cI cZ g u)) ⟨hx, hb, hml, hown, htb⟩ (c_M_cacheOf l D cI cZ g hg x p0) (cwv (n := 1) htb cd_M_cacheOf k_M_160 in_M_cacheOf se_M_cacheOf ini_M hd_M_cacheOf ⟨Nat.le_of_ble_eq_true rfl, Nat.le_of_ble_eq_true rfl⟩) hK hP hD hS [0, 1, 2, 3, 4, 5, 6, 7, 8, 9, 10] [] [0, 1, 2, 3, 4, 5, 6, 7, 8, 9, 10] rfl rfl (by decide) (by decide) rfl (fun _ => rfl) (fun _ => rfl) (ci := 3) rfl rfl rfl hl.1 rfl (Nat.le_of_ble_eq_true rfl) d_M_line_2 ⟨Nat.zero_le _, Nat.zero_le _⟩ (fun r_2 u_2 H locs hw_2 hP hD hS => ?_)
  have hP : va_P D vwCl (wM cI cZ g u_2) H := hP
  have hD : va_D _ (wM cI cZ g u_2) := hD
  have hF := hF.trans (bnd2_eq hw_2)
  have hs := Eq.mp (bnd2_eq hw_2) hs
  refine lv_istore (lv' := [(4, .int r_2), (0, .ref g.1.1), (1, .int p0), (2, .int p1), (3, .int p2)]) hx hb d_M_line_5 hl (by decide) rfl (fun ls hl => ?_)
  refine lv_iload hx hb d_M_line_7 (lv_at hl 0 rfl) ?_
  refine lv_if_ge (tgt := 14) hx hb d_M_line_9 (by decide) (fun c_9 => ?_) (fun c_9 => ?_)
  · have hF := hF.trans (if_pos c_9)
    have hs := hs.1 c_9
    refine lv_iload_n hx hb d_M_line_14 rfl (lv_at hl 3 rfl) ?_
    refine lv_iconst (v := 0) hx hb d_M_line_15 (by decide) ?_
    refine lv_aload_n hx hb d_M_line_16 rfl (lv_at hl 1 rfl) ?_
    refine lv_iload hx hb d_M_line_17 (lv_at hl 0 rfl) ?_
    refine cpi (As := [.int r_2]) (rest := [.int (0 : Int32), .int p1]) ⟨hx, hb, hml, hown, htb⟩ (c_M_sets l D cI cZ g hg u_2 r_2) (cwv (n := 1) htb cd_M_sets k_M_75 in_M_sets se_M_sets ini_M hd_M_sets ⟨Nat.le_of_ble_eq_true rfl, Nat.le_of_ble_eq_true rfl⟩) hK hP [0, 1, 2, 3, 4, 5, 6, 7, 8, 9, 10] rfl (ci := 3) rfl rfl rfl hl.1 rfl (Nat.le_of_ble_eq_true rfl) d_M_line_19 ⟨Nat.zero_le _, Nat.zero_le _⟩ (fun r_19 hw_19 => ?_)
    have hF := hF.trans (bnd_eq hw_19)
    have hs := Eq.mp (bnd_eq hw_19) hs
    refine lv_iconst (v := 1) hx hb d_M_line_22 (by decide) ?_
    refine lv_isub hx hb d_M_line_23 ?_
    refine cps (As := [.int p1, .int (0 : Int32), .int (r_19 - (1 : Int32))]) (rest := []) ⟨hx, hb, hml, hown, htb⟩ (c_M_within l p1 (0 : Int32) (r_19 - (1 : Int32))) (cws (n := 3) htb cd_M_within k_M_64 st_M_within ini_M hd_M_within ⟨Nat.le_of_ble_eq_true rfl, Nat.le_of_ble_eq_true rfl⟩) rfl hl.1 rfl (Nat.le_of_ble_eq_true rfl) d_M_line_24 ⟨Nat.zero_le _, Nat.zero_le _⟩ (fun r_24 hw_24 => ?_)
    have hF := hF.trans (bnd_eq hw_24)
    have hs := Eq.mp (bnd_eq hw_24) hs
    refine lv_if_ne (tgt := 36) hx hb d_M_line_27 (by decide) (fun c_27 => ?_) (fun c_27 => ?_)
    · have hF := hF.trans (if_neg c_27)
      have hs := hs.2 c_27
      refine lv_iconst (v := 0) hx hb d_M_line_36 (by decide) ?_
      refine lv_istore (lv' := [(5, .int (0 : Int32)), (4, .int r_2), (0, .ref g.1.1), (1, .int p0), (2, .int p1), (3, .int p2)]) hx hb d_M_line_37 hl (by decide) rfl (fun ls hl => ?_)
      refine lv_bipush (v := 64) hx hb d_M_line_39 (by decide) ?_
      refine lv_iload hx hb d_M_line_41 (lv_at hl 1 rfl) ?_
      refine lv_imul hx hb d_M_line_43 ?_
      refine lv_istore (lv' := [(6, .int ((64 : Int32) * r_2)), (5, .int (0 : Int32)), (4, .int r_2), (0, .ref g.1.1), (1, .int p0), (2, .int p1), (3, .int p2)]) hx hb d_M_line_44 hl (by decide) rfl (fun ls hl => ?_)
      have hl := lv_sub (l' := [(0, .ref g.1.1), (1, .int p0), (2, .int p1), (3, .int p2), (4, .int r_2), (5, .int (0 : Int32)), (6, .int ((64 : Int32) * r_2))]) hl [3, 4, 5, 6, 2, 1, 0] rfl
      exact cut_46 (mu ((64 : Int32) * r_2) (((64 : Int32) * r_2) + (u_2.2.1.1 r_2.toNatClampNeg)) + 1) r_2 (0 : Int32) ((64 : Int32) * r_2) u_2 _ _ _ (Nat.lt_succ_self _) hF hs hP hD hS hl
    · have hF := hF.trans (if_pos c_27)
      have hs := hs.1 c_27
      refine lv_aload_n hx hb d_M_line_30 rfl (lv_at hl 1 rfl) ?_
      refine lv_iconst (v := 1) hx hb d_M_line_31 (by decide) ?_
      refine cwi (As := [.int (1 : Int32)]) (rest := []) (wldC := fun u => (wM cI cZ g u)) ⟨hx, hb, hml, hown, htb⟩ (c_M_fail l D cI cZ g hg u_2 (1 : Int32)) (cwv (n := 1) htb cd_M_fail k_M_148 in_M_fail se_M_fail ini_M hd_M_fail ⟨Nat.le_of_ble_eq_true rfl, Nat.le_of_ble_eq_true rfl⟩) hK hP hD hS [0, 1, 2, 3, 4, 5, 6, 7, 8, 9, 10] [] [0, 1, 2, 3, 4, 5, 6, 7, 8, 9, 10] rfl rfl (by decide) (by decide) rfl (fun _ => rfl) (fun _ => rfl) (ci := 3) rfl rfl rfl hl.1 rfl (Nat.le_of_ble_eq_true rfl) d_M_line_32 ⟨Nat.zero_le _, Nat.zero_le _⟩ (fun r_32 u_32 H locs hw_32 hP hD hS => ?_)
      have hP : va_P D vwCl (wM cI cZ g u_32) H := hP
      have hD : va_D _ (wM cI cZ g u_32) := hD
      have hF := hF.trans (bnd2_eq hw_32)
      have hs := Eq.mp (bnd2_eq hw_32) hs
      exact W.iret (v := r_32) hx hb hr (fun t ht hW => ⟨⟨r_32, u_32, rfl, hF.symm, by dsimp only; rw [ht]; exact hP⟩, hS.F ht⟩) hS.2.2 d_M_line_35
  · have hF := hF.trans (if_neg c_9)
    have hs := hs.2 c_9
    refine lv_iconst (v := 0) hx hb d_M_line_12 (by decide) ?_
    exact W.iret (v := (0 : Int32)) hx hb hr (fun t ht hW => ⟨⟨(0 : Int32), u_2, rfl, hF.symm, by dsimp only; rw [ht]; exact hP⟩, hS.F ht⟩) hS.2.2 d_M_line_13

def M_M_owner (g : GM) (x : Ms) (p0 : Int32) : Int32 × Ms := (bnd (M_M_at g (((0 : Int32), x.1.2.1, x.1.2.2.1, x.1.2.2.2.1, x.1.2.2.2.2.1, x.1.2.2.2.2.2), x.2.1, x.2.2.1, x.2.2.2.1, x.2.2.2.2) (4 : Int32) p0) (fun r_8 => (if 0 ≤ r_8 then ((x.2.1.2.2.2.2 r_8.toNatClampNeg), (((0 : Int32), x.1.2.1, x.1.2.2.1, x.1.2.2.2.1, x.1.2.2.2.2.1, x.1.2.2.2.2.2), x.2.1, x.2.2.1, x.2.2.2.1, x.2.2.2.2)) else ((-1 : Int32), (((0 : Int32), x.1.2.1, x.1.2.2.1, x.1.2.2.2.1, x.1.2.2.2.2.1, x.1.2.2.2.2.2), x.2.1, x.2.2.1, x.2.2.2.1, x.2.2.2.2)))))
theorem M_M_owner_eq (g : GM) (x : Ms) (p0 : Int32) : M_M_owner g x p0 = (bnd (M_M_at g (((0 : Int32), x.1.2.1, x.1.2.2.1, x.1.2.2.2.1, x.1.2.2.2.2.1, x.1.2.2.2.2.2), x.2.1, x.2.2.1, x.2.2.2.1, x.2.2.2.2) (4 : Int32) p0) (fun r_8 => (if 0 ≤ r_8 then ((x.2.1.2.2.2.2 r_8.toNatClampNeg), (((0 : Int32), x.1.2.1, x.1.2.2.1, x.1.2.2.2.1, x.1.2.2.2.2.1, x.1.2.2.2.2.2), x.2.1, x.2.2.1, x.2.2.2.1, x.2.2.2.2)) else ((-1 : Int32), (((0 : Int32), x.1.2.1, x.1.2.2.1, x.1.2.2.2.1, x.1.2.2.2.2.1, x.1.2.2.2.2.2), x.2.1, x.2.2.1, x.2.2.2.1, x.2.2.2.2))))) := rfl
def S_M_owner (g : GM) (x : Ms) (p0 : Int32) : Prop := (S_M_at g (((0 : Int32), x.1.2.1, x.1.2.2.1, x.1.2.2.2.1, x.1.2.2.2.2.1, x.1.2.2.2.2.2), x.2.1, x.2.2.1, x.2.2.2.1, x.2.2.2.2) (4 : Int32) p0 ∧ (bnd (M_M_at g (((0 : Int32), x.1.2.1, x.1.2.2.1, x.1.2.2.2.1, x.1.2.2.2.2.1, x.1.2.2.2.2.2), x.2.1, x.2.2.1, x.2.2.2.1, x.2.2.2.2) (4 : Int32) p0) (fun r_8 => ((0 ≤ r_8 → (vp_in r_8 320 ∧ True)) ∧ (¬ 0 ≤ r_8 → True)))))
theorem S_M_owner_eq (g : GM) (x : Ms) (p0 : Int32) : S_M_owner g x p0 = (S_M_at g (((0 : Int32), x.1.2.1, x.1.2.2.1, x.1.2.2.2.1, x.1.2.2.2.2.1, x.1.2.2.2.2.2), x.2.1, x.2.2.1, x.2.2.2.1, x.2.2.2.2) (4 : Int32) p0 ∧ (bnd (M_M_at g (((0 : Int32), x.1.2.1, x.1.2.2.1, x.1.2.2.2.1, x.1.2.2.2.2.1, x.1.2.2.2.2.2), x.2.1, x.2.2.1, x.2.2.2.1, x.2.2.2.2) (4 : Int32) p0) (fun r_8 => ((0 ≤ r_8 → (vp_in r_8 320 ∧ True)) ∧ (¬ 0 ≤ r_8 → True))))) := rfl
abbrev w_M_owner : List Cond := .code y_M_owner b_M_owner 3 (some .int) :: tbW
abbrev rm_M_owner : Room := { frames := 1, cells := 0, slots := 0, locals := 23 }
set_option maxHeartbeats 4000000 in
set_option maxRecDepth 100000 in
theorem c_M_owner (l : Launch) (D : va_G) (cI cZ : ClassId) (g : GM) (hg : okM g) (x : Ms) (p0 : Int32) (hs : S_M_owner g x p0) : Met l y_M_owner w_M_owner rm_M_owner (PcW D vwCl (tyK cI cZ) [.ref g.1.1, .int p0] (wM cI cZ g x)) (va_Qi (fun (r : Int32) (u : Ms) => (r, u) = M_M_owner g x p0) (fun (u : Ms) (t : State) => va_P D vwCl (wM cI cZ g u) t.heap) (Aw (wM cI cZ g x))) 0 0 (Aw (wM cI cZ g x)) := by
  refine Met.ofW (cc := b_M_owner) (maxL := 3) (ret := (some .int)) (by decide) rfl ?_
  intro p e s m args below meth c s₁ B hml hv
  obtain ⟨rfl, hP, hK, hD0⟩ := hv
  have hx := B.exec
  have hb := B.bytes
  have hr := B.returns
  have htb : ∀ w ∈ tbW, w.before _ s = true := fun w h => atoms_spec (ws := w_M_owner) B.pre w (List.mem_cons_of_mem _ h)
  have hown : s.vm.findClass R_M = some m.cls := findClass_of_methodNamed B.named
  have hlocks := B.notSynchronized
  have hD : va_D (Aw (wM cI cZ g x)) (wM cI cZ g x) := ⟨hD0.1, fun k q hk => ⟨k, q.2, hk⟩⟩
  have hS : va_S (Aw (wM cI cZ g x)) s.heap s.heap [] := va_S.rf
  have hl := lv_entry ([.ref g.1.1, .int p0]) (n := 3) (Nat.le_of_ble_eq_true rfl)
  rw [lg_entry_eq]
  generalize (lg_sl ([.ref g.1.1, .int p0]) ++ List.replicate (3 - (lg_sl ([.ref g.1.1, .int p0])).length) Slot.unset).toArray = ls at hl ⊢
  have hl : lv_has ls 3 [(0, .ref g.1.1), (1, .int p0)] := hl
  have hF := M_M_owner_eq g x p0
  have hs := Eq.mp (S_M_owner_eq g x p0) hs
  refine lv_aload_n hx hb d_M_owner_0 rfl (lv_at hl 0 rfl) ?_
  refine lv_iconst (v := 0) hx hb d_M_owner_1 (by decide) ?_
  refine va_put (D := D) (ci := 3) (v := .int (0 : Int32)) (ty := .int) (C := R_M) (T := T_M) (N := 20) hx hb htb i_M ty_M tyo_M nm_M hown hK hP hD hS 0 rfl rfl 0 (by decide) (htb _ k_M_61) (fun _ h9 => h9) rfl (by decide +kernel) rfl rfl (Nat.le_of_ble_eq_true rfl) d_M_owner_2 (fun H locs hP hD hS => ?_)
  have hP : va_P D vwCl (wM cI cZ g (((0 : Int32), x.1.2.1, x.1.2.2.1, x.1.2.2.2.1, x.1.2.2.2.2.1, x.1.2.2.2.2.2), x.2.1, x.2.2.1, x.2.2.2.1, x.2.2.2.2)) H := hP
  have hD : va_D _ (wM cI cZ g (((0 : Int32), x.1.2.1, x.1.2.2.1, x.1.2.2.2.1, x.1.2.2.2.2.1, x.1.2.2.2.2.2), x.2.1, x.2.2.1, x.2.2.2.1, x.2.2.2.2)) := hD
  refine lv_aload_n hx hb d_M_owner_5 rfl (lv_at hl 0 rfl) ?_
  refine lv_iconst (v := 4) hx hb d_M_owner_6 (by decide) ?_
  refine lv_iload_n hx hb d_M_owner_7 rfl (lv_at hl 1 rfl) ?_
  refine cpi (As := [.int (4 : Int32), .int p0]) (rest := []) ⟨hx, hb, hml, hown, htb⟩ (c_M_at l D cI cZ g hg (((0 : Int32), x.1.2.1, x.1.2.2.1, x.1.2.2.2.1, x.1.2.2.2.2.1, x.1.2.2.2.2.2), x.2.1, x.2.2.1, x.2.2.2.1, x.2.2.2.2) (4 : Int32) p0 hs.1) (cwv (n := 2) htb cd_M_at k_M_98 in_M_at se_M_at ini_M hd_M_at ⟨Nat.le_of_ble_eq_true rfl, Nat.le_of_ble_eq_true rfl⟩) hK hP [0, 1, 2, 3, 4, 5, 6, 7, 8, 9, 10] rfl (ci := 3) rfl rfl rfl hl.1 rfl (Nat.le_of_ble_eq_true rfl) d_M_owner_8 ⟨Nat.zero_le _, Nat.zero_le _⟩ (fun r_8 hw_8 => ?_)
  have hF := hF.trans (bnd_eq hw_8)
  have hs := Eq.mp (bnd_eq hw_8) hs.2
  refine lv_istore_n (lv' := [(2, .int r_8), (0, .ref g.1.1), (1, .int p0)]) hx hb d_M_owner_11 rfl hl (by decide) rfl (fun ls hl => ?_)
  refine lv_iload_n hx hb d_M_owner_12 rfl (lv_at hl 0 rfl) ?_
  refine lv_if_ge (tgt := 20) hx hb d_M_owner_13 (by decide) (fun c_13 => ?_) (fun c_13 => ?_)
  · have hF := hF.trans (if_pos c_13)
    have hs := hs.1 c_13
    refine lv_aload_n hx hb d_M_owner_20 rfl (lv_at hl 1 rfl) ?_
    refine va_get (D := D) (ci := 3) (v := .ref g.1.2.2.2.2.2.1) (C := R_M) (T := T_M) (N := 20) hx hb htb i_M hown hK hP 0 rfl rfl 9 (by decide) (htb _ k_M_23) (fun _ h9 => h9) rfl d_M_owner_21 ?_
    refine lv_iload_n hx hb d_M_owner_24 rfl (lv_at hl 0 rfl) ?_
    refine va_iald hx hb hK hP 5 0 rfl rfl hs.1 d_M_owner_25 ?_
    have hs := hs.2
    exact W.iret (v := (x.2.1.2.2.2.2 r_8.toNatClampNeg)) hx hb hr (fun t ht hW => ⟨⟨(x.2.1.2.2.2.2 r_8.toNatClampNeg), (((0 : Int32), x.1.2.1, x.1.2.2.1, x.1.2.2.2.1, x.1.2.2.2.2.1, x.1.2.2.2.2.2), x.2.1, x.2.2.1, x.2.2.2.1, x.2.2.2.2), rfl, hF.symm, by dsimp only; rw [ht]; exact hP⟩, hS.F ht⟩) hS.2.2 d_M_owner_26
  · have hF := hF.trans (if_neg c_13)
    have hs := hs.2 c_13
    refine lv_iconst (v := -1) hx hb d_M_owner_16 (by decide) ?_
    refine lv_goto (tgt := 26) hx hb d_M_owner_17 (by decide) ?_
    exact W.iret (v := (-1 : Int32)) hx hb hr (fun t ht hW => ⟨⟨(-1 : Int32), (((0 : Int32), x.1.2.1, x.1.2.2.1, x.1.2.2.2.1, x.1.2.2.2.2.1, x.1.2.2.2.2.2), x.2.1, x.2.2.1, x.2.2.2.1, x.2.2.2.2), rfl, hF.symm, by dsimp only; rw [ht]; exact hP⟩, hS.F ht⟩) hS.2.2 d_M_owner_26

def L_M_directory_9 (g : GM) (p0 : Int32) : Nat → Int32 → Int32 → Ms → Int32 × Ms
  | 0, _, _, z => (0, z)
  | n + 1, v2, v3, z => (if g.2.1 ≤ v3 then (v2, z) else (bnd (M_M_at g z v3 p0) (fun r_20 => (if r_20 < 0 then L_M_directory_9 g p0 n v2 (v3 + 1) z else L_M_directory_9 g p0 n (v2 ||| ((1 : Int32) <<< (v3 &&& 31))) (v3 + 1) z))))
theorem L_M_directory_9_eq (g : GM) (p0 : Int32) (n : Nat) (v2 v3 : Int32) (z : Ms) : L_M_directory_9 g p0 (n + 1) v2 v3 z = (if g.2.1 ≤ v3 then (v2, z) else (bnd (M_M_at g z v3 p0) (fun r_20 => (if r_20 < 0 then L_M_directory_9 g p0 n v2 (v3 + 1) z else L_M_directory_9 g p0 n (v2 ||| ((1 : Int32) <<< (v3 &&& 31))) (v3 + 1) z)))) := by first | rfl | rw [L_M_directory_9]
def S_M_directory_9 (g : GM) (p0 : Int32) : Nat → Int32 → Int32 → Ms → Prop
  | 0, _, _, _ => True
  | n + 1, v2, v3, z => ((g.2.1 ≤ v3 → True) ∧ (¬ g.2.1 ≤ v3 → (S_M_at g z v3 p0 ∧ (bnd (M_M_at g z v3 p0) (fun r_20 => ((r_20 < 0 → (mu (v3 + 1) g.2.1 < mu v3 g.2.1 ∧ S_M_directory_9 g p0 n v2 (v3 + 1) z)) ∧ (¬ r_20 < 0 → (mu (v3 + 1) g.2.1 < mu v3 g.2.1 ∧ S_M_directory_9 g p0 n (v2 ||| ((1 : Int32) <<< (v3 &&& 31))) (v3 + 1) z))))))))
theorem S_M_directory_9_eq (g : GM) (p0 : Int32) (n : Nat) (v2 v3 : Int32) (z : Ms) : S_M_directory_9 g p0 (n + 1) v2 v3 z = ((g.2.1 ≤ v3 → True) ∧ (¬ g.2.1 ≤ v3 → (S_M_at g z v3 p0 ∧ (bnd (M_M_at g z v3 p0) (fun r_20 => ((r_20 < 0 → (mu (v3 + 1) g.2.1 < mu v3 g.2.1 ∧ S_M_directory_9 g p0 n v2 (v3 + 1) z)) ∧ (¬ r_20 < 0 → (mu (v3 + 1) g.2.1 < mu v3 g.2.1 ∧ S_M_directory_9 g p0 n (v2 ||| ((1 : Int32) <<< (v3 &&& 31))) (v3 + 1) z)))))))) := by first | rfl | rw [S_M_directory_9]
def M_M_directory (g : GM) (x : Ms) (p0 : Int32) : Int32 × Ms := L_M_directory_9 g p0 (mu (0 : Int32) g.2.1 + 1) (0 : Int32) (0 : Int32) (((0 : Int32), x.1.2.1, x.1.2.2.1, x.1.2.2.2.1, x.1.2.2.2.2.1, x.1.2.2.2.2.2), x.2.1, x.2.2.1, x.2.2.2.1, x.2.2.2.2)
theorem M_M_directory_eq (g : GM) (x : Ms) (p0 : Int32) : M_M_directory g x p0 = L_M_directory_9 g p0 (mu (0 : Int32) g.2.1 + 1) (0 : Int32) (0 : Int32) (((0 : Int32), x.1.2.1, x.1.2.2.1, x.1.2.2.2.1, x.1.2.2.2.2.1, x.1.2.2.2.2.2), x.2.1, x.2.2.1, x.2.2.2.1, x.2.2.2.2) := rfl
def S_M_directory (g : GM) (x : Ms) (p0 : Int32) : Prop := S_M_directory_9 g p0 (mu (0 : Int32) g.2.1 + 1) (0 : Int32) (0 : Int32) (((0 : Int32), x.1.2.1, x.1.2.2.1, x.1.2.2.2.1, x.1.2.2.2.2.1, x.1.2.2.2.2.2), x.2.1, x.2.2.1, x.2.2.2.1, x.2.2.2.2)
theorem S_M_directory_eq (g : GM) (x : Ms) (p0 : Int32) : S_M_directory g x p0 = S_M_directory_9 g p0 (mu (0 : Int32) g.2.1 + 1) (0 : Int32) (0 : Int32) (((0 : Int32), x.1.2.1, x.1.2.2.1, x.1.2.2.2.1, x.1.2.2.2.2.1, x.1.2.2.2.2.2), x.2.1, x.2.2.1, x.2.2.2.1, x.2.2.2.2) := rfl
abbrev w_M_directory : List Cond := .code y_M_directory b_M_directory 4 (some .int) :: tbW
abbrev rm_M_directory : Room := { frames := 1, cells := 0, slots := 0, locals := 23 }
set_option maxHeartbeats 4000000 in
set_option maxRecDepth 100000 in
theorem c_M_directory (l : Launch) (D : va_G) (cI cZ : ClassId) (g : GM) (hg : okM g) (x : Ms) (p0 : Int32) (hs : S_M_directory g x p0) : Met l y_M_directory w_M_directory rm_M_directory (PcW D vwCl (tyK cI cZ) [.ref g.1.1, .int p0] (wM cI cZ g x)) (va_Qi (fun (r : Int32) (u : Ms) => (r, u) = M_M_directory g x p0) (fun (u : Ms) (t : State) => va_P D vwCl (wM cI cZ g u) t.heap) (Aw (wM cI cZ g x))) 0 0 (Aw (wM cI cZ g x)) := by
  refine Met.ofW (cc := b_M_directory) (maxL := 4) (ret := (some .int)) (by decide) rfl ?_
  intro p e s m args below meth c s₁ B hml hv
  obtain ⟨rfl, hP, hK, hD0⟩ := hv
  have hx := B.exec
  have hb := B.bytes
  have hr := B.returns
  have htb : ∀ w ∈ tbW, w.before _ s = true := fun w h => atoms_spec (ws := w_M_directory) B.pre w (List.mem_cons_of_mem _ h)
  have hown : s.vm.findClass R_M = some m.cls := findClass_of_methodNamed B.named
  have hlocks := B.notSynchronized
  have hD : va_D (Aw (wM cI cZ g x)) (wM cI cZ g x) := ⟨hD0.1, fun k q hk => ⟨k, q.2, hk⟩⟩
  have hS : va_S (Aw (wM cI cZ g x)) s.heap s.heap [] := va_S.rf
  have cut_9 : ∀ (n : Nat) (v2 v3 : Int32) (z : Ms) (H : Heap) (locs : List Loc) (ls : Array Slot), mu v3 g.2.1 < n → M_M_directory g x p0 = L_M_directory_9 g p0 n v2 v3 z → S_M_directory_9 g p0 n v2 v3 z → va_P D vwCl (wM cI cZ g z) H → va_D (Aw (wM cI cZ g x)) (wM cI cZ g z) → va_S (Aw (wM cI cZ g x)) s.heap H locs → lv_has ls 4 [(0, .ref g.1.1), (1, .int p0), (2, .int v2), (3, .int v3)] → W p l e (headSpec w_M_directory rm_M_directory).room s m ([.ref g.1.1, .int p0] : List Value).toArray below meth c H locs 0 0 (MQ below (va_Qi (fun (r : Int32) (u : Ms) => (r, u) = M_M_directory g x p0) (fun (u : Ms) (t : State) => va_P D vwCl (wM cI cZ g u) t.heap) (Aw (wM cI cZ g x))) ([.ref g.1.1, .int p0] : List Value).toArray s 0 0 (Aw (wM cI cZ g x))) (F0 m 9 ls []) := by
    intro n
    induction n with
    | zero => intro v2 v3 z H locs ls hm _ _ _ _ _ _; exact absurd hm (Nat.not_lt_zero _)
    | succ n ih =>
      intro v2 v3 z H locs ls hm hF hs hP hD hS hl
      have hF := hF.trans (L_M_directory_9_eq g p0 n v2 v3 z)
      have hs := Eq.mp (S_M_directory_9_eq g p0 n v2 v3 z) hs
      refine lv_iload_n hx hb d_M_directory_9 rfl (lv_at hl 3 rfl) ?_
      refine lv_aload_n hx hb d_M_directory_10 rfl (lv_at hl 0 rfl) ?_
      refine va_get (D := D) (ci := 3) (v := .int g.2.1) (C := R_M) (T := T_M) (N := 20) hx hb htb i_M hown hK hP 0 rfl rfl 1 (by decide) (htb _ k_M_45) (fun _ h9 => h9) rfl d_M_directory_11 ?_
      refine lv_icmp_ge (tgt := 42) hx hb d_M_directory_14 (by decide) (fun c_14 => ?_) (fun c_14 => ?_)
      · have hF := hF.trans (if_pos c_14)
        have hs := hs.1 c_14
        refine lv_iload_n hx hb d_M_directory_42 rfl (lv_at hl 2 rfl) ?_
        exact W.iret (v := v2) hx hb hr (fun t ht hW => ⟨⟨v2, z, rfl, hF.symm, by dsimp only; rw [ht]; exact hP⟩, hS.F ht⟩) hS.2.2 d_M_directory_43
      · have hF := hF.trans (if_neg c_14)
        have hs := hs.2 c_14
        refine lv_aload_n hx hb d_M_directory_17 rfl (lv_at hl 0 rfl) ?_
        refine lv_iload_n hx hb d_M_directory_18 rfl (lv_at hl 3 rfl) ?_
        refine lv_iload_n hx hb d_M_directory_19 rfl (lv_at hl 1 rfl) ?_
        refine cpi (As := [.int v3, .int p0]) (rest := []) ⟨hx, hb, hml, hown, htb⟩ (c_M_at l D cI cZ g hg z v3 p0 hs.1) (cwv (n := 2) htb cd_M_at k_M_98 in_M_at se_M_at ini_M hd_M_at ⟨Nat.le_of_ble_eq_true rfl, Nat.le_of_ble_eq_true rfl⟩) hK hP [0, 1, 2, 3, 4, 5, 6, 7, 8, 9, 10] rfl (ci := 3) rfl rfl rfl hl.1 rfl (Nat.le_of_ble_eq_true rfl) d_M_directory_20 ⟨Nat.zero_le _, Nat.zero_le _⟩ (fun r_20 hw_20 => ?_)
        have hF := hF.trans (bnd_eq hw_20)
        have hs := Eq.mp (bnd_eq hw_20) hs.2
        refine lv_if_lt (tgt := 34) hx hb d_M_directory_23 (by decide) (fun c_23 => ?_) (fun c_23 => ?_)
        · have hF := hF.trans (if_pos c_23)
          have hs := hs.1 c_23
          refine lv_iload_n hx hb d_M_directory_34 rfl (lv_at hl 2 rfl) ?_
          refine lv_istore_n (lv' := [(2, .int v2), (0, .ref g.1.1), (1, .int p0), (3, .int v3)]) hx hb d_M_directory_35 rfl hl (by decide) rfl (fun ls hl => ?_)
          refine lv_iinc (v := (v3 + 1)) (lv' := [(3, .int (v3 + 1)), (2, .int v2), (0, .ref g.1.1), (1, .int p0)]) hx hb d_M_directory_36 hl (k := 3) rfl rfl (by decide) rfl (fun ls hl => ?_)
          refine lv_goto (tgt := 9) hx hb d_M_directory_39 (by decide) ?_
          have hl := lv_sub (l' := [(0, .ref g.1.1), (1, .int p0), (2, .int v2), (3, .int (v3 + 1))]) hl [2, 3, 1, 0] rfl
          exact ih v2 (v3 + 1) z _ _ _ (Nat.lt_of_lt_of_le hs.1 (Nat.le_of_lt_succ hm)) hF hs.2 hP hD hS hl
        · have hF := hF.trans (if_neg c_23)
          have hs := hs.2 c_23
          refine lv_iload_n hx hb d_M_directory_26 rfl (lv_at hl 2 rfl) ?_
          refine lv_iconst (v := 1) hx hb d_M_directory_27 (by decide) ?_
          refine lv_iload_n hx hb d_M_directory_28 rfl (lv_at hl 3 rfl) ?_
          refine lv_ishl hx hb d_M_directory_29 ?_
          refine lv_ior hx hb d_M_directory_30 ?_
          refine lv_goto (tgt := 35) hx hb d_M_directory_31 (by decide) ?_
          refine lv_istore_n (lv' := [(2, .int (v2 ||| ((1 : Int32) <<< (v3 &&& 31)))), (0, .ref g.1.1), (1, .int p0), (3, .int v3)]) hx hb d_M_directory_35 rfl hl (by decide) rfl (fun ls hl => ?_)
          refine lv_iinc (v := (v3 + 1)) (lv' := [(3, .int (v3 + 1)), (2, .int (v2 ||| ((1 : Int32) <<< (v3 &&& 31)))), (0, .ref g.1.1), (1, .int p0)]) hx hb d_M_directory_36 hl (k := 3) rfl rfl (by decide) rfl (fun ls hl => ?_)
          refine lv_goto (tgt := 9) hx hb d_M_directory_39 (by decide) ?_
          have hl := lv_sub (l' := [(0, .ref g.1.1), (1, .int p0), (2, .int (v2 ||| ((1 : Int32) <<< (v3 &&& 31)))), (3, .int (v3 + 1))]) hl [2, 3, 1, 0] rfl
          exact ih (v2 ||| ((1 : Int32) <<< (v3 &&& 31))) (v3 + 1) z _ _ _ (Nat.lt_of_lt_of_le hs.1 (Nat.le_of_lt_succ hm)) hF hs.2 hP hD hS hl
  have hl := lv_entry ([.ref g.1.1, .int p0]) (n := 4) (Nat.le_of_ble_eq_true rfl)
  rw [lg_entry_eq]
  generalize (lg_sl ([.ref g.1.1, .int p0]) ++ List.replicate (4 - (lg_sl ([.ref g.1.1, .int p0])).length) Slot.unset).toArray = ls at hl ⊢
  have hl : lv_has ls 4 [(0, .ref g.1.1), (1, .int p0)] := hl
  have hF := M_M_directory_eq g x p0
  have hs := Eq.mp (S_M_directory_eq g x p0) hs
  refine lv_aload_n hx hb d_M_directory_0 rfl (lv_at hl 0 rfl) ?_
  refine lv_iconst (v := 0) hx hb d_M_directory_1 (by decide) ?_
  refine va_put (D := D) (ci := 3) (v := .int (0 : Int32)) (ty := .int) (C := R_M) (T := T_M) (N := 20) hx hb htb i_M ty_M tyo_M nm_M hown hK hP hD hS 0 rfl rfl 0 (by decide) (htb _ k_M_61) (fun _ h9 => h9) rfl (by decide +kernel) rfl rfl (Nat.le_of_ble_eq_true rfl) d_M_directory_2 (fun H locs hP hD hS => ?_)
  have hP : va_P D vwCl (wM cI cZ g (((0 : Int32), x.1.2.1, x.1.2.2.1, x.1.2.2.2.1, x.1.2.2.2.2.1, x.1.2.2.2.2.2), x.2.1, x.2.2.1, x.2.2.2.1, x.2.2.2.2)) H := hP
  have hD : va_D _ (wM cI cZ g (((0 : Int32), x.1.2.1, x.1.2.2.1, x.1.2.2.2.1, x.1.2.2.2.2.1, x.1.2.2.2.2.2), x.2.1, x.2.2.1, x.2.2.2.1, x.2.2.2.2)) := hD
  refine lv_iconst (v := 0) hx hb d_M_directory_5 (by decide) ?_
  refine lv_istore_n (lv' := [(2, .int (0 : Int32)), (0, .ref g.1.1), (1, .int p0)]) hx hb d_M_directory_6 rfl hl (by decide) rfl (fun ls hl => ?_)
  refine lv_iconst (v := 0) hx hb d_M_directory_7 (by decide) ?_
  refine lv_istore_n (lv' := [(3, .int (0 : Int32)), (2, .int (0 : Int32)), (0, .ref g.1.1), (1, .int p0)]) hx hb d_M_directory_8 rfl hl (by decide) rfl (fun ls hl => ?_)
  have hl := lv_sub (l' := [(0, .ref g.1.1), (1, .int p0), (2, .int (0 : Int32)), (3, .int (0 : Int32))]) hl [2, 3, 1, 0] rfl
  exact cut_9 (mu (0 : Int32) g.2.1 + 1) (0 : Int32) (0 : Int32) (((0 : Int32), x.1.2.1, x.1.2.2.1, x.1.2.2.2.1, x.1.2.2.2.2.1, x.1.2.2.2.2.2), x.2.1, x.2.2.1, x.2.2.2.1, x.2.2.2.2) _ _ _ (Nat.lt_succ_self _) hF hs hP hD hS hl

def L_M_core_51 (g : GM) (p0 p1 : Int32) : Nat → Int32 → Int32 → Ms → Int32 × Ms
  | 0, _, _, z => (0, z)
  | n + 1, v3, v4, z => (if ((256 : Int32) + (z.2.1.1 (4 : Int32).toNatClampNeg)) ≤ v4 then (v3, z) else (if (z.2.1.2.2.2.2 v4.toNatClampNeg) = p0 then L_M_core_51 g p0 p1 n (v3 + (1 : Int32)) (v4 + 1) z else L_M_core_51 g p0 p1 n (v3 + (0 : Int32)) (v4 + 1) z))
theorem L_M_core_51_eq (g : GM) (p0 p1 : Int32) (n : Nat) (v3 v4 : Int32) (z : Ms) : L_M_core_51 g p0 p1 (n + 1) v3 v4 z = (if ((256 : Int32) + (z.2.1.1 (4 : Int32).toNatClampNeg)) ≤ v4 then (v3, z) else (if (z.2.1.2.2.2.2 v4.toNatClampNeg) = p0 then L_M_core_51 g p0 p1 n (v3 + (1 : Int32)) (v4 + 1) z else L_M_core_51 g p0 p1 n (v3 + (0 : Int32)) (v4 + 1) z)) := by first | rfl | rw [L_M_core_51]
def S_M_core_51 (g : GM) (p0 p1 : Int32) : Nat → Int32 → Int32 → Ms → Prop
  | 0, _, _, _ => True
  | n + 1, v3, v4, z => (vp_in (4 : Int32) 5 ∧ ((((256 : Int32) + (z.2.1.1 (4 : Int32).toNatClampNeg)) ≤ v4 → True) ∧ (¬ ((256 : Int32) + (z.2.1.1 (4 : Int32).toNatClampNeg)) ≤ v4 → (vp_in v4 320 ∧ (((z.2.1.2.2.2.2 v4.toNatClampNeg) = p0 → (mu (v4 + 1) ((256 : Int32) + (z.2.1.1 (4 : Int32).toNatClampNeg)) < mu v4 ((256 : Int32) + (z.2.1.1 (4 : Int32).toNatClampNeg)) ∧ S_M_core_51 g p0 p1 n (v3 + (1 : Int32)) (v4 + 1) z)) ∧ (¬ (z.2.1.2.2.2.2 v4.toNatClampNeg) = p0 → (mu (v4 + 1) ((256 : Int32) + (z.2.1.1 (4 : Int32).toNatClampNeg)) < mu v4 ((256 : Int32) + (z.2.1.1 (4 : Int32).toNatClampNeg)) ∧ S_M_core_51 g p0 p1 n (v3 + (0 : Int32)) (v4 + 1) z)))))))
theorem S_M_core_51_eq (g : GM) (p0 p1 : Int32) (n : Nat) (v3 v4 : Int32) (z : Ms) : S_M_core_51 g p0 p1 (n + 1) v3 v4 z = (vp_in (4 : Int32) 5 ∧ ((((256 : Int32) + (z.2.1.1 (4 : Int32).toNatClampNeg)) ≤ v4 → True) ∧ (¬ ((256 : Int32) + (z.2.1.1 (4 : Int32).toNatClampNeg)) ≤ v4 → (vp_in v4 320 ∧ (((z.2.1.2.2.2.2 v4.toNatClampNeg) = p0 → (mu (v4 + 1) ((256 : Int32) + (z.2.1.1 (4 : Int32).toNatClampNeg)) < mu v4 ((256 : Int32) + (z.2.1.1 (4 : Int32).toNatClampNeg)) ∧ S_M_core_51 g p0 p1 n (v3 + (1 : Int32)) (v4 + 1) z)) ∧ (¬ (z.2.1.2.2.2.2 v4.toNatClampNeg) = p0 → (mu (v4 + 1) ((256 : Int32) + (z.2.1.1 (4 : Int32).toNatClampNeg)) < mu v4 ((256 : Int32) + (z.2.1.1 (4 : Int32).toNatClampNeg)) ∧ S_M_core_51 g p0 p1 n (v3 + (0 : Int32)) (v4 + 1) z))))))) := by first | rfl | rw [S_M_core_51]
def M_M_core (g : GM) (x : Ms) (p0 p1 : Int32) : Int32 × Ms := (bnd2 (M_M_isCore g x p0) (fun r_2 u_2 => (if r_2 = 0 then ((0 : Int32), u_2) else (bnd (M_M_within p1 (0 : Int32) (7 : Int32)) (fun r_14 => (if r_14 = 0 then (bnd2 (M_M_fail g u_2 (1 : Int32)) (fun r_22 u_22 => (r_22, u_22))) else (if (7 : Int32) ≤ p1 then L_M_core_51 g p0 p1 (mu (256 : Int32) ((256 : Int32) + (u_2.2.1.1 (4 : Int32).toNatClampNeg)) + 1) (0 : Int32) (256 : Int32) u_2 else ((u_2.2.2.2.2 (((7 : Int32) * p0) + p1).toNatClampNeg), u_2))))))))
theorem M_M_core_eq (g : GM) (x : Ms) (p0 p1 : Int32) : M_M_core g x p0 p1 = (bnd2 (M_M_isCore g x p0) (fun r_2 u_2 => (if r_2 = 0 then ((0 : Int32), u_2) else (bnd (M_M_within p1 (0 : Int32) (7 : Int32)) (fun r_14 => (if r_14 = 0 then (bnd2 (M_M_fail g u_2 (1 : Int32)) (fun r_22 u_22 => (r_22, u_22))) else (if (7 : Int32) ≤ p1 then L_M_core_51 g p0 p1 (mu (256 : Int32) ((256 : Int32) + (u_2.2.1.1 (4 : Int32).toNatClampNeg)) + 1) (0 : Int32) (256 : Int32) u_2 else ((u_2.2.2.2.2 (((7 : Int32) * p0) + p1).toNatClampNeg), u_2)))))))) := rfl
def S_M_core (g : GM) (x : Ms) (p0 p1 : Int32) : Prop := (bnd2 (M_M_isCore g x p0) (fun r_2 u_2 => ((r_2 = 0 → True) ∧ (¬ r_2 = 0 → (bnd (M_M_within p1 (0 : Int32) (7 : Int32)) (fun r_14 => ((r_14 = 0 → (bnd2 (M_M_fail g u_2 (1 : Int32)) (fun r_22 u_22 => True))) ∧ (¬ r_14 = 0 → (((7 : Int32) ≤ p1 → S_M_core_51 g p0 p1 (mu (256 : Int32) ((256 : Int32) + (u_2.2.1.1 (4 : Int32).toNatClampNeg)) + 1) (0 : Int32) (256 : Int32) u_2) ∧ (¬ (7 : Int32) ≤ p1 → (vp_in (((7 : Int32) * p0) + p1) 28 ∧ True)))))))))))
theorem S_M_core_eq (g : GM) (x : Ms) (p0 p1 : Int32) : S_M_core g x p0 p1 = (bnd2 (M_M_isCore g x p0) (fun r_2 u_2 => ((r_2 = 0 → True) ∧ (¬ r_2 = 0 → (bnd (M_M_within p1 (0 : Int32) (7 : Int32)) (fun r_14 => ((r_14 = 0 → (bnd2 (M_M_fail g u_2 (1 : Int32)) (fun r_22 u_22 => True))) ∧ (¬ r_14 = 0 → (((7 : Int32) ≤ p1 → S_M_core_51 g p0 p1 (mu (256 : Int32) ((256 : Int32) + (u_2.2.1.1 (4 : Int32).toNatClampNeg)) + 1) (0 : Int32) (256 : Int32) u_2) ∧ (¬ (7 : Int32) ≤ p1 → (vp_in (((7 : Int32) * p0) + p1) 28 ∧ True))))))))))) := rfl
abbrev w_M_core : List Cond := .code y_M_core b_M_core 5 (some .int) :: tbW
abbrev rm_M_core : Room := { frames := 2, cells := 0, slots := 0, locals := 43 }
set_option maxHeartbeats 4000000 in
set_option maxRecDepth 100000 in
theorem c_M_core (l : Launch) (D : va_G) (cI cZ : ClassId) (g : GM) (hg : okM g) (x : Ms) (p0 p1 : Int32) (hs : S_M_core g x p0 p1) : Met l y_M_core w_M_core rm_M_core (PcW D vwCl (tyK cI cZ) [.ref g.1.1, .int p0, .int p1] (wM cI cZ g x)) (va_Qi (fun (r : Int32) (u : Ms) => (r, u) = M_M_core g x p0 p1) (fun (u : Ms) (t : State) => va_P D vwCl (wM cI cZ g u) t.heap) (Aw (wM cI cZ g x))) 0 0 (Aw (wM cI cZ g x)) := by
  refine Met.ofW (cc := b_M_core) (maxL := 5) (ret := (some .int)) (by decide) rfl ?_
  intro p e s m args below meth c s₁ B hml hv
  obtain ⟨rfl, hP, hK, hD0⟩ := hv
  have hx := B.exec
  have hb := B.bytes
  have hr := B.returns
  have htb : ∀ w ∈ tbW, w.before _ s = true := fun w h => atoms_spec (ws := w_M_core) B.pre w (List.mem_cons_of_mem _ h)
  have hown : s.vm.findClass R_M = some m.cls := findClass_of_methodNamed B.named
  have hlocks := B.notSynchronized
  have hD : va_D (Aw (wM cI cZ g x)) (wM cI cZ g x) := ⟨hD0.1, fun k q hk => ⟨k, q.2, hk⟩⟩
  have hS : va_S (Aw (wM cI cZ g x)) s.heap s.heap [] := va_S.rf
  have cut_51 : ∀ (n : Nat) (v3 v4 : Int32) (z : Ms) (H : Heap) (locs : List Loc) (ls : Array Slot), mu v4 ((256 : Int32) + (z.2.1.1 (4 : Int32).toNatClampNeg)) < n → M_M_core g x p0 p1 = L_M_core_51 g p0 p1 n v3 v4 z → S_M_core_51 g p0 p1 n v3 v4 z → va_P D vwCl (wM cI cZ g z) H → va_D (Aw (wM cI cZ g x)) (wM cI cZ g z) → va_S (Aw (wM cI cZ g x)) s.heap H locs → lv_has ls 5 [(0, .ref g.1.1), (1, .int p0), (2, .int p1), (3, .int v3), (4, .int v4)] → W p l e (headSpec w_M_core rm_M_core).room s m ([.ref g.1.1, .int p0, .int p1] : List Value).toArray below meth c H locs 0 0 (MQ below (va_Qi (fun (r : Int32) (u : Ms) => (r, u) = M_M_core g x p0 p1) (fun (u : Ms) (t : State) => va_P D vwCl (wM cI cZ g u) t.heap) (Aw (wM cI cZ g x))) ([.ref g.1.1, .int p0, .int p1] : List Value).toArray s 0 0 (Aw (wM cI cZ g x))) (F0 m 51 ls []) := by
    intro n
    induction n with
    | zero => intro v3 v4 z H locs ls hm _ _ _ _ _ _; exact absurd hm (Nat.not_lt_zero _)
    | succ n ih =>
      intro v3 v4 z H locs ls hm hF hs hP hD hS hl
      have hF := hF.trans (L_M_core_51_eq g p0 p1 n v3 v4 z)
      have hs := Eq.mp (S_M_core_51_eq g p0 p1 n v3 v4 z) hs
      refine lv_iload hx hb d_M_core_51 (lv_at hl 4 rfl) ?_
      refine lv_sipush (v := 256) hx hb d_M_core_53 (by decide) ?_
      refine lv_aload_n hx hb d_M_core_56 rfl (lv_at hl 0 rfl) ?_
      refine va_get (D := D) (ci := 3) (v := .ref g.1.2.1) (C := R_M) (T := T_M) (N := 20) hx hb htb i_M hown hK hP 0 rfl rfl 5 (by decide) (htb _ k_M_7) (fun _ h9 => h9) rfl d_M_core_57 ?_
      refine lv_iconst (v := 4) hx hb d_M_core_60 (by decide) ?_
      refine va_iald hx hb hK hP 1 0 rfl rfl hs.1 d_M_core_61 ?_
      have hs := hs.2
      refine lv_iadd hx hb d_M_core_62 ?_
      refine lv_icmp_ge (tgt := 91) hx hb d_M_core_63 (by decide) (fun c_63 => ?_) (fun c_63 => ?_)
      · have hF := hF.trans (if_pos c_63)
        have hs := hs.1 c_63
        refine lv_iload_n hx hb d_M_core_91 rfl (lv_at hl 3 rfl) ?_
        exact W.iret (v := v3) hx hb hr (fun t ht hW => ⟨⟨v3, z, rfl, hF.symm, by dsimp only; rw [ht]; exact hP⟩, hS.F ht⟩) hS.2.2 d_M_core_92
      · have hF := hF.trans (if_neg c_63)
        have hs := hs.2 c_63
        refine lv_iload_n hx hb d_M_core_66 rfl (lv_at hl 3 rfl) ?_
        refine lv_aload_n hx hb d_M_core_67 rfl (lv_at hl 0 rfl) ?_
        refine va_get (D := D) (ci := 3) (v := .ref g.1.2.2.2.2.2.1) (C := R_M) (T := T_M) (N := 20) hx hb htb i_M hown hK hP 0 rfl rfl 9 (by decide) (htb _ k_M_23) (fun _ h9 => h9) rfl d_M_core_68 ?_
        refine lv_iload hx hb d_M_core_71 (lv_at hl 4 rfl) ?_
        refine va_iald hx hb hK hP 5 0 rfl rfl hs.1 d_M_core_73 ?_
        have hs := hs.2
        refine lv_iload_n hx hb d_M_core_74 rfl (lv_at hl 1 rfl) ?_
        refine lv_icmp_ne (tgt := 82) hx hb d_M_core_75 (by decide) (fun c_75 => ?_) (fun c_75 => ?_)
        · have hF := hF.trans (if_neg c_75)
          have hs := hs.2 c_75
          refine lv_iconst (v := 0) hx hb d_M_core_82 (by decide) ?_
          refine lv_iadd hx hb d_M_core_83 ?_
          refine lv_istore_n (lv' := [(3, .int (v3 + (0 : Int32))), (0, .ref g.1.1), (1, .int p0), (2, .int p1), (4, .int v4)]) hx hb d_M_core_84 rfl hl (by decide) rfl (fun ls hl => ?_)
          refine lv_iinc (v := (v4 + 1)) (lv' := [(4, .int (v4 + 1)), (3, .int (v3 + (0 : Int32))), (0, .ref g.1.1), (1, .int p0), (2, .int p1)]) hx hb d_M_core_85 hl (k := 4) rfl rfl (by decide) rfl (fun ls hl => ?_)
          refine lv_goto (tgt := 51) hx hb d_M_core_88 (by decide) ?_
          have hl := lv_sub (l' := [(0, .ref g.1.1), (1, .int p0), (2, .int p1), (3, .int (v3 + (0 : Int32))), (4, .int (v4 + 1))]) hl [2, 3, 4, 1, 0] rfl
          exact ih (v3 + (0 : Int32)) (v4 + 1) z _ _ _ (Nat.lt_of_lt_of_le hs.1 (Nat.le_of_lt_succ hm)) hF hs.2 hP hD hS hl
        · have hF := hF.trans (if_pos c_75)
          have hs := hs.1 c_75
          refine lv_iconst (v := 1) hx hb d_M_core_78 (by decide) ?_
          refine lv_goto (tgt := 83) hx hb d_M_core_79 (by decide) ?_
          refine lv_iadd hx hb d_M_core_83 ?_
          refine lv_istore_n (lv' := [(3, .int (v3 + (1 : Int32))), (0, .ref g.1.1), (1, .int p0), (2, .int p1), (4, .int v4)]) hx hb d_M_core_84 rfl hl (by decide) rfl (fun ls hl => ?_)
          refine lv_iinc (v := (v4 + 1)) (lv' := [(4, .int (v4 + 1)), (3, .int (v3 + (1 : Int32))), (0, .ref g.1.1), (1, .int p0), (2, .int p1)]) hx hb d_M_core_85 hl (k := 4) rfl rfl (by decide) rfl (fun ls hl => ?_)
          refine lv_goto (tgt := 51) hx hb d_M_core_88 (by decide) ?_
          have hl := lv_sub (l' := [(0, .ref g.1.1), (1, .int p0), (2, .int p1), (3, .int (v3 + (1 : Int32))), (4, .int (v4 + 1))]) hl [2, 3, 4, 1, 0] rfl
          exact ih (v3 + (1 : Int32)) (v4 + 1) z _ _ _ (Nat.lt_of_lt_of_le hs.1 (Nat.le_of_lt_succ hm)) hF hs.2 hP hD hS hl
  have hl := lv_entry ([.ref g.1.1, .int p0, .int p1]) (n := 5) (Nat.le_of_ble_eq_true rfl)
  rw [lg_entry_eq]
  generalize (lg_sl ([.ref g.1.1, .int p0, .int p1]) ++ List.replicate (5 - (lg_sl ([.ref g.1.1, .int p0, .int p1])).length) Slot.unset).toArray = ls at hl ⊢
  have hl : lv_has ls 5 [(0, .ref g.1.1), (1, .int p0), (2, .int p1)] := hl
  have hF := M_M_core_eq g x p0 p1
  have hs := Eq.mp (S_M_core_eq g x p0 p1) hs
  refine lv_aload_n hx hb d_M_core_0 rfl (lv_at hl 0 rfl) ?_
  refine lv_iload_n hx hb d_M_core_1 rfl (lv_at hl 1 rfl) ?_
  refine cwi (As := [.int p0]) (rest := []) (wldC := fun u => (wM cI cZ g u)) ⟨hx, hb, hml, hown, htb⟩ (c_M_isCore l D cI cZ g hg x p0) (cwv (n := 1) htb cd_M_isCore k_M_145 in_M_isCore se_M_isCore ini_M hd_M_isCore ⟨Nat.le_of_ble_eq_true rfl, Nat.le_of_ble_eq_true rfl⟩) hK hP hD hS [0, 1, 2, 3, 4, 5, 6, 7, 8, 9, 10] [] [0, 1, 2, 3, 4, 5, 6, 7, 8, 9, 10] rfl rfl (by decide) (by decide) rfl (fun _ => rfl) (fun _ => rfl) (ci := 3) rfl rfl rfl hl.1 rfl (Nat.le_of_ble_eq_true rfl) d_M_core_2 ⟨Nat.zero_le _, Nat.zero_le _⟩ (fun r_2 u_2 H locs hw_2 hP hD hS => ?_)
  have hP : va_P D vwCl (wM cI cZ g u_2) H := hP
  have hD : va_D _ (wM cI cZ g u_2) := hD
  have hF := hF.trans (bnd2_eq hw_2)
  have hs := Eq.mp (bnd2_eq hw_2) hs
  refine lv_if_ne (tgt := 10) hx hb d_M_core_5 (by decide) (fun c_5 => ?_) (fun c_5 => ?_)
  · have hF := hF.trans (if_neg c_5)
    have hs := hs.2 c_5
    refine lv_iload_n hx hb d_M_core_10 rfl (lv_at hl 2 rfl) ?_
    refine lv_iconst (v := 0) hx hb d_M_core_11 (by decide) ?_
    refine lv_bipush (v := 7) hx hb d_M_core_12 (by decide) ?_
    refine cps (As := [.int p1, .int (0 : Int32), .int (7 : Int32)]) (rest := []) ⟨hx, hb, hml, hown, htb⟩ (c_M_within l p1 (0 : Int32) (7 : Int32)) (cws (n := 3) htb cd_M_within k_M_64 st_M_within ini_M hd_M_within ⟨Nat.le_of_ble_eq_true rfl, Nat.le_of_ble_eq_true rfl⟩) rfl hl.1 rfl (Nat.le_of_ble_eq_true rfl) d_M_core_14 ⟨Nat.zero_le _, Nat.zero_le _⟩ (fun r_14 hw_14 => ?_)
    have hF := hF.trans (bnd_eq hw_14)
    have hs := Eq.mp (bnd_eq hw_14) hs
    refine lv_if_ne (tgt := 26) hx hb d_M_core_17 (by decide) (fun c_17 => ?_) (fun c_17 => ?_)
    · have hF := hF.trans (if_neg c_17)
      have hs := hs.2 c_17
      refine lv_iload_n hx hb d_M_core_26 rfl (lv_at hl 2 rfl) ?_
      refine lv_bipush (v := 7) hx hb d_M_core_27 (by decide) ?_
      refine lv_icmp_ge (tgt := 44) hx hb d_M_core_29 (by decide) (fun c_29 => ?_) (fun c_29 => ?_)
      · have hF := hF.trans (if_pos c_29)
        have hs := hs.1 c_29
        refine lv_iconst (v := 0) hx hb d_M_core_44 (by decide) ?_
        refine lv_istore_n (lv' := [(3, .int (0 : Int32)), (0, .ref g.1.1), (1, .int p0), (2, .int p1)]) hx hb d_M_core_45 rfl hl (by decide) rfl (fun ls hl => ?_)
        refine lv_sipush (v := 256) hx hb d_M_core_46 (by decide) ?_
        refine lv_istore (lv' := [(4, .int (256 : Int32)), (3, .int (0 : Int32)), (0, .ref g.1.1), (1, .int p0), (2, .int p1)]) hx hb d_M_core_49 hl (by decide) rfl (fun ls hl => ?_)
        have hl := lv_sub (l' := [(0, .ref g.1.1), (1, .int p0), (2, .int p1), (3, .int (0 : Int32)), (4, .int (256 : Int32))]) hl [2, 3, 4, 1, 0] rfl
        exact cut_51 (mu (256 : Int32) ((256 : Int32) + (u_2.2.1.1 (4 : Int32).toNatClampNeg)) + 1) (0 : Int32) (256 : Int32) u_2 _ _ _ (Nat.lt_succ_self _) hF hs hP hD hS hl
      · have hF := hF.trans (if_neg c_29)
        have hs := hs.2 c_29
        refine lv_aload_n hx hb d_M_core_32 rfl (lv_at hl 0 rfl) ?_
        refine va_get (D := D) (ci := 3) (v := .ref g.1.2.2.2.2.2.2.2.2.2.2) (C := R_M) (T := T_M) (N := 20) hx hb htb i_M hown hK hP 0 rfl rfl 17 (by decide) (htb _ k_M_42) (fun _ h9 => h9) rfl d_M_core_33 ?_
        refine lv_bipush (v := 7) hx hb d_M_core_36 (by decide) ?_
        refine lv_iload_n hx hb d_M_core_38 rfl (lv_at hl 1 rfl) ?_
        refine lv_imul hx hb d_M_core_39 ?_
        refine lv_iload_n hx hb d_M_core_40 rfl (lv_at hl 2 rfl) ?_
        refine lv_iadd hx hb d_M_core_41 ?_
        refine va_iald hx hb hK hP 10 0 rfl rfl hs.1 d_M_core_42 ?_
        have hs := hs.2
        exact W.iret (v := (u_2.2.2.2.2 (((7 : Int32) * p0) + p1).toNatClampNeg)) hx hb hr (fun t ht hW => ⟨⟨(u_2.2.2.2.2 (((7 : Int32) * p0) + p1).toNatClampNeg), u_2, rfl, hF.symm, by dsimp only; rw [ht]; exact hP⟩, hS.F ht⟩) hS.2.2 d_M_core_43
    · have hF := hF.trans (if_pos c_17)
      have hs := hs.1 c_17
      refine lv_aload_n hx hb d_M_core_20 rfl (lv_at hl 0 rfl) ?_
      refine lv_iconst (v := 1) hx hb d_M_core_21 (by decide) ?_
      refine cwi (As := [.int (1 : Int32)]) (rest := []) (wldC := fun u => (wM cI cZ g u)) ⟨hx, hb, hml, hown, htb⟩ (c_M_fail l D cI cZ g hg u_2 (1 : Int32)) (cwv (n := 1) htb cd_M_fail k_M_148 in_M_fail se_M_fail ini_M hd_M_fail ⟨Nat.le_of_ble_eq_true rfl, Nat.le_of_ble_eq_true rfl⟩) hK hP hD hS [0, 1, 2, 3, 4, 5, 6, 7, 8, 9, 10] [] [0, 1, 2, 3, 4, 5, 6, 7, 8, 9, 10] rfl rfl (by decide) (by decide) rfl (fun _ => rfl) (fun _ => rfl) (ci := 3) rfl rfl rfl hl.1 rfl (Nat.le_of_ble_eq_true rfl) d_M_core_22 ⟨Nat.zero_le _, Nat.zero_le _⟩ (fun r_22 u_22 H locs hw_22 hP hD hS => ?_)
      have hP : va_P D vwCl (wM cI cZ g u_22) H := hP
      have hD : va_D _ (wM cI cZ g u_22) := hD
      have hF := hF.trans (bnd2_eq hw_22)
      have hs := Eq.mp (bnd2_eq hw_22) hs
      exact W.iret (v := r_22) hx hb hr (fun t ht hW => ⟨⟨r_22, u_22, rfl, hF.symm, by dsimp only; rw [ht]; exact hP⟩, hS.F ht⟩) hS.2.2 d_M_core_25
  · have hF := hF.trans (if_pos c_5)
    have hs := hs.1 c_5
    refine lv_iconst (v := 0) hx hb d_M_core_8 (by decide) ?_
    exact W.iret (v := (0 : Int32)) hx hb hr (fun t ht hW => ⟨⟨(0 : Int32), u_2, rfl, hF.symm, by dsimp only; rw [ht]; exact hP⟩, hS.F ht⟩) hS.2.2 d_M_core_9

def M_M_count (g : GM) (x : Ms) (p0 : Int32) : Int32 × Ms := (if p0 = 0 then (x.1.2.2.2.2.1, (((0 : Int32), x.1.2.1, x.1.2.2.1, x.1.2.2.2.1, x.1.2.2.2.2.1, x.1.2.2.2.2.2), x.2.1, x.2.2.1, x.2.2.2.1, x.2.2.2.2)) else (if p0 = 1 then (x.1.2.2.2.2.2, (((0 : Int32), x.1.2.1, x.1.2.2.1, x.1.2.2.2.1, x.1.2.2.2.2.1, x.1.2.2.2.2.2), x.2.1, x.2.2.1, x.2.2.2.1, x.2.2.2.2)) else (if p0 = 2 then (((((x.2.1.1 (0 : Int32).toNatClampNeg) + (x.2.1.1 (1 : Int32).toNatClampNeg)) + (x.2.1.1 (2 : Int32).toNatClampNeg)) + (x.2.1.1 (3 : Int32).toNatClampNeg)), (((0 : Int32), x.1.2.1, x.1.2.2.1, x.1.2.2.2.1, x.1.2.2.2.2.1, x.1.2.2.2.2.2), x.2.1, x.2.2.1, x.2.2.2.1, x.2.2.2.2)) else (if p0 = 3 then ((x.2.1.1 (4 : Int32).toNatClampNeg), (((0 : Int32), x.1.2.1, x.1.2.2.1, x.1.2.2.2.1, x.1.2.2.2.2.1, x.1.2.2.2.2.2), x.2.1, x.2.2.1, x.2.2.2.1, x.2.2.2.2)) else (if p0 = 4 then (g.2.1, (((0 : Int32), x.1.2.1, x.1.2.2.1, x.1.2.2.2.1, x.1.2.2.2.2.1, x.1.2.2.2.2.2), x.2.1, x.2.2.1, x.2.2.2.1, x.2.2.2.2)) else (if p0 = 5 then (g.2.2.1, (((0 : Int32), x.1.2.1, x.1.2.2.1, x.1.2.2.2.1, x.1.2.2.2.2.1, x.1.2.2.2.2.2), x.2.1, x.2.2.1, x.2.2.2.1, x.2.2.2.2)) else (if p0 = 6 then (g.2.2.2.1, (((0 : Int32), x.1.2.1, x.1.2.2.1, x.1.2.2.2.1, x.1.2.2.2.2.1, x.1.2.2.2.2.2), x.2.1, x.2.2.1, x.2.2.2.1, x.2.2.2.2)) else (if p0 = 7 then (g.2.2.2.2, (((0 : Int32), x.1.2.1, x.1.2.2.1, x.1.2.2.2.1, x.1.2.2.2.2.1, x.1.2.2.2.2.2), x.2.1, x.2.2.1, x.2.2.2.1, x.2.2.2.2)) else ((-1 : Int32), (((0 : Int32), x.1.2.1, x.1.2.2.1, x.1.2.2.2.1, x.1.2.2.2.2.1, x.1.2.2.2.2.2), x.2.1, x.2.2.1, x.2.2.2.1, x.2.2.2.2))))))))))
theorem M_M_count_eq (g : GM) (x : Ms) (p0 : Int32) : M_M_count g x p0 = (if p0 = 0 then (x.1.2.2.2.2.1, (((0 : Int32), x.1.2.1, x.1.2.2.1, x.1.2.2.2.1, x.1.2.2.2.2.1, x.1.2.2.2.2.2), x.2.1, x.2.2.1, x.2.2.2.1, x.2.2.2.2)) else (if p0 = 1 then (x.1.2.2.2.2.2, (((0 : Int32), x.1.2.1, x.1.2.2.1, x.1.2.2.2.1, x.1.2.2.2.2.1, x.1.2.2.2.2.2), x.2.1, x.2.2.1, x.2.2.2.1, x.2.2.2.2)) else (if p0 = 2 then (((((x.2.1.1 (0 : Int32).toNatClampNeg) + (x.2.1.1 (1 : Int32).toNatClampNeg)) + (x.2.1.1 (2 : Int32).toNatClampNeg)) + (x.2.1.1 (3 : Int32).toNatClampNeg)), (((0 : Int32), x.1.2.1, x.1.2.2.1, x.1.2.2.2.1, x.1.2.2.2.2.1, x.1.2.2.2.2.2), x.2.1, x.2.2.1, x.2.2.2.1, x.2.2.2.2)) else (if p0 = 3 then ((x.2.1.1 (4 : Int32).toNatClampNeg), (((0 : Int32), x.1.2.1, x.1.2.2.1, x.1.2.2.2.1, x.1.2.2.2.2.1, x.1.2.2.2.2.2), x.2.1, x.2.2.1, x.2.2.2.1, x.2.2.2.2)) else (if p0 = 4 then (g.2.1, (((0 : Int32), x.1.2.1, x.1.2.2.1, x.1.2.2.2.1, x.1.2.2.2.2.1, x.1.2.2.2.2.2), x.2.1, x.2.2.1, x.2.2.2.1, x.2.2.2.2)) else (if p0 = 5 then (g.2.2.1, (((0 : Int32), x.1.2.1, x.1.2.2.1, x.1.2.2.2.1, x.1.2.2.2.2.1, x.1.2.2.2.2.2), x.2.1, x.2.2.1, x.2.2.2.1, x.2.2.2.2)) else (if p0 = 6 then (g.2.2.2.1, (((0 : Int32), x.1.2.1, x.1.2.2.1, x.1.2.2.2.1, x.1.2.2.2.2.1, x.1.2.2.2.2.2), x.2.1, x.2.2.1, x.2.2.2.1, x.2.2.2.2)) else (if p0 = 7 then (g.2.2.2.2, (((0 : Int32), x.1.2.1, x.1.2.2.1, x.1.2.2.2.1, x.1.2.2.2.2.1, x.1.2.2.2.2.2), x.2.1, x.2.2.1, x.2.2.2.1, x.2.2.2.2)) else ((-1 : Int32), (((0 : Int32), x.1.2.1, x.1.2.2.1, x.1.2.2.2.1, x.1.2.2.2.2.1, x.1.2.2.2.2.2), x.2.1, x.2.2.1, x.2.2.2.1, x.2.2.2.2)))))))))) := rfl
def S_M_count (g : GM) (x : Ms) (p0 : Int32) : Prop := ((p0 = 0 → True) ∧ (¬ p0 = 0 → ((p0 = 1 → True) ∧ (¬ p0 = 1 → ((p0 = 2 → (vp_in (0 : Int32) 5 ∧ (vp_in (1 : Int32) 5 ∧ (vp_in (2 : Int32) 5 ∧ (vp_in (3 : Int32) 5 ∧ True))))) ∧ (¬ p0 = 2 → ((p0 = 3 → (vp_in (4 : Int32) 5 ∧ True)) ∧ (¬ p0 = 3 → ((p0 = 4 → True) ∧ (¬ p0 = 4 → ((p0 = 5 → True) ∧ (¬ p0 = 5 → ((p0 = 6 → True) ∧ (¬ p0 = 6 → ((p0 = 7 → True) ∧ (¬ p0 = 7 → True))))))))))))))))
theorem S_M_count_eq (g : GM) (x : Ms) (p0 : Int32) : S_M_count g x p0 = ((p0 = 0 → True) ∧ (¬ p0 = 0 → ((p0 = 1 → True) ∧ (¬ p0 = 1 → ((p0 = 2 → (vp_in (0 : Int32) 5 ∧ (vp_in (1 : Int32) 5 ∧ (vp_in (2 : Int32) 5 ∧ (vp_in (3 : Int32) 5 ∧ True))))) ∧ (¬ p0 = 2 → ((p0 = 3 → (vp_in (4 : Int32) 5 ∧ True)) ∧ (¬ p0 = 3 → ((p0 = 4 → True) ∧ (¬ p0 = 4 → ((p0 = 5 → True) ∧ (¬ p0 = 5 → ((p0 = 6 → True) ∧ (¬ p0 = 6 → ((p0 = 7 → True) ∧ (¬ p0 = 7 → True)))))))))))))))) := rfl
abbrev w_M_count : List Cond := .code y_M_count b_M_count 2 (some .int) :: tbW
abbrev rm_M_count : Room := { frames := 0, cells := 0, slots := 0, locals := 0 }
set_option maxHeartbeats 4000000 in
set_option maxRecDepth 100000 in
theorem c_M_count (l : Launch) (D : va_G) (cI cZ : ClassId) (g : GM) (hg : okM g) (x : Ms) (p0 : Int32) (hs : S_M_count g x p0) : Met l y_M_count w_M_count rm_M_count (PcW D vwCl (tyK cI cZ) [.ref g.1.1, .int p0] (wM cI cZ g x)) (va_Qi (fun (r : Int32) (u : Ms) => (r, u) = M_M_count g x p0) (fun (u : Ms) (t : State) => va_P D vwCl (wM cI cZ g u) t.heap) (Aw (wM cI cZ g x))) 0 0 (Aw (wM cI cZ g x)) := by
  refine Met.ofW (cc := b_M_count) (maxL := 2) (ret := (some .int)) (by decide) rfl ?_
  intro p e s m args below meth c s₁ B hml hv
  obtain ⟨rfl, hP, hK, hD0⟩ := hv
  have hx := B.exec
  have hb := B.bytes
  have hr := B.returns
  have htb : ∀ w ∈ tbW, w.before _ s = true := fun w h => atoms_spec (ws := w_M_count) B.pre w (List.mem_cons_of_mem _ h)
  have hown : s.vm.findClass R_M = some m.cls := findClass_of_methodNamed B.named
  have hlocks := B.notSynchronized
  have hD : va_D (Aw (wM cI cZ g x)) (wM cI cZ g x) := ⟨hD0.1, fun k q hk => ⟨k, q.2, hk⟩⟩
  have hS : va_S (Aw (wM cI cZ g x)) s.heap s.heap [] := va_S.rf
  have hl := lv_entry ([.ref g.1.1, .int p0]) (n := 2) (Nat.le_of_ble_eq_true rfl)
  rw [lg_entry_eq]
  generalize (lg_sl ([.ref g.1.1, .int p0]) ++ List.replicate (2 - (lg_sl ([.ref g.1.1, .int p0])).length) Slot.unset).toArray = ls at hl ⊢
  have hl : lv_has ls 2 [(0, .ref g.1.1), (1, .int p0)] := hl
  have hF := M_M_count_eq g x p0
  have hs := Eq.mp (S_M_count_eq g x p0) hs
  refine lv_aload_n hx hb d_M_count_0 rfl (lv_at hl 0 rfl) ?_
  refine lv_iconst (v := 0) hx hb d_M_count_1 (by decide) ?_
  refine va_put (D := D) (ci := 3) (v := .int (0 : Int32)) (ty := .int) (C := R_M) (T := T_M) (N := 20) hx hb htb i_M ty_M tyo_M nm_M hown hK hP hD hS 0 rfl rfl 0 (by decide) (htb _ k_M_61) (fun _ h9 => h9) rfl (by decide +kernel) rfl rfl (Nat.le_of_ble_eq_true rfl) d_M_count_2 (fun H locs hP hD hS => ?_)
  have hP : va_P D vwCl (wM cI cZ g (((0 : Int32), x.1.2.1, x.1.2.2.1, x.1.2.2.2.1, x.1.2.2.2.2.1, x.1.2.2.2.2.2), x.2.1, x.2.2.1, x.2.2.2.1, x.2.2.2.2)) H := hP
  have hD : va_D _ (wM cI cZ g (((0 : Int32), x.1.2.1, x.1.2.2.1, x.1.2.2.2.1, x.1.2.2.2.2.1, x.1.2.2.2.2.2), x.2.1, x.2.2.1, x.2.2.2.1, x.2.2.2.2)) := hD
  refine lv_iload_n hx hb d_M_count_5 rfl (lv_at hl 1 rfl) ?_
  by_cases c_6_0 : p0 = 0
  · have hF := hF.trans (if_pos c_6_0)
    refine lv_tableIn (tgt := 52) hx hb d_M_count_6 (by rw [c_6_0]; decide) (by rw [c_6_0]; decide) (by rw [c_6_0]; rfl) (by decide) ?_
    have hs := hs.1 c_6_0
    refine lv_aload_n hx hb d_M_count_52 rfl (lv_at hl 0 rfl) ?_
    refine va_get (D := D) (ci := 3) (v := .int x.1.2.2.2.2.1) (C := R_M) (T := T_M) (N := 20) hx hb htb i_M hown hK hP 0 rfl rfl 18 (by decide) (htb _ k_M_95) (fun _ h9 => h9) rfl d_M_count_53 ?_
    exact W.iret (v := x.1.2.2.2.2.1) hx hb hr (fun t ht hW => ⟨⟨x.1.2.2.2.2.1, (((0 : Int32), x.1.2.1, x.1.2.2.1, x.1.2.2.2.1, x.1.2.2.2.2.1, x.1.2.2.2.2.2), x.2.1, x.2.2.1, x.2.2.2.1, x.2.2.2.2), rfl, hF.symm, by dsimp only; rw [ht]; exact hP⟩, hS.F ht⟩) hS.2.2 d_M_count_56
  have hs := hs.2 c_6_0
  have hF := hF.trans (if_neg c_6_0)
  by_cases c_6_1 : p0 = 1
  · have hF := hF.trans (if_pos c_6_1)
    refine lv_tableIn (tgt := 57) hx hb d_M_count_6 (by rw [c_6_1]; decide) (by rw [c_6_1]; decide) (by rw [c_6_1]; rfl) (by decide) ?_
    have hs := hs.1 c_6_1
    refine lv_aload_n hx hb d_M_count_57 rfl (lv_at hl 0 rfl) ?_
    refine va_get (D := D) (ci := 3) (v := .int x.1.2.2.2.2.2) (C := R_M) (T := T_M) (N := 20) hx hb htb i_M hown hK hP 0 rfl rfl 19 (by decide) (htb _ k_M_130) (fun _ h9 => h9) rfl d_M_count_58 ?_
    exact W.iret (v := x.1.2.2.2.2.2) hx hb hr (fun t ht hW => ⟨⟨x.1.2.2.2.2.2, (((0 : Int32), x.1.2.1, x.1.2.2.1, x.1.2.2.2.1, x.1.2.2.2.2.1, x.1.2.2.2.2.2), x.2.1, x.2.2.1, x.2.2.2.1, x.2.2.2.2), rfl, hF.symm, by dsimp only; rw [ht]; exact hP⟩, hS.F ht⟩) hS.2.2 d_M_count_61
  have hs := hs.2 c_6_1
  have hF := hF.trans (if_neg c_6_1)
  by_cases c_6_2 : p0 = 2
  · have hF := hF.trans (if_pos c_6_2)
    refine lv_tableIn (tgt := 62) hx hb d_M_count_6 (by rw [c_6_2]; decide) (by rw [c_6_2]; decide) (by rw [c_6_2]; rfl) (by decide) ?_
    have hs := hs.1 c_6_2
    refine lv_aload_n hx hb d_M_count_62 rfl (lv_at hl 0 rfl) ?_
    refine va_get (D := D) (ci := 3) (v := .ref g.1.2.1) (C := R_M) (T := T_M) (N := 20) hx hb htb i_M hown hK hP 0 rfl rfl 5 (by decide) (htb _ k_M_7) (fun _ h9 => h9) rfl d_M_count_63 ?_
    refine lv_iconst (v := 0) hx hb d_M_count_66 (by decide) ?_
    refine va_iald hx hb hK hP 1 0 rfl rfl hs.1 d_M_count_67 ?_
    have hs := hs.2
    refine lv_aload_n hx hb d_M_count_68 rfl (lv_at hl 0 rfl) ?_
    refine va_get (D := D) (ci := 3) (v := .ref g.1.2.1) (C := R_M) (T := T_M) (N := 20) hx hb htb i_M hown hK hP 0 rfl rfl 5 (by decide) (htb _ k_M_7) (fun _ h9 => h9) rfl d_M_count_69 ?_
    refine lv_iconst (v := 1) hx hb d_M_count_72 (by decide) ?_
    refine va_iald hx hb hK hP 1 0 rfl rfl hs.1 d_M_count_73 ?_
    have hs := hs.2
    refine lv_iadd hx hb d_M_count_74 ?_
    refine lv_aload_n hx hb d_M_count_75 rfl (lv_at hl 0 rfl) ?_
    refine va_get (D := D) (ci := 3) (v := .ref g.1.2.1) (C := R_M) (T := T_M) (N := 20) hx hb htb i_M hown hK hP 0 rfl rfl 5 (by decide) (htb _ k_M_7) (fun _ h9 => h9) rfl d_M_count_76 ?_
    refine lv_iconst (v := 2) hx hb d_M_count_79 (by decide) ?_
    refine va_iald hx hb hK hP 1 0 rfl rfl hs.1 d_M_count_80 ?_
    have hs := hs.2
    refine lv_iadd hx hb d_M_count_81 ?_
    refine lv_aload_n hx hb d_M_count_82 rfl (lv_at hl 0 rfl) ?_
    refine va_get (D := D) (ci := 3) (v := .ref g.1.2.1) (C := R_M) (T := T_M) (N := 20) hx hb htb i_M hown hK hP 0 rfl rfl 5 (by decide) (htb _ k_M_7) (fun _ h9 => h9) rfl d_M_count_83 ?_
    refine lv_iconst (v := 3) hx hb d_M_count_86 (by decide) ?_
    refine va_iald hx hb hK hP 1 0 rfl rfl hs.1 d_M_count_87 ?_
    have hs := hs.2
    refine lv_iadd hx hb d_M_count_88 ?_
    exact W.iret (v := ((((x.2.1.1 (0 : Int32).toNatClampNeg) + (x.2.1.1 (1 : Int32).toNatClampNeg)) + (x.2.1.1 (2 : Int32).toNatClampNeg)) + (x.2.1.1 (3 : Int32).toNatClampNeg))) hx hb hr (fun t ht hW => ⟨⟨((((x.2.1.1 (0 : Int32).toNatClampNeg) + (x.2.1.1 (1 : Int32).toNatClampNeg)) + (x.2.1.1 (2 : Int32).toNatClampNeg)) + (x.2.1.1 (3 : Int32).toNatClampNeg)), (((0 : Int32), x.1.2.1, x.1.2.2.1, x.1.2.2.2.1, x.1.2.2.2.2.1, x.1.2.2.2.2.2), x.2.1, x.2.2.1, x.2.2.2.1, x.2.2.2.2), rfl, hF.symm, by dsimp only; rw [ht]; exact hP⟩, hS.F ht⟩) hS.2.2 d_M_count_89
  have hs := hs.2 c_6_2
  have hF := hF.trans (if_neg c_6_2)
  by_cases c_6_3 : p0 = 3
  · have hF := hF.trans (if_pos c_6_3)
    refine lv_tableIn (tgt := 90) hx hb d_M_count_6 (by rw [c_6_3]; decide) (by rw [c_6_3]; decide) (by rw [c_6_3]; rfl) (by decide) ?_
    have hs := hs.1 c_6_3
    refine lv_aload_n hx hb d_M_count_90 rfl (lv_at hl 0 rfl) ?_
    refine va_get (D := D) (ci := 3) (v := .ref g.1.2.1) (C := R_M) (T := T_M) (N := 20) hx hb htb i_M hown hK hP 0 rfl rfl 5 (by decide) (htb _ k_M_7) (fun _ h9 => h9) rfl d_M_count_91 ?_
    refine lv_iconst (v := 4) hx hb d_M_count_94 (by decide) ?_
    refine va_iald hx hb hK hP 1 0 rfl rfl hs.1 d_M_count_95 ?_
    have hs := hs.2
    exact W.iret (v := (x.2.1.1 (4 : Int32).toNatClampNeg)) hx hb hr (fun t ht hW => ⟨⟨(x.2.1.1 (4 : Int32).toNatClampNeg), (((0 : Int32), x.1.2.1, x.1.2.2.1, x.1.2.2.2.1, x.1.2.2.2.2.1, x.1.2.2.2.2.2), x.2.1, x.2.2.1, x.2.2.2.1, x.2.2.2.2), rfl, hF.symm, by dsimp only; rw [ht]; exact hP⟩, hS.F ht⟩) hS.2.2 d_M_count_96
  have hs := hs.2 c_6_3
  have hF := hF.trans (if_neg c_6_3)
  by_cases c_6_4 : p0 = 4
  · have hF := hF.trans (if_pos c_6_4)
    refine lv_tableIn (tgt := 97) hx hb d_M_count_6 (by rw [c_6_4]; decide) (by rw [c_6_4]; decide) (by rw [c_6_4]; rfl) (by decide) ?_
    have hs := hs.1 c_6_4
    refine lv_aload_n hx hb d_M_count_97 rfl (lv_at hl 0 rfl) ?_
    refine va_get (D := D) (ci := 3) (v := .int g.2.1) (C := R_M) (T := T_M) (N := 20) hx hb htb i_M hown hK hP 0 rfl rfl 1 (by decide) (htb _ k_M_45) (fun _ h9 => h9) rfl d_M_count_98 ?_
    exact W.iret (v := g.2.1) hx hb hr (fun t ht hW => ⟨⟨g.2.1, (((0 : Int32), x.1.2.1, x.1.2.2.1, x.1.2.2.2.1, x.1.2.2.2.2.1, x.1.2.2.2.2.2), x.2.1, x.2.2.1, x.2.2.2.1, x.2.2.2.2), rfl, hF.symm, by dsimp only; rw [ht]; exact hP⟩, hS.F ht⟩) hS.2.2 d_M_count_101
  have hs := hs.2 c_6_4
  have hF := hF.trans (if_neg c_6_4)
  by_cases c_6_5 : p0 = 5
  · have hF := hF.trans (if_pos c_6_5)
    refine lv_tableIn (tgt := 102) hx hb d_M_count_6 (by rw [c_6_5]; decide) (by rw [c_6_5]; decide) (by rw [c_6_5]; rfl) (by decide) ?_
    have hs := hs.1 c_6_5
    refine lv_aload_n hx hb d_M_count_102 rfl (lv_at hl 0 rfl) ?_
    refine va_get (D := D) (ci := 3) (v := .int g.2.2.1) (C := R_M) (T := T_M) (N := 20) hx hb htb i_M hown hK hP 0 rfl rfl 2 (by decide) (htb _ k_M_52) (fun _ h9 => h9) rfl d_M_count_103 ?_
    exact W.iret (v := g.2.2.1) hx hb hr (fun t ht hW => ⟨⟨g.2.2.1, (((0 : Int32), x.1.2.1, x.1.2.2.1, x.1.2.2.2.1, x.1.2.2.2.2.1, x.1.2.2.2.2.2), x.2.1, x.2.2.1, x.2.2.2.1, x.2.2.2.2), rfl, hF.symm, by dsimp only; rw [ht]; exact hP⟩, hS.F ht⟩) hS.2.2 d_M_count_106
  have hs := hs.2 c_6_5
  have hF := hF.trans (if_neg c_6_5)
  by_cases c_6_6 : p0 = 6
  · have hF := hF.trans (if_pos c_6_6)
    refine lv_tableIn (tgt := 107) hx hb d_M_count_6 (by rw [c_6_6]; decide) (by rw [c_6_6]; decide) (by rw [c_6_6]; rfl) (by decide) ?_
    have hs := hs.1 c_6_6
    refine lv_aload_n hx hb d_M_count_107 rfl (lv_at hl 0 rfl) ?_
    refine va_get (D := D) (ci := 3) (v := .int g.2.2.2.1) (C := R_M) (T := T_M) (N := 20) hx hb htb i_M hown hK hP 0 rfl rfl 3 (by decide) (htb _ k_M_55) (fun _ h9 => h9) rfl d_M_count_108 ?_
    exact W.iret (v := g.2.2.2.1) hx hb hr (fun t ht hW => ⟨⟨g.2.2.2.1, (((0 : Int32), x.1.2.1, x.1.2.2.1, x.1.2.2.2.1, x.1.2.2.2.2.1, x.1.2.2.2.2.2), x.2.1, x.2.2.1, x.2.2.2.1, x.2.2.2.2), rfl, hF.symm, by dsimp only; rw [ht]; exact hP⟩, hS.F ht⟩) hS.2.2 d_M_count_111
  have hs := hs.2 c_6_6
  have hF := hF.trans (if_neg c_6_6)
  by_cases c_6_7 : p0 = 7
  · have hF := hF.trans (if_pos c_6_7)
    refine lv_tableIn (tgt := 112) hx hb d_M_count_6 (by rw [c_6_7]; decide) (by rw [c_6_7]; decide) (by rw [c_6_7]; rfl) (by decide) ?_
    have hs := hs.1 c_6_7
    refine lv_aload_n hx hb d_M_count_112 rfl (lv_at hl 0 rfl) ?_
    refine va_get (D := D) (ci := 3) (v := .int g.2.2.2.2) (C := R_M) (T := T_M) (N := 20) hx hb htb i_M hown hK hP 0 rfl rfl 4 (by decide) (htb _ k_M_58) (fun _ h9 => h9) rfl d_M_count_113 ?_
    exact W.iret (v := g.2.2.2.2) hx hb hr (fun t ht hW => ⟨⟨g.2.2.2.2, (((0 : Int32), x.1.2.1, x.1.2.2.1, x.1.2.2.2.1, x.1.2.2.2.2.1, x.1.2.2.2.2.2), x.2.1, x.2.2.1, x.2.2.2.1, x.2.2.2.2), rfl, hF.symm, by dsimp only; rw [ht]; exact hP⟩, hS.F ht⟩) hS.2.2 d_M_count_116
  have hs := hs.2 c_6_7
  have hF := hF.trans (if_neg c_6_7)
  refine lv_tableOut (tgt := 117) hx hb d_M_count_6 (tab_out c_6_0 c_6_1 c_6_2 c_6_3 c_6_4 c_6_5 c_6_6 c_6_7) (by decide) ?_
  refine lv_iconst (v := -1) hx hb d_M_count_117 (by decide) ?_
  exact W.iret (v := (-1 : Int32)) hx hb hr (fun t ht hW => ⟨⟨(-1 : Int32), (((0 : Int32), x.1.2.1, x.1.2.2.1, x.1.2.2.2.1, x.1.2.2.2.2.1, x.1.2.2.2.2.2), x.2.1, x.2.2.1, x.2.2.2.1, x.2.2.2.2), rfl, hF.symm, by dsimp only; rw [ht]; exact hP⟩, hS.F ht⟩) hS.2.2 d_M_count_118
