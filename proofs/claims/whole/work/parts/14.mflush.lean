def L_M_flush_141 (g : GM) : Nat → Int32 → Int32 → Ms → Int32 × Ms
  | 0, _, _, z => (0, z)
  | n + 1, v1, v2, z => (if (5 : Int32) ≤ v2 then ((z.1.2.2.2.2.1 - v1), z) else L_M_flush_141 g n v1 (v2 + 1) (z.1, ((upd z.2.1.1 v2.toNatClampNeg (0 : Int32)), z.2.1.2.1, z.2.1.2.2.1, z.2.1.2.2.2.1, z.2.1.2.2.2.2), z.2.2.1, z.2.2.2.1, z.2.2.2.2))
theorem L_M_flush_141_eq (g : GM) (n : Nat) (v1 v2 : Int32) (z : Ms) : L_M_flush_141 g (n + 1) v1 v2 z = (if (5 : Int32) ≤ v2 then ((z.1.2.2.2.2.1 - v1), z) else L_M_flush_141 g n v1 (v2 + 1) (z.1, ((upd z.2.1.1 v2.toNatClampNeg (0 : Int32)), z.2.1.2.1, z.2.1.2.2.1, z.2.1.2.2.2.1, z.2.1.2.2.2.2), z.2.2.1, z.2.2.2.1, z.2.2.2.2)) := by first | rfl | rw [L_M_flush_141]
def S_M_flush_141 (g : GM) : Nat → Int32 → Int32 → Ms → Prop
  | 0, _, _, _ => True
  | n + 1, v1, v2, z => (((5 : Int32) ≤ v2 → True) ∧ (¬ (5 : Int32) ≤ v2 → (vp_in v2 5 ∧ (mu (v2 + 1) (5 : Int32) < mu v2 (5 : Int32) ∧ S_M_flush_141 g n v1 (v2 + 1) (z.1, ((upd z.2.1.1 v2.toNatClampNeg (0 : Int32)), z.2.1.2.1, z.2.1.2.2.1, z.2.1.2.2.2.1, z.2.1.2.2.2.2), z.2.2.1, z.2.2.2.1, z.2.2.2.2)))))
theorem S_M_flush_141_eq (g : GM) (n : Nat) (v1 v2 : Int32) (z : Ms) : S_M_flush_141 g (n + 1) v1 v2 z = (((5 : Int32) ≤ v2 → True) ∧ (¬ (5 : Int32) ≤ v2 → (vp_in v2 5 ∧ (mu (v2 + 1) (5 : Int32) < mu v2 (5 : Int32) ∧ S_M_flush_141 g n v1 (v2 + 1) (z.1, ((upd z.2.1.1 v2.toNatClampNeg (0 : Int32)), z.2.1.2.1, z.2.1.2.2.1, z.2.1.2.2.2.1, z.2.1.2.2.2.2), z.2.2.1, z.2.2.2.1, z.2.2.2.2))))) := by first | rfl | rw [S_M_flush_141]
def L_M_flush_87 (g : GM) (kc : Int32 → Int32 → Ms → Int32 × Ms) : Nat → Int32 → Int32 → Int32 → Ms → Int32 × Ms
  | 0, _, _, _, zz => (0, zz)
  | n2 + 1, w1, w2, w3, zz => (if (((64 : Int32) * w2) + (zz.2.1.1 w2.toNatClampNeg)) ≤ w3 then kc w1 (w2 + 1) zz else (if (zz.2.1.2.2.1 w3.toNatClampNeg) = 0 then L_M_flush_87 g kc n2 w1 w2 (w3 + 1) zz else (bnd (M_M_toMemory g zz (zz.2.1.2.1 w3.toNatClampNeg) (zz.2.1.2.2.2.1 w3.toNatClampNeg)) (fun u_124 => L_M_flush_87 g kc n2 w1 w2 (w3 + 1) u_124))))
theorem L_M_flush_87_eq (g : GM) (kc : Int32 → Int32 → Ms → Int32 × Ms) (n2 : Nat) (w1 w2 w3 : Int32) (zz : Ms) : L_M_flush_87 g kc (n2 + 1) w1 w2 w3 zz = (if (((64 : Int32) * w2) + (zz.2.1.1 w2.toNatClampNeg)) ≤ w3 then kc w1 (w2 + 1) zz else (if (zz.2.1.2.2.1 w3.toNatClampNeg) = 0 then L_M_flush_87 g kc n2 w1 w2 (w3 + 1) zz else (bnd (M_M_toMemory g zz (zz.2.1.2.1 w3.toNatClampNeg) (zz.2.1.2.2.2.1 w3.toNatClampNeg)) (fun u_124 => L_M_flush_87 g kc n2 w1 w2 (w3 + 1) u_124)))) := by first | rfl | rw [L_M_flush_87]
def S_M_flush_87 (g : GM) (kS : Int32 → Int32 → Ms → Prop) : Nat → Int32 → Int32 → Int32 → Ms → Prop
  | 0, _, _, _, _ => True
  | n2 + 1, w1, w2, w3, zz => (vp_in w2 5 ∧ (((((64 : Int32) * w2) + (zz.2.1.1 w2.toNatClampNeg)) ≤ w3 → kS w1 (w2 + 1) zz) ∧ (¬ (((64 : Int32) * w2) + (zz.2.1.1 w2.toNatClampNeg)) ≤ w3 → (vp_in w3 320 ∧ (((zz.2.1.2.2.1 w3.toNatClampNeg) = 0 → (mu (w3 + 1) (((64 : Int32) * w2) + (zz.2.1.1 w2.toNatClampNeg)) < mu w3 (((64 : Int32) * w2) + (zz.2.1.1 w2.toNatClampNeg)) ∧ S_M_flush_87 g kS n2 w1 w2 (w3 + 1) zz)) ∧ (¬ (zz.2.1.2.2.1 w3.toNatClampNeg) = 0 → (vp_in w3 320 ∧ (vp_in w3 320 ∧ (S_M_toMemory g zz (zz.2.1.2.1 w3.toNatClampNeg) (zz.2.1.2.2.2.1 w3.toNatClampNeg) ∧ (bnd (M_M_toMemory g zz (zz.2.1.2.1 w3.toNatClampNeg) (zz.2.1.2.2.2.1 w3.toNatClampNeg)) (fun u_124 => (mu (w3 + 1) (((64 : Int32) * w2) + (u_124.2.1.1 w2.toNatClampNeg)) < mu w3 (((64 : Int32) * w2) + (zz.2.1.1 w2.toNatClampNeg)) ∧ S_M_flush_87 g kS n2 w1 w2 (w3 + 1) u_124))))))))))))
theorem S_M_flush_87_eq (g : GM) (kS : Int32 → Int32 → Ms → Prop) (n2 : Nat) (w1 w2 w3 : Int32) (zz : Ms) : S_M_flush_87 g kS (n2 + 1) w1 w2 w3 zz = (vp_in w2 5 ∧ (((((64 : Int32) * w2) + (zz.2.1.1 w2.toNatClampNeg)) ≤ w3 → kS w1 (w2 + 1) zz) ∧ (¬ (((64 : Int32) * w2) + (zz.2.1.1 w2.toNatClampNeg)) ≤ w3 → (vp_in w3 320 ∧ (((zz.2.1.2.2.1 w3.toNatClampNeg) = 0 → (mu (w3 + 1) (((64 : Int32) * w2) + (zz.2.1.1 w2.toNatClampNeg)) < mu w3 (((64 : Int32) * w2) + (zz.2.1.1 w2.toNatClampNeg)) ∧ S_M_flush_87 g kS n2 w1 w2 (w3 + 1) zz)) ∧ (¬ (zz.2.1.2.2.1 w3.toNatClampNeg) = 0 → (vp_in w3 320 ∧ (vp_in w3 320 ∧ (S_M_toMemory g zz (zz.2.1.2.1 w3.toNatClampNeg) (zz.2.1.2.2.2.1 w3.toNatClampNeg) ∧ (bnd (M_M_toMemory g zz (zz.2.1.2.1 w3.toNatClampNeg) (zz.2.1.2.2.2.1 w3.toNatClampNeg)) (fun u_124 => (mu (w3 + 1) (((64 : Int32) * w2) + (u_124.2.1.1 w2.toNatClampNeg)) < mu w3 (((64 : Int32) * w2) + (zz.2.1.1 w2.toNatClampNeg)) ∧ S_M_flush_87 g kS n2 w1 w2 (w3 + 1) u_124)))))))))))) := by first | rfl | rw [S_M_flush_87]
def L_M_flush_74 (g : GM) : Nat → Int32 → Int32 → Ms → Int32 × Ms
  | 0, _, _, z => (0, z)
  | n + 1, v1, v2, z => (if g.2.1 ≤ v2 then L_M_flush_141 g (mu (0 : Int32) (5 : Int32) + 1) v1 (0 : Int32) z else L_M_flush_87 g (fun (a1 a2 : Int32) (z9 : Ms) => L_M_flush_74 g n a1 a2 z9) (mu ((64 : Int32) * v2) (((64 : Int32) * v2) + (z.2.1.1 v2.toNatClampNeg)) + 1) v1 v2 ((64 : Int32) * v2) z)
theorem L_M_flush_74_eq (g : GM) (n : Nat) (v1 v2 : Int32) (z : Ms) : L_M_flush_74 g (n + 1) v1 v2 z = (if g.2.1 ≤ v2 then L_M_flush_141 g (mu (0 : Int32) (5 : Int32) + 1) v1 (0 : Int32) z else L_M_flush_87 g (fun (a1 a2 : Int32) (z9 : Ms) => L_M_flush_74 g n a1 a2 z9) (mu ((64 : Int32) * v2) (((64 : Int32) * v2) + (z.2.1.1 v2.toNatClampNeg)) + 1) v1 v2 ((64 : Int32) * v2) z) := by first | rfl | rw [L_M_flush_74]
def S_M_flush_74 (g : GM) : Nat → Int32 → Int32 → Ms → Prop
  | 0, _, _, _ => True
  | n + 1, v1, v2, z => ((g.2.1 ≤ v2 → S_M_flush_141 g (mu (0 : Int32) (5 : Int32) + 1) v1 (0 : Int32) z) ∧ (¬ g.2.1 ≤ v2 → S_M_flush_87 g (fun (a1 a2 : Int32) (z9 : Ms) => (mu a2 g.2.1 < mu v2 g.2.1 ∧ S_M_flush_74 g n a1 a2 z9)) (mu ((64 : Int32) * v2) (((64 : Int32) * v2) + (z.2.1.1 v2.toNatClampNeg)) + 1) v1 v2 ((64 : Int32) * v2) z))
theorem S_M_flush_74_eq (g : GM) (n : Nat) (v1 v2 : Int32) (z : Ms) : S_M_flush_74 g (n + 1) v1 v2 z = ((g.2.1 ≤ v2 → S_M_flush_141 g (mu (0 : Int32) (5 : Int32) + 1) v1 (0 : Int32) z) ∧ (¬ g.2.1 ≤ v2 → S_M_flush_87 g (fun (a1 a2 : Int32) (z9 : Ms) => (mu a2 g.2.1 < mu v2 g.2.1 ∧ S_M_flush_74 g n a1 a2 z9)) (mu ((64 : Int32) * v2) (((64 : Int32) * v2) + (z.2.1.1 v2.toNatClampNeg)) + 1) v1 v2 ((64 : Int32) * v2) z)) := by first | rfl | rw [S_M_flush_74]
def L_M_flush_14 (g : GM) : Nat → Int32 → Int32 → Ms → Int32 × Ms
  | 0, _, _, z => (0, z)
  | n + 1, v1, v2, z => (if ((256 : Int32) + (z.2.1.1 (4 : Int32).toNatClampNeg)) ≤ v2 then L_M_flush_74 g (mu (0 : Int32) g.2.1 + 1) v1 (0 : Int32) z else (if (z.2.1.2.2.1 v2.toNatClampNeg) = 0 then L_M_flush_14 g n v1 (v2 + 1) z else (bnd (M_M_isWrittenInFirst g z (z.2.1.2.1 v2.toNatClampNeg)) (fun r_44 => (if r_44 = 0 then (bnd (M_M_toMemory g z (z.2.1.2.1 v2.toNatClampNeg) (z.2.1.2.2.2.1 v2.toNatClampNeg)) (fun u_63 => L_M_flush_14 g n v1 (v2 + 1) u_63)) else L_M_flush_14 g n v1 (v2 + 1) z)))))
theorem L_M_flush_14_eq (g : GM) (n : Nat) (v1 v2 : Int32) (z : Ms) : L_M_flush_14 g (n + 1) v1 v2 z = (if ((256 : Int32) + (z.2.1.1 (4 : Int32).toNatClampNeg)) ≤ v2 then L_M_flush_74 g (mu (0 : Int32) g.2.1 + 1) v1 (0 : Int32) z else (if (z.2.1.2.2.1 v2.toNatClampNeg) = 0 then L_M_flush_14 g n v1 (v2 + 1) z else (bnd (M_M_isWrittenInFirst g z (z.2.1.2.1 v2.toNatClampNeg)) (fun r_44 => (if r_44 = 0 then (bnd (M_M_toMemory g z (z.2.1.2.1 v2.toNatClampNeg) (z.2.1.2.2.2.1 v2.toNatClampNeg)) (fun u_63 => L_M_flush_14 g n v1 (v2 + 1) u_63)) else L_M_flush_14 g n v1 (v2 + 1) z))))) := by first | rfl | rw [L_M_flush_14]
def S_M_flush_14 (g : GM) : Nat → Int32 → Int32 → Ms → Prop
  | 0, _, _, _ => True
  | n + 1, v1, v2, z => (vp_in (4 : Int32) 5 ∧ ((((256 : Int32) + (z.2.1.1 (4 : Int32).toNatClampNeg)) ≤ v2 → S_M_flush_74 g (mu (0 : Int32) g.2.1 + 1) v1 (0 : Int32) z) ∧ (¬ ((256 : Int32) + (z.2.1.1 (4 : Int32).toNatClampNeg)) ≤ v2 → (vp_in v2 320 ∧ (((z.2.1.2.2.1 v2.toNatClampNeg) = 0 → (mu (v2 + 1) ((256 : Int32) + (z.2.1.1 (4 : Int32).toNatClampNeg)) < mu v2 ((256 : Int32) + (z.2.1.1 (4 : Int32).toNatClampNeg)) ∧ S_M_flush_14 g n v1 (v2 + 1) z)) ∧ (¬ (z.2.1.2.2.1 v2.toNatClampNeg) = 0 → (vp_in v2 320 ∧ (S_M_isWrittenInFirst g z (z.2.1.2.1 v2.toNatClampNeg) ∧ (bnd (M_M_isWrittenInFirst g z (z.2.1.2.1 v2.toNatClampNeg)) (fun r_44 => ((r_44 = 0 → (vp_in v2 320 ∧ (vp_in v2 320 ∧ (S_M_toMemory g z (z.2.1.2.1 v2.toNatClampNeg) (z.2.1.2.2.2.1 v2.toNatClampNeg) ∧ (bnd (M_M_toMemory g z (z.2.1.2.1 v2.toNatClampNeg) (z.2.1.2.2.2.1 v2.toNatClampNeg)) (fun u_63 => (mu (v2 + 1) ((256 : Int32) + (u_63.2.1.1 (4 : Int32).toNatClampNeg)) < mu v2 ((256 : Int32) + (z.2.1.1 (4 : Int32).toNatClampNeg)) ∧ S_M_flush_14 g n v1 (v2 + 1) u_63))))))) ∧ (¬ r_44 = 0 → (mu (v2 + 1) ((256 : Int32) + (z.2.1.1 (4 : Int32).toNatClampNeg)) < mu v2 ((256 : Int32) + (z.2.1.1 (4 : Int32).toNatClampNeg)) ∧ S_M_flush_14 g n v1 (v2 + 1) z)))))))))))))
theorem S_M_flush_14_eq (g : GM) (n : Nat) (v1 v2 : Int32) (z : Ms) : S_M_flush_14 g (n + 1) v1 v2 z = (vp_in (4 : Int32) 5 ∧ ((((256 : Int32) + (z.2.1.1 (4 : Int32).toNatClampNeg)) ≤ v2 → S_M_flush_74 g (mu (0 : Int32) g.2.1 + 1) v1 (0 : Int32) z) ∧ (¬ ((256 : Int32) + (z.2.1.1 (4 : Int32).toNatClampNeg)) ≤ v2 → (vp_in v2 320 ∧ (((z.2.1.2.2.1 v2.toNatClampNeg) = 0 → (mu (v2 + 1) ((256 : Int32) + (z.2.1.1 (4 : Int32).toNatClampNeg)) < mu v2 ((256 : Int32) + (z.2.1.1 (4 : Int32).toNatClampNeg)) ∧ S_M_flush_14 g n v1 (v2 + 1) z)) ∧ (¬ (z.2.1.2.2.1 v2.toNatClampNeg) = 0 → (vp_in v2 320 ∧ (S_M_isWrittenInFirst g z (z.2.1.2.1 v2.toNatClampNeg) ∧ (bnd (M_M_isWrittenInFirst g z (z.2.1.2.1 v2.toNatClampNeg)) (fun r_44 => ((r_44 = 0 → (vp_in v2 320 ∧ (vp_in v2 320 ∧ (S_M_toMemory g z (z.2.1.2.1 v2.toNatClampNeg) (z.2.1.2.2.2.1 v2.toNatClampNeg) ∧ (bnd (M_M_toMemory g z (z.2.1.2.1 v2.toNatClampNeg) (z.2.1.2.2.2.1 v2.toNatClampNeg)) (fun u_63 => (mu (v2 + 1) ((256 : Int32) + (u_63.2.1.1 (4 : Int32).toNatClampNeg)) < mu v2 ((256 : Int32) + (z.2.1.1 (4 : Int32).toNatClampNeg)) ∧ S_M_flush_14 g n v1 (v2 + 1) u_63))))))) ∧ (¬ r_44 = 0 → (mu (v2 + 1) ((256 : Int32) + (z.2.1.1 (4 : Int32).toNatClampNeg)) < mu v2 ((256 : Int32) + (z.2.1.1 (4 : Int32).toNatClampNeg)) ∧ S_M_flush_14 g n v1 (v2 + 1) z))))))))))))) := by first | rfl | rw [S_M_flush_14]
def M_M_flush (g : GM) (x : Ms) : Int32 × Ms := L_M_flush_14 g (mu (256 : Int32) ((256 : Int32) + ((((0 : Int32), x.1.2.1, x.1.2.2.1, x.1.2.2.2.1, x.1.2.2.2.2.1, x.1.2.2.2.2.2), x.2.1, x.2.2.1, x.2.2.2.1, x.2.2.2.2).2.1.1 (4 : Int32).toNatClampNeg)) + 1) x.1.2.2.2.2.1 (256 : Int32) (((0 : Int32), x.1.2.1, x.1.2.2.1, x.1.2.2.2.1, x.1.2.2.2.2.1, x.1.2.2.2.2.2), x.2.1, x.2.2.1, x.2.2.2.1, x.2.2.2.2)
theorem M_M_flush_eq (g : GM) (x : Ms) : M_M_flush g x = L_M_flush_14 g (mu (256 : Int32) ((256 : Int32) + ((((0 : Int32), x.1.2.1, x.1.2.2.1, x.1.2.2.2.1, x.1.2.2.2.2.1, x.1.2.2.2.2.2), x.2.1, x.2.2.1, x.2.2.2.1, x.2.2.2.2).2.1.1 (4 : Int32).toNatClampNeg)) + 1) x.1.2.2.2.2.1 (256 : Int32) (((0 : Int32), x.1.2.1, x.1.2.2.1, x.1.2.2.2.1, x.1.2.2.2.2.1, x.1.2.2.2.2.2), x.2.1, x.2.2.1, x.2.2.2.1, x.2.2.2.2) := rfl
def S_M_flush (g : GM) (x : Ms) : Prop := S_M_flush_14 g (mu (256 : Int32) ((256 : Int32) + ((((0 : Int32), x.1.2.1, x.1.2.2.1, x.1.2.2.2.1, x.1.2.2.2.2.1, x.1.2.2.2.2.2), x.2.1, x.2.2.1, x.2.2.2.1, x.2.2.2.2).2.1.1 (4 : Int32).toNatClampNeg)) + 1) x.1.2.2.2.2.1 (256 : Int32) (((0 : Int32), x.1.2.1, x.1.2.2.1, x.1.2.2.2.1, x.1.2.2.2.2.1, x.1.2.2.2.2.2), x.2.1, x.2.2.1, x.2.2.2.1, x.2.2.2.2)
theorem S_M_flush_eq (g : GM) (x : Ms) : S_M_flush g x = S_M_flush_14 g (mu (256 : Int32) ((256 : Int32) + ((((0 : Int32), x.1.2.1, x.1.2.2.1, x.1.2.2.2.1, x.1.2.2.2.2.1, x.1.2.2.2.2.2), x.2.1, x.2.2.1, x.2.2.2.1, x.2.2.2.2).2.1.1 (4 : Int32).toNatClampNeg)) + 1) x.1.2.2.2.2.1 (256 : Int32) (((0 : Int32), x.1.2.1, x.1.2.2.1, x.1.2.2.2.1, x.1.2.2.2.2.1, x.1.2.2.2.2.2), x.2.1, x.2.2.1, x.2.2.2.1, x.2.2.2.2) := rfl
abbrev w_M_flush : List Cond := .code y_M_flush b_M_flush 4 (some .int) :: tbW
abbrev rm_M_flush : Room := { frames := 3, cells := 0, slots := 0, locals := 66 }
set_option maxHeartbeats 4000000 in
set_option maxRecDepth 100000 in
theorem c_M_flush (l : Launch) (D : va_G) (cI cZ : ClassId) (g : GM) (hg : okM g) (x : Ms) (hs : S_M_flush g x) : Met l y_M_flush w_M_flush rm_M_flush (PcW D vwCl (tyK cI cZ) [.ref g.1.1] (wM cI cZ g x)) (va_Qi (fun (r : Int32) (u : Ms) => (r, u) = M_M_flush g x) (fun (u : Ms) (t : State) => va_P D vwCl (wM cI cZ g u) t.heap) (Aw (wM cI cZ g x))) 0 0 (Aw (wM cI cZ g x)) := by
  refine Met.ofW (cc := b_M_flush) (maxL := 4) (ret := (some .int)) (by decide) rfl ?_
  intro p e s m args below meth c s₁ B hml hv
  obtain ⟨rfl, hP, hK, hD0⟩ := hv
  have hx := B.exec
  have hb := B.bytes
  have hr := B.returns
  have htb : ∀ w ∈ tbW, w.before _ s = true := fun w h => atoms_spec (ws := w_M_flush) B.pre w (List.mem_cons_of_mem _ h)
  have hown : s.vm.findClass R_M = some m.cls := findClass_of_methodNamed B.named
  have hlocks := B.notSynchronized
  have hD : va_D (Aw (wM cI cZ g x)) (wM cI cZ g x) := ⟨hD0.1, fun k q hk => ⟨k, q.2, hk⟩⟩
  have hS : va_S (Aw (wM cI cZ g x)) s.heap s.heap [] := va_S.rf
  have cut_141 : ∀ (n : Nat) (v1 v2 : Int32) (z : Ms) (H : Heap) (locs : List Loc) (ls : Array Slot), mu v2 (5 : Int32) < n → M_M_flush g x = L_M_flush_141 g n v1 v2 z → S_M_flush_141 g n v1 v2 z → va_P D vwCl (wM cI cZ g z) H → va_D (Aw (wM cI cZ g x)) (wM cI cZ g z) → va_S (Aw (wM cI cZ g x)) s.heap H locs → lv_has ls 4 [(0, .ref g.1.1), (1, .int v1), (2, .int v2)] → W p l e (headSpec w_M_flush rm_M_flush).room s m ([.ref g.1.1] : List Value).toArray below meth c H locs 0 0 (MQ below (va_Qi (fun (r : Int32) (u : Ms) => (r, u) = M_M_flush g x) (fun (u : Ms) (t : State) => va_P D vwCl (wM cI cZ g u) t.heap) (Aw (wM cI cZ g x))) ([.ref g.1.1] : List Value).toArray s 0 0 (Aw (wM cI cZ g x))) (F0 m 141 ls []) := by
    intro n
    induction n with
    | zero => intro v1 v2 z H locs ls hm _ _ _ _ _ _; exact absurd hm (Nat.not_lt_zero _)
    | succ n ih =>
      intro v1 v2 z H locs ls hm hF hs hP hD hS hl
      have hF := hF.trans (L_M_flush_141_eq g n v1 v2 z)
      have hs := Eq.mp (S_M_flush_141_eq g n v1 v2 z) hs
      refine lv_iload_n hx hb d_M_flush_141 rfl (lv_at hl 2 rfl) ?_
      refine lv_iconst (v := 5) hx hb d_M_flush_142 (by decide) ?_
      refine lv_icmp_ge (tgt := 159) hx hb d_M_flush_143 (by decide) (fun c_143 => ?_) (fun c_143 => ?_)
      · have hF := hF.trans (if_pos c_143)
        have hs := hs.1 c_143
        refine lv_aload_n hx hb d_M_flush_159 rfl (lv_at hl 0 rfl) ?_
        refine va_get (D := D) (ci := 3) (v := .int z.1.2.2.2.2.1) (C := R_M) (T := T_M) (N := 20) hx hb htb i_M hown hK hP 0 rfl rfl 18 (by decide) (htb _ k_M_95) (fun _ h9 => h9) rfl d_M_flush_160 ?_
        refine lv_iload_n hx hb d_M_flush_163 rfl (lv_at hl 1 rfl) ?_
        refine lv_isub hx hb d_M_flush_164 ?_
        exact W.iret (v := (z.1.2.2.2.2.1 - v1)) hx hb hr (fun t ht hW => ⟨⟨(z.1.2.2.2.2.1 - v1), z, rfl, hF.symm, by dsimp only; rw [ht]; exact hP⟩, hS.F ht⟩) hS.2.2 d_M_flush_165
      · have hF := hF.trans (if_neg c_143)
        have hs := hs.2 c_143
        refine lv_aload_n hx hb d_M_flush_146 rfl (lv_at hl 0 rfl) ?_
        refine va_get (D := D) (ci := 3) (v := .ref g.1.2.1) (C := R_M) (T := T_M) (N := 20) hx hb htb i_M hown hK hP 0 rfl rfl 5 (by decide) (htb _ k_M_7) (fun _ h9 => h9) rfl d_M_flush_147 ?_
        refine lv_iload_n hx hb d_M_flush_150 rfl (lv_at hl 2 rfl) ?_
        refine lv_iconst (v := 0) hx hb d_M_flush_151 (by decide) ?_
        refine va_iast hx hb hK hP hD hS 1 0 rfl rfl hs.1 d_M_flush_152 (fun H locs hP hD hS => ?_)
        have hs := hs.2
        have hP : va_P D vwCl (wM cI cZ g (z.1, ((upd z.2.1.1 v2.toNatClampNeg (0 : Int32)), z.2.1.2.1, z.2.1.2.2.1, z.2.1.2.2.2.1, z.2.1.2.2.2.2), z.2.2.1, z.2.2.2.1, z.2.2.2.2)) H := hP
        have hD : va_D _ (wM cI cZ g (z.1, ((upd z.2.1.1 v2.toNatClampNeg (0 : Int32)), z.2.1.2.1, z.2.1.2.2.1, z.2.1.2.2.2.1, z.2.1.2.2.2.2), z.2.2.1, z.2.2.2.1, z.2.2.2.2)) := hD
        refine lv_iinc (v := (v2 + 1)) (lv' := [(2, .int (v2 + 1)), (0, .ref g.1.1), (1, .int v1)]) hx hb d_M_flush_153 hl (k := 2) rfl rfl (by decide) rfl (fun ls hl => ?_)
        refine lv_goto (tgt := 141) hx hb d_M_flush_156 (by decide) ?_
        have hl := lv_sub (l' := [(0, .ref g.1.1), (1, .int v1), (2, .int (v2 + 1))]) hl [1, 2, 0] rfl
        exact ih v1 (v2 + 1) (z.1, ((upd z.2.1.1 v2.toNatClampNeg (0 : Int32)), z.2.1.2.1, z.2.1.2.2.1, z.2.1.2.2.2.1, z.2.1.2.2.2.2), z.2.2.1, z.2.2.2.1, z.2.2.2.2) _ _ _ (Nat.lt_of_lt_of_le hs.1 (Nat.le_of_lt_succ hm)) hF hs.2 hP hD hS hl
  have cut_74 : ∀ (n : Nat) (v1 v2 : Int32) (z : Ms) (H : Heap) (locs : List Loc) (ls : Array Slot), mu v2 g.2.1 < n → M_M_flush g x = L_M_flush_74 g n v1 v2 z → S_M_flush_74 g n v1 v2 z → va_P D vwCl (wM cI cZ g z) H → va_D (Aw (wM cI cZ g x)) (wM cI cZ g z) → va_S (Aw (wM cI cZ g x)) s.heap H locs → lv_has ls 4 [(0, .ref g.1.1), (1, .int v1), (2, .int v2)] → W p l e (headSpec w_M_flush rm_M_flush).room s m ([.ref g.1.1] : List Value).toArray below meth c H locs 0 0 (MQ below (va_Qi (fun (r : Int32) (u : Ms) => (r, u) = M_M_flush g x) (fun (u : Ms) (t : State) => va_P D vwCl (wM cI cZ g u) t.heap) (Aw (wM cI cZ g x))) ([.ref g.1.1] : List Value).toArray s 0 0 (Aw (wM cI cZ g x))) (F0 m 74 ls []) := by
    intro n
    induction n with
    | zero => intro v1 v2 z H locs ls hm _ _ _ _ _ _; exact absurd hm (Nat.not_lt_zero _)
    | succ n ih =>
      intro v1 v2 z H locs ls hm hF hs hP hD hS hl
      have hF := hF.trans (L_M_flush_74_eq g n v1 v2 z)
      have hs := Eq.mp (S_M_flush_74_eq g n v1 v2 z) hs
      have cut_87 : ∀ (n2 : Nat) (w1 w2 w3 : Int32) (zz : Ms) (H : Heap) (locs : List Loc) (ls : Array Slot), mu w3 (((64 : Int32) * w2) + (zz.2.1.1 w2.toNatClampNeg)) < n2 → M_M_flush g x = L_M_flush_87 g (fun (a1 a2 : Int32) (z9 : Ms) => L_M_flush_74 g n a1 a2 z9) n2 w1 w2 w3 zz → S_M_flush_87 g (fun (a1 a2 : Int32) (z9 : Ms) => (mu a2 g.2.1 < mu v2 g.2.1 ∧ S_M_flush_74 g n a1 a2 z9)) n2 w1 w2 w3 zz → va_P D vwCl (wM cI cZ g zz) H → va_D (Aw (wM cI cZ g x)) (wM cI cZ g zz) → va_S (Aw (wM cI cZ g x)) s.heap H locs → lv_has ls 4 [(0, .ref g.1.1), (1, .int w1), (2, .int w2), (3, .int w3)] → W p l e (headSpec w_M_flush rm_M_flush).room s m ([.ref g.1.1] : List Value).toArray below meth c H locs 0 0 (MQ below (va_Qi (fun (r : Int32) (u : Ms) => (r, u) = M_M_flush g x) (fun (u : Ms) (t : State) => va_P D vwCl (wM cI cZ g u) t.heap) (Aw (wM cI cZ g x))) ([.ref g.1.1] : List Value).toArray s 0 0 (Aw (wM cI cZ g x))) (F0 m 87 ls []) := by
        intro n2
        induction n2 with
        | zero => intro w1 w2 w3 zz H locs ls hm2 _ _ _ _ _ _; exact absurd hm2 (Nat.not_lt_zero _)
        | succ n2 ih2 =>
          intro w1 w2 w3 zz H locs ls hm2 hF hs hP hD hS hl
          have hF := hF.trans (L_M_flush_87_eq g (fun (a1 a2 : Int32) (z9 : Ms) => L_M_flush_74 g n a1 a2 z9) n2 w1 w2 w3 zz)
          have hs := Eq.mp (S_M_flush_87_eq g (fun (a1 a2 : Int32) (z9 : Ms) => (mu a2 g.2.1 < mu v2 g.2.1 ∧ S_M_flush_74 g n a1 a2 z9)) n2 w1 w2 w3 zz) hs
          refine lv_iload_n hx hb d_M_flush_87 rfl (lv_at hl 3 rfl) ?_
          refine lv_bipush (v := 64) hx hb d_M_flush_88 (by decide) ?_
          refine lv_iload_n hx hb d_M_flush_90 rfl (lv_at hl 2 rfl) ?_
          refine lv_imul hx hb d_M_flush_91 ?_
          refine lv_aload_n hx hb d_M_flush_92 rfl (lv_at hl 0 rfl) ?_
          refine va_get (D := D) (ci := 3) (v := .ref g.1.2.1) (C := R_M) (T := T_M) (N := 20) hx hb htb i_M hown hK hP 0 rfl rfl 5 (by decide) (htb _ k_M_7) (fun _ h9 => h9) rfl d_M_flush_93 ?_
          refine lv_iload_n hx hb d_M_flush_96 rfl (lv_at hl 2 rfl) ?_
          refine va_iald hx hb hK hP 1 0 rfl rfl hs.1 d_M_flush_97 ?_
          have hs := hs.2
          refine lv_iadd hx hb d_M_flush_98 ?_
          refine lv_icmp_ge (tgt := 133) hx hb d_M_flush_99 (by decide) (fun c_99 => ?_) (fun c_99 => ?_)
          · have hF := hF.trans (if_pos c_99)
            have hs := hs.1 c_99
            refine lv_iinc (v := (w2 + 1)) (lv' := [(2, .int (w2 + 1)), (0, .ref g.1.1), (1, .int w1), (3, .int w3)]) hx hb d_M_flush_133 hl (k := 2) rfl rfl (by decide) rfl (fun ls hl => ?_)
            refine lv_goto (tgt := 74) hx hb d_M_flush_136 (by decide) ?_
            have hl := lv_sub (l' := [(0, .ref g.1.1), (1, .int w1), (2, .int (w2 + 1))]) hl [1, 2, 0] rfl
            exact ih w1 (w2 + 1) zz _ _ _ (Nat.lt_of_lt_of_le hs.1 (Nat.le_of_lt_succ hm)) hF hs.2 hP hD hS hl
          · have hF := hF.trans (if_neg c_99)
            have hs := hs.2 c_99
            refine lv_aload_n hx hb d_M_flush_102 rfl (lv_at hl 0 rfl) ?_
            refine va_get (D := D) (ci := 3) (v := .ref g.1.2.2.2.1) (C := R_M) (T := T_M) (N := 20) hx hb htb i_M hown hK hP 0 rfl rfl 7 (by decide) (htb _ k_M_16) (fun _ h9 => h9) rfl d_M_flush_103 ?_
            refine lv_iload_n hx hb d_M_flush_106 rfl (lv_at hl 3 rfl) ?_
            refine va_zald hx hb hK hP 3 1 rfl rfl hs.1 d_M_flush_107 ?_
            have hs := hs.2
            refine lv_if_eq (tgt := 127) hx hb d_M_flush_108 (by decide) (fun c_108 => ?_) (fun c_108 => ?_)
            · have hF := hF.trans (if_pos c_108)
              have hs := hs.1 c_108
              refine lv_iinc (v := (w3 + 1)) (lv' := [(3, .int (w3 + 1)), (0, .ref g.1.1), (1, .int w1), (2, .int w2)]) hx hb d_M_flush_127 hl (k := 3) rfl rfl (by decide) rfl (fun ls hl => ?_)
              refine lv_goto (tgt := 87) hx hb d_M_flush_130 (by decide) ?_
              have hl := lv_sub (l' := [(0, .ref g.1.1), (1, .int w1), (2, .int w2), (3, .int (w3 + 1))]) hl [1, 2, 3, 0] rfl
              exact ih2 w1 w2 (w3 + 1) zz _ _ _ (Nat.lt_of_lt_of_le hs.1 (Nat.le_of_lt_succ hm2)) hF hs.2 hP hD hS hl
            · have hF := hF.trans (if_neg c_108)
              have hs := hs.2 c_108
              refine lv_aload_n hx hb d_M_flush_111 rfl (lv_at hl 0 rfl) ?_
              refine lv_aload_n hx hb d_M_flush_112 rfl (lv_at hl 0 rfl) ?_
              refine va_get (D := D) (ci := 3) (v := .ref g.1.2.2.1) (C := R_M) (T := T_M) (N := 20) hx hb htb i_M hown hK hP 0 rfl rfl 6 (by decide) (htb _ k_M_13) (fun _ h9 => h9) rfl d_M_flush_113 ?_
              refine lv_iload_n hx hb d_M_flush_116 rfl (lv_at hl 3 rfl) ?_
              refine va_iald hx hb hK hP 2 0 rfl rfl hs.1 d_M_flush_117 ?_
              have hs := hs.2
              refine lv_aload_n hx hb d_M_flush_118 rfl (lv_at hl 0 rfl) ?_
              refine va_get (D := D) (ci := 3) (v := .ref g.1.2.2.2.2.1) (C := R_M) (T := T_M) (N := 20) hx hb htb i_M hown hK hP 0 rfl rfl 8 (by decide) (htb _ k_M_20) (fun _ h9 => h9) rfl d_M_flush_119 ?_
              refine lv_iload_n hx hb d_M_flush_122 rfl (lv_at hl 3 rfl) ?_
              refine va_iald hx hb hK hP 4 0 rfl rfl hs.1 d_M_flush_123 ?_
              have hs := hs.2
              refine cwv_ (As := [.int (zz.2.1.2.1 w3.toNatClampNeg), .int (zz.2.1.2.2.2.1 w3.toNatClampNeg)]) (rest := []) (wldC := fun u => (wM cI cZ g u)) ⟨hx, hb, hml, hown, htb⟩ (c_M_toMemory l D cI cZ g hg zz (zz.2.1.2.1 w3.toNatClampNeg) (zz.2.1.2.2.2.1 w3.toNatClampNeg) hs.1) (cwv (n := 2) htb cd_M_toMemory k_M_101 in_M_toMemory se_M_toMemory ini_M hd_M_toMemory ⟨Nat.le_of_ble_eq_true rfl, Nat.le_of_ble_eq_true rfl⟩) hK hP hD hS [0, 1, 2, 3, 4, 5, 6, 7, 8, 9, 10] [] [0, 1, 2, 3, 4, 5, 6, 7, 8, 9, 10] rfl rfl (by decide) (by decide) rfl (fun _ => rfl) (fun _ => rfl) (ci := 3) rfl rfl rfl hl.1 rfl (Nat.le_of_ble_eq_true rfl) d_M_flush_124 ⟨Nat.zero_le _, Nat.zero_le _⟩ (fun u_124 H locs hw_124 hP hD hS => ?_)
              have hP : va_P D vwCl (wM cI cZ g u_124) H := hP
              have hD : va_D _ (wM cI cZ g u_124) := hD
              have hF := hF.trans (bnd_eq hw_124)
              have hs := Eq.mp (bnd_eq hw_124) hs.2
              refine lv_iinc (v := (w3 + 1)) (lv' := [(3, .int (w3 + 1)), (0, .ref g.1.1), (1, .int w1), (2, .int w2)]) hx hb d_M_flush_127 hl (k := 3) rfl rfl (by decide) rfl (fun ls hl => ?_)
              refine lv_goto (tgt := 87) hx hb d_M_flush_130 (by decide) ?_
              have hl := lv_sub (l' := [(0, .ref g.1.1), (1, .int w1), (2, .int w2), (3, .int (w3 + 1))]) hl [1, 2, 3, 0] rfl
              exact ih2 w1 w2 (w3 + 1) u_124 _ _ _ (Nat.lt_of_lt_of_le hs.1 (Nat.le_of_lt_succ hm2)) hF hs.2 hP hD hS hl
      refine lv_iload_n hx hb d_M_flush_74 rfl (lv_at hl 2 rfl) ?_
      refine lv_aload_n hx hb d_M_flush_75 rfl (lv_at hl 0 rfl) ?_
      refine va_get (D := D) (ci := 3) (v := .int g.2.1) (C := R_M) (T := T_M) (N := 20) hx hb htb i_M hown hK hP 0 rfl rfl 1 (by decide) (htb _ k_M_45) (fun _ h9 => h9) rfl d_M_flush_76 ?_
      refine lv_icmp_ge (tgt := 139) hx hb d_M_flush_79 (by decide) (fun c_79 => ?_) (fun c_79 => ?_)
      · have hF := hF.trans (if_pos c_79)
        have hs := hs.1 c_79
        refine lv_iconst (v := 0) hx hb d_M_flush_139 (by decide) ?_
        refine lv_istore_n (lv' := [(2, .int (0 : Int32)), (0, .ref g.1.1), (1, .int v1)]) hx hb d_M_flush_140 rfl hl (by decide) rfl (fun ls hl => ?_)
        have hl := lv_sub (l' := [(0, .ref g.1.1), (1, .int v1), (2, .int (0 : Int32))]) hl [1, 2, 0] rfl
        exact cut_141 (mu (0 : Int32) (5 : Int32) + 1) v1 (0 : Int32) z _ _ _ (Nat.lt_succ_self _) hF hs hP hD hS hl
      · have hF := hF.trans (if_neg c_79)
        have hs := hs.2 c_79
        refine lv_bipush (v := 64) hx hb d_M_flush_82 (by decide) ?_
        refine lv_iload_n hx hb d_M_flush_84 rfl (lv_at hl 2 rfl) ?_
        refine lv_imul hx hb d_M_flush_85 ?_
        refine lv_istore_n (lv' := [(3, .int ((64 : Int32) * v2)), (0, .ref g.1.1), (1, .int v1), (2, .int v2)]) hx hb d_M_flush_86 rfl hl (by decide) rfl (fun ls hl => ?_)
        have hl := lv_sub (l' := [(0, .ref g.1.1), (1, .int v1), (2, .int v2), (3, .int ((64 : Int32) * v2))]) hl [1, 2, 3, 0] rfl
        exact cut_87 (mu ((64 : Int32) * v2) (((64 : Int32) * v2) + (z.2.1.1 v2.toNatClampNeg)) + 1) v1 v2 ((64 : Int32) * v2) z _ _ _ (Nat.lt_succ_self _) hF hs hP hD hS hl
  have cut_14 : ∀ (n : Nat) (v1 v2 : Int32) (z : Ms) (H : Heap) (locs : List Loc) (ls : Array Slot), mu v2 ((256 : Int32) + (z.2.1.1 (4 : Int32).toNatClampNeg)) < n → M_M_flush g x = L_M_flush_14 g n v1 v2 z → S_M_flush_14 g n v1 v2 z → va_P D vwCl (wM cI cZ g z) H → va_D (Aw (wM cI cZ g x)) (wM cI cZ g z) → va_S (Aw (wM cI cZ g x)) s.heap H locs → lv_has ls 4 [(0, .ref g.1.1), (1, .int v1), (2, .int v2)] → W p l e (headSpec w_M_flush rm_M_flush).room s m ([.ref g.1.1] : List Value).toArray below meth c H locs 0 0 (MQ below (va_Qi (fun (r : Int32) (u : Ms) => (r, u) = M_M_flush g x) (fun (u : Ms) (t : State) => va_P D vwCl (wM cI cZ g u) t.heap) (Aw (wM cI cZ g x))) ([.ref g.1.1] : List Value).toArray s 0 0 (Aw (wM cI cZ g x))) (F0 m 14 ls []) := by
    intro n
    induction n with
    | zero => intro v1 v2 z H locs ls hm _ _ _ _ _ _; exact absurd hm (Nat.not_lt_zero _)
    | succ n ih =>
      intro v1 v2 z H locs ls hm hF hs hP hD hS hl
      have hF := hF.trans (L_M_flush_14_eq g n v1 v2 z)
      have hs := Eq.mp (S_M_flush_14_eq g n v1 v2 z) hs
      refine lv_iload_n hx hb d_M_flush_14 rfl (lv_at hl 2 rfl) ?_
      refine lv_sipush (v := 256) hx hb d_M_flush_15 (by decide) ?_
      refine lv_aload_n hx hb d_M_flush_18 rfl (lv_at hl 0 rfl) ?_
      refine va_get (D := D) (ci := 3) (v := .ref g.1.2.1) (C := R_M) (T := T_M) (N := 20) hx hb htb i_M hown hK hP 0 rfl rfl 5 (by decide) (htb _ k_M_7) (fun _ h9 => h9) rfl d_M_flush_19 ?_
      refine lv_iconst (v := 4) hx hb d_M_flush_22 (by decide) ?_
      refine va_iald hx hb hK hP 1 0 rfl rfl hs.1 d_M_flush_23 ?_
      have hs := hs.2
      refine lv_iadd hx hb d_M_flush_24 ?_
      refine lv_icmp_ge (tgt := 72) hx hb d_M_flush_25 (by decide) (fun c_25 => ?_) (fun c_25 => ?_)
      · have hF := hF.trans (if_pos c_25)
        have hs := hs.1 c_25
        refine lv_iconst (v := 0) hx hb d_M_flush_72 (by decide) ?_
        refine lv_istore_n (lv' := [(2, .int (0 : Int32)), (0, .ref g.1.1), (1, .int v1)]) hx hb d_M_flush_73 rfl hl (by decide) rfl (fun ls hl => ?_)
        have hl := lv_sub (l' := [(0, .ref g.1.1), (1, .int v1), (2, .int (0 : Int32))]) hl [1, 2, 0] rfl
        exact cut_74 (mu (0 : Int32) g.2.1 + 1) v1 (0 : Int32) z _ _ _ (Nat.lt_succ_self _) hF hs hP hD hS hl
      · have hF := hF.trans (if_neg c_25)
        have hs := hs.2 c_25
        refine lv_aload_n hx hb d_M_flush_28 rfl (lv_at hl 0 rfl) ?_
        refine va_get (D := D) (ci := 3) (v := .ref g.1.2.2.2.1) (C := R_M) (T := T_M) (N := 20) hx hb htb i_M hown hK hP 0 rfl rfl 7 (by decide) (htb _ k_M_16) (fun _ h9 => h9) rfl d_M_flush_29 ?_
        refine lv_iload_n hx hb d_M_flush_32 rfl (lv_at hl 2 rfl) ?_
        refine va_zald hx hb hK hP 3 1 rfl rfl hs.1 d_M_flush_33 ?_
        have hs := hs.2
        refine lv_if_eq (tgt := 66) hx hb d_M_flush_34 (by decide) (fun c_34 => ?_) (fun c_34 => ?_)
        · have hF := hF.trans (if_pos c_34)
          have hs := hs.1 c_34
          refine lv_iinc (v := (v2 + 1)) (lv' := [(2, .int (v2 + 1)), (0, .ref g.1.1), (1, .int v1)]) hx hb d_M_flush_66 hl (k := 2) rfl rfl (by decide) rfl (fun ls hl => ?_)
          refine lv_goto (tgt := 14) hx hb d_M_flush_69 (by decide) ?_
          have hl := lv_sub (l' := [(0, .ref g.1.1), (1, .int v1), (2, .int (v2 + 1))]) hl [1, 2, 0] rfl
          exact ih v1 (v2 + 1) z _ _ _ (Nat.lt_of_lt_of_le hs.1 (Nat.le_of_lt_succ hm)) hF hs.2 hP hD hS hl
        · have hF := hF.trans (if_neg c_34)
          have hs := hs.2 c_34
          refine lv_aload_n hx hb d_M_flush_37 rfl (lv_at hl 0 rfl) ?_
          refine lv_aload_n hx hb d_M_flush_38 rfl (lv_at hl 0 rfl) ?_
          refine va_get (D := D) (ci := 3) (v := .ref g.1.2.2.1) (C := R_M) (T := T_M) (N := 20) hx hb htb i_M hown hK hP 0 rfl rfl 6 (by decide) (htb _ k_M_13) (fun _ h9 => h9) rfl d_M_flush_39 ?_
          refine lv_iload_n hx hb d_M_flush_42 rfl (lv_at hl 2 rfl) ?_
          refine va_iald hx hb hK hP 2 0 rfl rfl hs.1 d_M_flush_43 ?_
          have hs := hs.2
          refine cpi (As := [.int (z.2.1.2.1 v2.toNatClampNeg)]) (rest := []) ⟨hx, hb, hml, hown, htb⟩ (c_M_isWrittenInFirst l D cI cZ g hg z (z.2.1.2.1 v2.toNatClampNeg) hs.1) (cwv (n := 1) htb cd_M_isWrittenInFirst k_M_157 in_M_isWrittenInFirst se_M_isWrittenInFirst ini_M hd_M_isWrittenInFirst ⟨Nat.le_of_ble_eq_true rfl, Nat.le_of_ble_eq_true rfl⟩) hK hP [0, 1, 2, 3, 4, 5, 6, 7, 8, 9, 10] rfl (ci := 3) rfl rfl rfl hl.1 rfl (Nat.le_of_ble_eq_true rfl) d_M_flush_44 ⟨Nat.zero_le _, Nat.zero_le _⟩ (fun r_44 hw_44 => ?_)
          have hF := hF.trans (bnd_eq hw_44)
          have hs := Eq.mp (bnd_eq hw_44) hs.2
          refine lv_if_ne (tgt := 66) hx hb d_M_flush_47 (by decide) (fun c_47 => ?_) (fun c_47 => ?_)
          · have hF := hF.trans (if_neg c_47)
            have hs := hs.2 c_47
            refine lv_iinc (v := (v2 + 1)) (lv' := [(2, .int (v2 + 1)), (0, .ref g.1.1), (1, .int v1)]) hx hb d_M_flush_66 hl (k := 2) rfl rfl (by decide) rfl (fun ls hl => ?_)
            refine lv_goto (tgt := 14) hx hb d_M_flush_69 (by decide) ?_
            have hl := lv_sub (l' := [(0, .ref g.1.1), (1, .int v1), (2, .int (v2 + 1))]) hl [1, 2, 0] rfl
            exact ih v1 (v2 + 1) z _ _ _ (Nat.lt_of_lt_of_le hs.1 (Nat.le_of_lt_succ hm)) hF hs.2 hP hD hS hl
          · have hF := hF.trans (if_pos c_47)
            have hs := hs.1 c_47
            refine lv_aload_n hx hb d_M_flush_50 rfl (lv_at hl 0 rfl) ?_
            refine lv_aload_n hx hb d_M_flush_51 rfl (lv_at hl 0 rfl) ?_
            refine va_get (D := D) (ci := 3) (v := .ref g.1.2.2.1) (C := R_M) (T := T_M) (N := 20) hx hb htb i_M hown hK hP 0 rfl rfl 6 (by decide) (htb _ k_M_13) (fun _ h9 => h9) rfl d_M_flush_52 ?_
            refine lv_iload_n hx hb d_M_flush_55 rfl (lv_at hl 2 rfl) ?_
            refine va_iald hx hb hK hP 2 0 rfl rfl hs.1 d_M_flush_56 ?_
            have hs := hs.2
            refine lv_aload_n hx hb d_M_flush_57 rfl (lv_at hl 0 rfl) ?_
            refine va_get (D := D) (ci := 3) (v := .ref g.1.2.2.2.2.1) (C := R_M) (T := T_M) (N := 20) hx hb htb i_M hown hK hP 0 rfl rfl 8 (by decide) (htb _ k_M_20) (fun _ h9 => h9) rfl d_M_flush_58 ?_
            refine lv_iload_n hx hb d_M_flush_61 rfl (lv_at hl 2 rfl) ?_
            refine va_iald hx hb hK hP 4 0 rfl rfl hs.1 d_M_flush_62 ?_
            have hs := hs.2
            refine cwv_ (As := [.int (z.2.1.2.1 v2.toNatClampNeg), .int (z.2.1.2.2.2.1 v2.toNatClampNeg)]) (rest := []) (wldC := fun u => (wM cI cZ g u)) ⟨hx, hb, hml, hown, htb⟩ (c_M_toMemory l D cI cZ g hg z (z.2.1.2.1 v2.toNatClampNeg) (z.2.1.2.2.2.1 v2.toNatClampNeg) hs.1) (cwv (n := 2) htb cd_M_toMemory k_M_101 in_M_toMemory se_M_toMemory ini_M hd_M_toMemory ⟨Nat.le_of_ble_eq_true rfl, Nat.le_of_ble_eq_true rfl⟩) hK hP hD hS [0, 1, 2, 3, 4, 5, 6, 7, 8, 9, 10] [] [0, 1, 2, 3, 4, 5, 6, 7, 8, 9, 10] rfl rfl (by decide) (by decide) rfl (fun _ => rfl) (fun _ => rfl) (ci := 3) rfl rfl rfl hl.1 rfl (Nat.le_of_ble_eq_true rfl) d_M_flush_63 ⟨Nat.zero_le _, Nat.zero_le _⟩ (fun u_63 H locs hw_63 hP hD hS => ?_)
            have hP : va_P D vwCl (wM cI cZ g u_63) H := hP
            have hD : va_D _ (wM cI cZ g u_63) := hD
            have hF := hF.trans (bnd_eq hw_63)
            have hs := Eq.mp (bnd_eq hw_63) hs.2
            refine lv_iinc (v := (v2 + 1)) (lv' := [(2, .int (v2 + 1)), (0, .ref g.1.1), (1, .int v1)]) hx hb d_M_flush_66 hl (k := 2) rfl rfl (by decide) rfl (fun ls hl => ?_)
            refine lv_goto (tgt := 14) hx hb d_M_flush_69 (by decide) ?_
            have hl := lv_sub (l' := [(0, .ref g.1.1), (1, .int v1), (2, .int (v2 + 1))]) hl [1, 2, 0] rfl
            exact ih v1 (v2 + 1) u_63 _ _ _ (Nat.lt_of_lt_of_le hs.1 (Nat.le_of_lt_succ hm)) hF hs.2 hP hD hS hl
  have hl := lv_entry ([.ref g.1.1]) (n := 4) (Nat.le_of_ble_eq_true rfl)
  rw [lg_entry_eq]
  generalize (lg_sl ([.ref g.1.1]) ++ List.replicate (4 - (lg_sl ([.ref g.1.1])).length) Slot.unset).toArray = ls at hl ⊢
  have hl : lv_has ls 4 [(0, .ref g.1.1)] := hl
  have hF := M_M_flush_eq g x
  have hs := Eq.mp (S_M_flush_eq g x) hs
  refine lv_aload_n hx hb d_M_flush_0 rfl (lv_at hl 0 rfl) ?_
  refine lv_iconst (v := 0) hx hb d_M_flush_1 (by decide) ?_
  refine va_put (D := D) (ci := 3) (v := .int (0 : Int32)) (ty := .int) (C := R_M) (T := T_M) (N := 20) hx hb htb i_M ty_M tyo_M nm_M hown hK hP hD hS 0 rfl rfl 0 (by decide) (htb _ k_M_61) (fun _ h9 => h9) rfl (by decide +kernel) rfl rfl (Nat.le_of_ble_eq_true rfl) d_M_flush_2 (fun H locs hP hD hS => ?_)
  have hP : va_P D vwCl (wM cI cZ g (((0 : Int32), x.1.2.1, x.1.2.2.1, x.1.2.2.2.1, x.1.2.2.2.2.1, x.1.2.2.2.2.2), x.2.1, x.2.2.1, x.2.2.2.1, x.2.2.2.2)) H := hP
  have hD : va_D _ (wM cI cZ g (((0 : Int32), x.1.2.1, x.1.2.2.1, x.1.2.2.2.1, x.1.2.2.2.2.1, x.1.2.2.2.2.2), x.2.1, x.2.2.1, x.2.2.2.1, x.2.2.2.2)) := hD
  refine lv_aload_n hx hb d_M_flush_5 rfl (lv_at hl 0 rfl) ?_
  refine va_get (D := D) (ci := 3) (v := .int x.1.2.2.2.2.1) (C := R_M) (T := T_M) (N := 20) hx hb htb i_M hown hK hP 0 rfl rfl 18 (by decide) (htb _ k_M_95) (fun _ h9 => h9) rfl d_M_flush_6 ?_
  refine lv_istore_n (lv' := [(1, .int x.1.2.2.2.2.1), (0, .ref g.1.1)]) hx hb d_M_flush_9 rfl hl (by decide) rfl (fun ls hl => ?_)
  refine lv_sipush (v := 256) hx hb d_M_flush_10 (by decide) ?_
  refine lv_istore_n (lv' := [(2, .int (256 : Int32)), (1, .int x.1.2.2.2.2.1), (0, .ref g.1.1)]) hx hb d_M_flush_13 rfl hl (by decide) rfl (fun ls hl => ?_)
  have hl := lv_sub (l' := [(0, .ref g.1.1), (1, .int x.1.2.2.2.2.1), (2, .int (256 : Int32))]) hl [2, 1, 0] rfl
  exact cut_14 (mu (256 : Int32) ((256 : Int32) + ((((0 : Int32), x.1.2.1, x.1.2.2.1, x.1.2.2.2.1, x.1.2.2.2.2.1, x.1.2.2.2.2.2), x.2.1, x.2.2.1, x.2.2.2.1, x.2.2.2.2).2.1.1 (4 : Int32).toNatClampNeg)) + 1) x.1.2.2.2.2.1 (256 : Int32) (((0 : Int32), x.1.2.1, x.1.2.2.1, x.1.2.2.2.1, x.1.2.2.2.2.1, x.1.2.2.2.2.2), x.2.1, x.2.2.1, x.2.2.2.1, x.2.2.2.2) _ _ _ (Nat.lt_succ_self _) hF hs hP hD hS hl
