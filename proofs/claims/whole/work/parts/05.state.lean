def R_Math : String := "java/lang/Math"
-- what a state of the class is: numbers and functions; its cells
abbrev Fn : Type := Nat → Int32
abbrev Bk : Type := Fn × Fn × Fn × Fn × Fn
abbrev Vs : Type := Int32 × Fin 513 × Fn × Fn × Fn
abbrev Cs : Type := (Int32 × Int32 × Int32) × Bk × Bk × Vs × Fn × Fn
abbrev GB : Type := (Nat × Nat × Nat × Nat × Nat × Nat) × (Int32 × Int32) × (Nat × Nat)
abbrev GV : Type := (Nat × Nat × Nat × Nat) × (Nat × Nat × Nat)
abbrev GC : Type := (Nat × Nat × Nat) × (Int32 × Int32) × (Nat × Nat) × GB × GB × GV
def okB (g : GB) : Prop := g.2.2.1 < 2 ^ 31 ∧ g.2.2.2 < 2 ^ 31 ∧ ¬ g.2.1.1 = 0 ∧ ¬ g.2.1.2 = 0
def okV (g : GV) : Prop := g.2.1 < 2 ^ 31 ∧ g.2.2.1 < 2 ^ 31 ∧ g.2.2.2 < 2 ^ 31 ∧ g.2.1 ≤ 512
def okC (g : GC) : Prop := (g.2.2.1.1 < 2 ^ 31 ∧ g.2.2.1.2 < 2 ^ 31 ∧ nI g.2.2.1.1 = g.2.1.1 ∧ g.2.2.1.1 ≤ 4 ∧ g.2.2.1.2 = g.2.2.1.1 * 7) ∧ okB g.2.2.2.1 ∧ okB g.2.2.2.2.1 ∧ okV g.2.2.2.2.2
abbrev tyK (cI cZ : ClassId) : List (ClassId × FieldType) := [(cI, .int), (cZ, .boolean)]
def wB (cI cZ : ClassId) (g : GB) (x : Bk) : va_W := [(g.1.1, .inr (0, [.int g.2.1.1, .int g.2.1.2, .ref g.1.2.1, .ref g.1.2.2.1, .ref g.1.2.2.2.1, .ref g.1.2.2.2.2.1, .ref g.1.2.2.2.2.2])), (g.1.2.1, .inl (cI, g.2.2.1, .inl x.1)), (g.1.2.2.1, .inl (cI, g.2.2.2, .inl x.2.1)), (g.1.2.2.2.1, .inl (cI, g.2.2.2, .inl x.2.2.1)), (g.1.2.2.2.2.1, .inl (cI, g.2.2.2, .inl x.2.2.2.1)), (g.1.2.2.2.2.2, .inl (cZ, g.2.2.2, .inl x.2.2.2.2))]
def wV (cI cZ : ClassId) (g : GV) (x : Vs) : va_W := [(g.1.1, .inr (1, [.int x.1, .int (nI x.2.1.val), .ref g.1.2.1, .ref g.1.2.2.1, .ref g.1.2.2.2])), (g.1.2.1, .inl (cI, g.2.1, .inl x.2.2.1)), (g.1.2.2.1, .inl (cI, g.2.2.1, .inl x.2.2.2.1)), (g.1.2.2.2, .inl (cI, g.2.2.2, .inl x.2.2.2.2))]
def wC (cI cZ : ClassId) (g : GC) (x : Cs) : va_W := (g.1.1, .inr (2, [.int g.2.1.1, .int g.2.1.2, .ref g.2.2.2.1.1.1, .ref g.2.2.2.2.1.1.1, .ref g.2.2.2.2.2.1.1, .ref g.1.2.1, .ref g.1.2.2, .int x.1.1, .int x.1.2.1, .int x.1.2.2])) :: (wB cI cZ g.2.2.2.1 x.2.1 ++ wB cI cZ g.2.2.2.2.1 x.2.2.1 ++ wV cI cZ g.2.2.2.2.2 x.2.2.2.1 ++ [(g.1.2.1, .inl (cI, g.2.2.1.1, .inl x.2.2.2.2.1)), (g.1.2.2, .inl (cI, g.2.2.1.2, .inl x.2.2.2.2.2))])
def fsucc (k : Fin 513) : Fin 513 := if h : k.val < 512 then ⟨k.val + 1, by omega⟩ else k
theorem fsucc_nI {k : Fin 513} (h : k.val < 512) : nI k.val + 1 = nI (fsucc k).val := by
  unfold fsucc
  rw [dif_pos h]
  exact nI_1 k.val
theorem fin_nn (k : Fin 513) : ¬ nI k.val < 0 := nI_pos (by have h := k.isLt; omega)
theorem fin_lt {n : Nat} {k : Fin 513} (hn : n ≤ 512) (h : ¬ nI n ≤ nI k.val) : k.val < 512 := by
  rcases Nat.lt_or_ge k.val 512 with q | q
  · exact q
  · exact absurd (nI_le (a := n) (b := k.val) (by omega) (by have h9 := k.isLt; omega)) h
theorem core_in {g : GC} {q : Int32} (h : g.2.2.1.1 < 2 ^ 31 ∧ g.2.2.1.2 < 2 ^ 31 ∧ nI g.2.2.1.1 = g.2.1.1 ∧ g.2.2.1.1 ≤ 4 ∧ g.2.2.1.2 = g.2.2.1.1 * 7) (h0 : ¬ q < 0) (h1 : q < g.2.1.1) : vp_in q g.2.2.1.1 := in_ok h.1 h0 (by rw [h.2.2.1]; exact nle_lt h1)
theorem tally_in {g : GC} {q w : Int32} (h : g.2.2.1.1 < 2 ^ 31 ∧ g.2.2.1.2 < 2 ^ 31 ∧ nI g.2.2.1.1 = g.2.1.1 ∧ g.2.2.1.1 ≤ 4 ∧ g.2.2.1.2 = g.2.2.1.1 * 7) (h0 : ¬ q < 0) (h1 : q < g.2.1.1) (w0 : ¬ w < 0) (w1 : w ≤ 7) (w2 : ¬ w = 7) : vp_in ((q * 7) + w) g.2.2.1.2 := by
  obtain ⟨a, ha, rfl⟩ := vp_in_of (core_in h h0 h1) h.1
  obtain ⟨b, hb, rfl⟩ := nI_of w0
  have e7 : (7 : Int32) = nI 7 := by decide
  rw [e7] at w1 w2 ⊢
  have hb7 : b ≤ 7 := (nI_leI hb (by decide)).mp w1
  have hb6 : b ≠ 7 := fun q => w2 (by rw [q])
  rw [pk_mul, nI_add]
  exact vp_in_nI (by have := h.2.2.2.2; have := h.2.2.2.1; omega) h.2.1
