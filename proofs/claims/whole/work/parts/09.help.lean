/-! small helps: exact arrays, exchanges, bounds of arguments -/
theorem lh_up_ex {F : Nat → Nat} {f : Nat → Nat} (k v : Nat) {x : Int32} (e : x = nI (F v)) : upd (fun i => nI (F (f i))) k x = fun i => nI (F (lh_up f k v i)) := by
  rw [e]
  funext i
  by_cases c : i = k
  · rw [c, pk_us, lh_up_s]
  · rw [pk_un c, lh_up_o c]
def lh_sw (K : Nat) (f : Nat → Nat) (i j : Nat) : Nat := if j < i then f (K + j) else if K ≤ j ∧ j < K + i then f (j - K) else f j
theorem lh_sw_lo {K i j : Nat} {f : Nat → Nat} (h : j < i) : lh_sw K f i j = f (K + j) := if_pos h
theorem lh_sw_hi {K i j : Nat} {f : Nat → Nat} (h : ¬ j < i) (h2 : K ≤ j ∧ j < K + i) : lh_sw K f i j = f (j - K) := by
  unfold lh_sw; rw [if_neg h, if_pos h2]
theorem lh_sw_o {K i j : Nat} {f : Nat → Nat} (h : ¬ j < i) (h2 : ¬ (K ≤ j ∧ j < K + i)) : lh_sw K f i j = f j := by
  unfold lh_sw; rw [if_neg h, if_neg h2]
theorem lh_sw_0 {K : Nat} {f : Nat → Nat} : lh_sw K f 0 = f := by
  funext j
  exact lh_sw_o (Nat.not_lt_zero j) (by omega)
theorem lh_sw_s {K i : Nat} {F f : Nat → Nat} (hi : i < K) : upd (upd (fun j => nI (F (lh_sw K f i j))) i (nI (F (lh_sw K f i (K + i))))) (K + i) (nI (F (lh_sw K f i i))) = fun j => nI (F (lh_sw K f (i + 1) j)) := by
  funext j
  by_cases e1 : j = K + i
  · rw [e1, pk_us, lh_sw_o (by omega) (by omega), lh_sw_hi (i := i + 1) (by omega) (by omega), Nat.add_sub_cancel_left]
  · rw [pk_un e1]
    by_cases e2 : j = i
    · rw [e2, pk_us, lh_sw_o (by omega) (by omega), lh_sw_lo (i := i + 1) (by omega)]
    · rw [pk_un e2]
      by_cases c1 : j < i
      · rw [lh_sw_lo c1, lh_sw_lo (i := i + 1) (by omega)]
      · by_cases c2 : K ≤ j ∧ j < K + i
        · rw [lh_sw_hi c1 c2, lh_sw_hi (i := i + 1) (by omega) (by omega)]
        · rw [lh_sw_o c1 c2, lh_sw_o (i := i + 1) (by omega) (by omega)]
theorem lh_sw_lt {K i b : Nat} {f : Nat → Nat} (h : ∀ j, f j ≤ b) (j : Nat) : lh_sw K f i j ≤ b := by
  unfold lh_sw
  by_cases c1 : j < i
  · rw [if_pos c1]; exact h _
  · rw [if_neg c1]
    by_cases c2 : K ≤ j ∧ j < K + i
    · rw [if_pos c2]; exact h _
    · rw [if_neg c2]; exact h _
theorem lh_up_lt {b k v : Nat} {f : Nat → Nat} (h : ∀ j, f j ≤ b) (hv : v ≤ b) (j : Nat) : lh_up f k v j ≤ b := by
  by_cases c : j = k
  · rw [c, lh_up_s]; exact hv
  · rw [lh_up_o c]; exact h j
/-- an argument is one of the first n numbers, or below 0, or at least n -/
theorem lh_arg (x : Int32) {n : Nat} (hn : n < 2 ^ 31) : (∃ j : Nat, j < n ∧ x = nI j) ∨ x < 0 ∨ (¬ x < 0 ∧ ¬ x < nI n) := by
  by_cases h : x < 0
  · exact Or.inr (Or.inl h)
  · obtain ⟨j, hj, rfl⟩ := nI_of h
    by_cases h2 : j < n
    · exact Or.inl ⟨j, h2, rfl⟩
    · exact Or.inr (Or.inr ⟨h, nI_nlt (by omega) hj⟩)
theorem lh_rd {f : Nat → Int32} {k : Nat} (h : k < 2 ^ 31) : f (nI k).toNatClampNeg = f k := by rw [nI_clamp h]
noncomputable def lh_Bb (P : List Nat → Prop) (l : List Nat) : Bool := @decide (P l) (Classical.propDecidable _)
theorem lh_Bb_t {P : List Nat → Prop} {l : List Nat} : lh_Bb P l = true ↔ P l :=
  ⟨fun h => @of_decide_eq_true _ (Classical.propDecidable _) h, fun h => @decide_eq_true _ (Classical.propDecidable _) h⟩
theorem lh_ct_t {G : Nat → List Nat} {P : List Nat → Prop} {n : Nat} (h : P (G n)) : lh_ct G (lh_Bb P) (n + 1) = lh_ct G (lh_Bb P) n + 1 := by
  rw [lh_ct_s, if_pos (lh_Bb_t.mpr h)]
theorem lh_ct_f {G : Nat → List Nat} {P : List Nat → Prop} {n : Nat} (h : ¬ P (G n)) : lh_ct G (lh_Bb P) (n + 1) = lh_ct G (lh_Bb P) n := by
  rw [lh_ct_s, if_neg (fun z => h (lh_Bb_t.mp z)), Nat.add_zero]
theorem lh_ct_pos {G : Nat → List Nat} {P : List Nat → Prop} : ∀ n, 0 < lh_ct G (lh_Bb P) n ↔ ∃ i, i < n ∧ P (G i) := by
  intro n
  induction n with
  | zero => exact ⟨fun z => absurd z (Nat.lt_irrefl 0), fun ⟨i, z, _⟩ => absurd z (Nat.not_lt_zero i)⟩
  | succ n ih =>
    by_cases c : P (G n)
    · rw [lh_ct_t c]
      exact ⟨fun _ => ⟨n, by omega, c⟩, fun _ => by omega⟩
    · rw [lh_ct_f c, ih]
      constructor
      · intro ⟨i, a, b⟩; exact ⟨i, by omega, b⟩
      · intro ⟨i, a, b⟩
        rcases lh_lt_s a with z | z
        · exact ⟨i, z, b⟩
        · rw [z] at b; exact absurd b c
