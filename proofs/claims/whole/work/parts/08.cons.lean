/-! the reference's table: the codes of the proper numbers, in their order -/
def lh_F (n : Nat) : List Nat := (List.range n).filter (fun n => lh_pr 6 n 0)
theorem lh_F_t {n : Nat} (h : lh_pr 6 n 0 = true) : lh_F (n + 1) = lh_F n ++ [n] := by
  unfold lh_F
  rw [List.range_succ, List.filter_append]
  congr 1
  apply List.filter_eq_self.mpr
  intro a ha
  have e : a = n := by simpa using ha
  rw [e]; exact h
theorem lh_F_f {n : Nat} (h : lh_pr 6 n 0 = false) : lh_F (n + 1) = lh_F n := by
  unfold lh_F
  rw [List.range_succ, List.filter_append]
  have q : List.filter (fun n => lh_pr 6 n 0) [n] = [] := by
    apply List.filter_eq_nil_iff.mpr
    intro a ha
    have e : a = n := by simpa using ha
    rw [e, h]; decide
  rw [q, List.append_nil]
theorem lh_F_len {n : Nat} (h : n ≤ 46656) : (lh_F n).length ≤ 203 := by
  have s : List.Sublist (lh_F n) ((List.range 46656).filter (fun n => lh_pr 6 n 0)) := List.Sublist.filter _ (List.range_sublist.mpr h)
  rw [lh_LN_eq] at s
  have l := s.length_le
  rw [lh_LN_len] at l
  exact l
theorem lh_F_lt {n : Nat} (h : n < 46656) (p : lh_pr 6 n 0 = true) : (lh_F n).length < 203 := by
  have l := lh_F_len (n := n + 1) h
  rw [lh_F_t p, List.length_append] at l
  exact l
def lh_AD (a : Nat → Int32) (L : List Nat) : Prop := ∀ j, j < L.length → a j = nI (lh_cd 6 (L.getD j 0))
theorem lh_AD_snoc {a : Nat → Int32} {L : List Nat} {n : Nat} (h : lh_AD a L) : lh_AD (upd a L.length (nI (lh_cd 6 n))) (L ++ [n]) := by
  intro j hj
  rw [List.length_append, List.length_cons, List.length_nil] at hj
  by_cases e : j = L.length
  · rw [e, pk_us, List.getD_eq_getElem?_getD, List.getElem?_append_right (Nat.le_refl _), Nat.sub_self]
    rfl
  · have l : j < L.length := by omega
    rw [pk_un e, h j l, List.getD_eq_getElem?_getD, List.getD_eq_getElem?_getD, List.getElem?_append_left l]
theorem lh_AD_end {a : Nat → Int32} (h : lh_AD a (lh_F 46656)) : ∀ j, j < 203 → a j = nI (lh_Ec j) := by
  intro j hj
  have e : lh_F 46656 = lh_LN := lh_LN_eq
  rw [e] at h
  exact h j (by rw [lh_LN_len]; exact hj)
/-! its inner steps -/
theorem lh_sh3 : ∀ i, i < 6 → ((nI (3 * i) &&& 31).toBitVec.smod 32).toNat = 3 * i := by decide +kernel
theorem lh_p3 : ∀ i, i < 6 → 2 ^ (3 * i) * 8 = 2 ^ (3 * (i + 1)) ∧ 2 ^ (3 * i) ≤ 32768 := by decide +kernel
theorem lh_cdo {c g i : Nat} (hi : i < 6) (hg : g < 6) (hc : c < 2 ^ (3 * i)) : nI c ||| (nI g <<< (nI (3 * i) &&& 31)) = nI (c + 2 ^ (3 * i) * g) := by
  have p := lh_p3 i hi
  have m : g * 2 ^ (3 * i) < 2 ^ 32 := Nat.lt_of_le_of_lt (Nat.mul_le_mul (Nat.le_of_lt hg) p.2) (by decide)
  rw [pk_shlN _ (3 * i) (lh_sh3 i hi) m, lh_or]
  congr 1
  have q := Nat.two_pow_add_eq_or_of_lt hc g
  rw [Nat.or_comm, Nat.mul_comm g, ← q, Nat.add_comm]
/-- after i digits: the code so far c, what is left of the number r, the groups so far ms, whether proper p -/
def lh_in (n i c r ms : Nat) (p : Bool) : Prop := i ≤ 6 ∧ c < 2 ^ (3 * i) ∧ r ≤ n ∧ ms ≤ 6 ∧ c + 2 ^ (3 * i) * lh_cd (6 - i) r = lh_cd 6 n ∧ (p && lh_pr (6 - i) r ms) = lh_pr 6 n 0
theorem lh_in_0 (n : Nat) : lh_in n 0 0 n 0 true := by
  refine ⟨by decide, by decide, Nat.le_refl _, by decide, ?_, ?_⟩
  · show 0 + 1 * lh_cd 6 n = lh_cd 6 n
    omega
  · rfl
theorem lh_in_s {n i c r ms : Nat} {p : Bool} (hi : i < 6) (h : lh_in n i c r ms p) : lh_in n (i + 1) (c + 2 ^ (3 * i) * (r % 6)) (r / 6) (if ms ≤ r % 6 then r % 6 + 1 else ms) (p && decide (r % 6 ≤ ms)) := by
  obtain ⟨_, h2, h3, h4, h5, h6⟩ := h
  have q := (lh_p3 i hi).1
  have m6 : r % 6 < 6 := Nat.mod_lt _ (by decide)
  have e : 6 - i = (6 - (i + 1)) + 1 := by omega
  rw [e] at h5 h6
  refine ⟨by omega, ?_, ?_, ?_, ?_, ?_⟩
  · rw [← q]
    generalize 2 ^ (3 * i) = z at *
    have : z * (r % 6) ≤ z * 5 := Nat.mul_le_mul (Nat.le_refl _) (by omega)
    omega
  · have := Nat.div_le_self r 6
    omega
  · by_cases k : ms ≤ r % 6
    · rw [if_pos k]; omega
    · rw [if_neg k]; exact h4
  · rw [← h5, ← q]
    show _ = c + 2 ^ (3 * i) * (r % 6 + 8 * lh_cd (6 - (i + 1)) (r / 6))
    rw [Nat.mul_add, Nat.mul_assoc, Nat.add_assoc]
  · rw [← h6]
    show _ = (p && (if r % 6 ≤ ms then lh_pr (6 - (i + 1)) (r / 6) (if ms ≤ r % 6 then r % 6 + 1 else ms) else false))
    by_cases k : r % 6 ≤ ms
    · rw [if_pos k, decide_eq_true k, Bool.and_true]
    · rw [if_neg k, decide_eq_false k, Bool.and_false, Bool.false_and]
theorem lh_in_6 {n c r ms : Nat} {p : Bool} (h : lh_in n 6 c r ms p) : c = lh_cd 6 n ∧ p = lh_pr 6 n 0 := by
  obtain ⟨_, _, _, _, h5, h6⟩ := h
  constructor
  · rw [← h5]
    show c = c + 2 ^ 18 * 0
    rw [Nat.mul_zero, Nat.add_zero]
  · rw [← h6]
    show p = (p && true)
    rw [Bool.and_true]
/-! a group of a code -/
theorem lh_Ec_lt : ∀ j, j < 203 → lh_Ec j < 2 ^ 18 := by decide +kernel
theorem lh_sh7 {c a : Nat} (ha : a < 6) (hc : c < 2 ^ 18) : (nI c >>> (nI (3 * a) &&& 31)) &&& 7 = nI (lh_gf (lh_un c) a) := by
  rw [lh_un_gf c a ha, pk_shrN (by omega) _ (3 * a) (lh_sh3 a ha), pk_andN (by have := Nat.div_le_self c (2 ^ (3 * a)); omega) 3 (by decide)]
