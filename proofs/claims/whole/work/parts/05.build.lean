/-! BUILDING a heap from parts: from pa i to pt i, a list (pk i) or a cell; a list from a place to itself has no cells -/
def lh_hp (h0 : Nat → Nat) (pa pt : Nat → Nat) (pk : Nat → Bool) : Nat → Nat → Nat
  | 0 => h0
  | i + 1 => if pk i = true ∧ pa i = pt i then lh_hp h0 pa pt pk i else lh_up (lh_hp h0 pa pt pk i) (pa i) (pt i + 1)
def lh_ep (e0 : Nat → Nat) (pa pt : Nat → Nat) (pk : Nat → Bool) : Nat → Nat → Nat
  | 0 => e0
  | i + 1 => if pk i = true ∧ pa i = pt i then lh_ep e0 pa pt pk i else lh_up (lh_ep e0 pa pt pk i) (pa i) (if pk i = true then pt i + 1 else 0)
/-- the parts ahead of m can be put, one behind another, on the heap h0 -/
def lh_oks (h0 : Nat → Nat) (nl : Nat) (pa pt : Nat → Nat) (pk : Nat → Bool) (m : Nat) : Prop :=
  ∀ i, i < m → ¬ (pk i = true ∧ pa i = pt i) → pa i ≠ nl ∧ lh_hp h0 pa pt pk i (pa i) = 0
section
variable {h0 e0 pa pt : Nat → Nat} {pk : Nat → Bool} {nl : Nat}
theorem lh_hp_e {i : Nat} (c : pk i = true ∧ pa i = pt i) : lh_hp h0 pa pt pk (i + 1) = lh_hp h0 pa pt pk i := by
  show (if pk i = true ∧ pa i = pt i then _ else _) = _
  rw [if_pos c]
theorem lh_hp_n {i : Nat} (c : ¬ (pk i = true ∧ pa i = pt i)) : lh_hp h0 pa pt pk (i + 1) = lh_up (lh_hp h0 pa pt pk i) (pa i) (pt i + 1) := by
  show (if pk i = true ∧ pa i = pt i then _ else _) = _
  rw [if_neg c]
theorem lh_ep_e {i : Nat} (c : pk i = true ∧ pa i = pt i) : lh_ep e0 pa pt pk (i + 1) = lh_ep e0 pa pt pk i := by
  show (if pk i = true ∧ pa i = pt i then _ else _) = _
  rw [if_pos c]
theorem lh_ep_n {i : Nat} (c : ¬ (pk i = true ∧ pa i = pt i)) : lh_ep e0 pa pt pk (i + 1) = lh_up (lh_ep e0 pa pt pk i) (pa i) (if pk i = true then pt i + 1 else 0) := by
  show (if pk i = true ∧ pa i = pt i then _ else _) = _
  rw [if_neg c]
theorem lh_hp_0 {n g : Nat} : lh_hp h0 pa pt pk n g = 0 ↔ h0 g = 0 ∧ ∀ i, i < n → ¬ (pk i = true ∧ pa i = pt i) → pa i ≠ g := by
  induction n with
  | zero => exact ⟨fun z => ⟨z, fun i hi => absurd hi (Nat.not_lt_zero i)⟩, fun z => z.1⟩
  | succ n ih =>
    by_cases c : pk n = true ∧ pa n = pt n
    · rw [lh_hp_e c, ih]
      constructor
      · intro ⟨a, b⟩
        refine ⟨a, fun i hi nc => ?_⟩
        by_cases e : i = n
        · rw [e] at nc; exact absurd c nc
        · exact b i (by omega) nc
      · intro ⟨a, b⟩
        exact ⟨a, fun i hi nc => b i (by omega) nc⟩
    · rw [lh_hp_n c]
      by_cases e : g = pa n
      · rw [e, lh_up_s]
        constructor
        · intro z; exact absurd z (Nat.succ_ne_zero _)
        · intro ⟨_, b⟩; exact absurd rfl (b n (by omega) c)
      · rw [lh_up_o e, ih]
        constructor
        · intro ⟨a, b⟩
          refine ⟨a, fun i hi nc => ?_⟩
          by_cases e' : i = n
          · rw [e']; exact Ne.symm e
          · exact b i (by omega) nc
        · intro ⟨a, b⟩
          exact ⟨a, fun i hi nc => b i (by omega) nc⟩
theorem lh_hp_ne {n g : Nat} : lh_hp (fun _ => 0) pa pt pk n g ≠ 0 ↔ ∃ i, i < n ∧ ¬ (pk i = true ∧ pa i = pt i) ∧ pa i = g := by
  constructor
  · intro z
    by_cases w : ∃ i, i < n ∧ ¬ (pk i = true ∧ pa i = pt i) ∧ pa i = g
    · exact w
    · exact (z (lh_hp_0.mpr ⟨rfl, fun i hi nc e => w ⟨i, hi, nc, e⟩⟩)).elim
  · intro ⟨i, hi, nc, e⟩ z
    exact (lh_hp_0.mp z).2 i hi nc e
/-- what a part has written stays -/
theorem lh_hp_at {n : Nat} (ok : lh_oks h0 nl pa pt pk n) {i : Nat} (hi : i < n) (nc : ¬ (pk i = true ∧ pa i = pt i)) : lh_hp h0 pa pt pk n (pa i) = pt i + 1 ∧ lh_ep e0 pa pt pk n (pa i) = (if pk i = true then pt i + 1 else 0) := by
  induction n with
  | zero => exact absurd hi (Nat.not_lt_zero i)
  | succ n ih =>
    have ok' : lh_oks h0 nl pa pt pk n := fun j hj => ok j (by omega)
    by_cases e : i = n
    · subst e
      rw [lh_hp_n nc, lh_ep_n nc, lh_up_s, lh_up_s]
      exact ⟨rfl, rfl⟩
    · have I := ih ok' (by omega)
      by_cases c : pk n = true ∧ pa n = pt n
      · rw [lh_hp_e c, lh_ep_e c]; exact I
      · have ne : pa i ≠ pa n := by
          intro z
          have b := (ok n (by omega) c).2
          rw [← z, I.1] at b
          exact absurd b (Nat.succ_ne_zero _)
        rw [lh_hp_n c, lh_ep_n c, lh_up_o ne, lh_up_o ne]; exact I
theorem lh_ep_0 {n g : Nat} (z : e0 g = 0) (w : ∀ i, i < n → pk i = true → pa i ≠ pt i → pa i ≠ g) : lh_ep e0 pa pt pk n g = 0 := by
  induction n with
  | zero => exact z
  | succ n ih =>
    have I := ih (fun i hi => w i (by omega))
    by_cases c : pk n = true ∧ pa n = pt n
    · rw [lh_ep_e c]; exact I
    · rw [lh_ep_n c]
      by_cases e : g = pa n
      · rw [e, lh_up_s]
        by_cases k : pk n = true
        · exact absurd e.symm (w n (by omega) k (fun q => c ⟨k, q⟩))
        · rw [if_neg k]
      · rw [lh_up_o e]; exact I
theorem lh_ep_ne {n g : Nat} (ok : lh_oks h0 nl pa pt pk n) : lh_ep (fun _ => 0) pa pt pk n g ≠ 0 ↔ ∃ i, i < n ∧ pk i = true ∧ pa i ≠ pt i ∧ pa i = g := by
  constructor
  · intro z
    by_cases w : ∃ i, i < n ∧ pk i = true ∧ pa i ≠ pt i ∧ pa i = g
    · exact w
    · exact (z (lh_ep_0 rfl (fun i hi a b e => w ⟨i, hi, a, b, e⟩))).elim
  · intro ⟨i, hi, a, b, e⟩ z
    have q := (lh_hp_at (e0 := fun _ => 0) ok hi (fun w => b w.2)).2
    rw [e, z, if_pos a] at q
    exact absurd q.symm (Nat.succ_ne_zero _)
theorem lh_ep_hp {n g : Nat} (ok : lh_oks h0 nl pa pt pk n) (z : lh_ep (fun _ => 0) pa pt pk n g ≠ 0) : lh_hp h0 pa pt pk n g = lh_ep (fun _ => 0) pa pt pk n g ∧ g ≠ nl := by
  obtain ⟨i, hi, a, b, e⟩ := (lh_ep_ne ok).mp z
  have q := lh_hp_at (e0 := fun _ => 0) ok hi (fun w => b w.2)
  rw [e, if_pos a] at q
  refine ⟨by rw [q.1, q.2], fun w => ?_⟩
  exact (ok i hi (fun w => b w.2)).1 (by rw [e]; exact w)
theorem lh_hp_nl {n : Nat} (ok : lh_oks h0 nl pa pt pk n) (z : h0 nl = 0) : lh_hp h0 pa pt pk n nl = 0 :=
  lh_hp_0.mpr ⟨z, fun i hi nc => (ok i hi nc).1⟩
theorem lh_hp_lt {n N : Nat} (hN : ∀ i, i < n → pa i < N) {g : Nat} (z : lh_hp (fun _ => 0) pa pt pk n g ≠ 0) : g < N := by
  obtain ⟨i, hi, _, e⟩ := lh_hp_ne.mp z
  rw [← e]; exact hN i hi
theorem lh_hp_le {n N : Nat} (hN : ∀ i, i < n → pt i < N) (h : ∀ g, h0 g ≤ N) (g : Nat) : lh_hp h0 pa pt pk n g ≤ N := by
  induction n with
  | zero => exact h g
  | succ n ih =>
    have I := ih (fun i hi => hN i (by omega))
    by_cases c : pk n = true ∧ pa n = pt n
    · rw [lh_hp_e c]; exact I
    · rw [lh_hp_n c]
      by_cases e : g = pa n
      · rw [e, lh_up_s]; exact hN n (by omega)
      · rw [lh_up_o e]; exact I
theorem lh_ep_le {n N : Nat} (hN : ∀ i, i < n → pt i < N) (h : ∀ g, e0 g ≤ N) (g : Nat) : lh_ep e0 pa pt pk n g ≤ N := by
  induction n with
  | zero => exact h g
  | succ n ih =>
    have I := ih (fun i hi => hN i (by omega))
    by_cases c : pk n = true ∧ pa n = pt n
    · rw [lh_ep_e c]; exact I
    · rw [lh_ep_n c]
      by_cases e : g = pa n
      · rw [e, lh_up_s]
        have q := hN n (by omega)
        by_cases k : pk n = true
        · rw [if_pos k]; exact q
        · rw [if_neg k]; omega
      · rw [lh_up_o e]; exact I
/-- on the heap h0, or on none: then their places have no cell in h0 -/
theorem lh_oks_on {n : Nat} : lh_oks h0 nl pa pt pk n ↔ lh_oks (fun _ => 0) nl pa pt pk n ∧ ∀ g, lh_hp (fun _ => 0) pa pt pk n g ≠ 0 → h0 g = 0 := by
  constructor
  · intro H
    refine ⟨fun i hi nc => ⟨(H i hi nc).1, lh_hp_0.mpr ⟨rfl, (lh_hp_0.mp (H i hi nc).2).2⟩⟩, fun g z => ?_⟩
    obtain ⟨i, hi, nc, e⟩ := lh_hp_ne.mp z
    rw [← e]
    exact (lh_hp_0.mp (H i hi nc).2).1
  · intro ⟨H, K⟩ i hi nc
    refine ⟨(H i hi nc).1, lh_hp_0.mpr ⟨K _ (lh_hp_ne.mpr ⟨i, hi, nc, rfl⟩), (lh_hp_0.mp (H i hi nc).2).2⟩⟩
end
/-! the way to t has no repetition -/
theorem lh_pth_mem {h : Nat → Nat} {t w : Nat} : ∀ (q : List Nat) (x : Nat), lh_pth h t x q → w ∈ q → ∃ r, lh_pth h t w r ∧ r.length ≤ q.length := by
  intro q
  induction q with
  | nil => intro x _ hw; exact absurd hw List.not_mem_nil
  | cons z zs ih =>
    intro x a hw
    obtain ⟨e, n, hx, a'⟩ := lh_pre_cons.mp a
    rcases List.mem_cons.mp hw with hw | hw
    · refine ⟨z :: zs, ?_, Nat.le_refl _⟩
      rw [hw, e]
      rw [e] at a
      exact a
    · obtain ⟨r, r1, r2⟩ := ih _ a' hw
      refine ⟨r, r1, ?_⟩
      rw [List.length_cons]; omega
theorem lh_pth_nodup {h : Nat → Nat} {t : Nat} : ∀ (q : List Nat) (x : Nat), lh_pth h t x q → q.Nodup := by
  intro q
  induction q with
  | nil => intro x _; exact List.nodup_nil
  | cons z zs ih =>
    intro x a
    obtain ⟨e, n, hx, a'⟩ := lh_pre_cons.mp a
    refine List.nodup_cons.mpr ⟨fun w => ?_, ih _ a'⟩
    obtain ⟨r, r1, r2⟩ := lh_pth_mem zs _ a' w
    rw [e] at r1 a
    have u := lh_pth_uniq a r1
    rw [← u, List.length_cons] at r2
    omega
/-- a list without repetition of numbers below N has at most N of them -/
theorem lh_fewN {q : List Nat} {N : Nat} (nd : q.Nodup) (hq : ∀ x, x ∈ q → x < N) : q.length ≤ N := by
  have s : q ⊆ List.range N := fun x hx => List.mem_range.mpr (hq x hx)
  have l := List.Nodup.length_le_of_subset nd s
  rw [List.length_range] at l
  exact l
/-- N steps from x, t not reached yet: there is no way to t -/
theorem lh_far {h : Nat → Nat} {t y x N : Nat} {q : List Nat} (hN : ∀ g, h g ≠ 0 → g < N) (B : lh_pre h t y x q) (l : N ≤ q.length) (yt : y ≠ t) : ¬ ∃ q', lh_pth h t x q' := by
  intro ⟨q', w⟩
  obtain ⟨r, e, c⟩ := lh_pre_split q x q' B w
  cases r with
  | nil => exact yt (lh_pre_nil.mp c)
  | cons z zs =>
    have k := lh_fewN (lh_pth_nodup q' x w) (fun g hg => hN g (lh_pre_cell q' x w g hg))
    rw [e, List.length_append, List.length_cons] at k
    omega
theorem lh_stop {h : Nat → Nat} {t y x : Nat} {q : List Nat} (B : lh_pre h t y x q) (yt : y ≠ t) (z : h y = 0) : ¬ ∃ q', lh_pth h t x q' := by
  intro ⟨q', w⟩
  obtain ⟨r, e, c⟩ := lh_pre_split q x q' B w
  cases r with
  | nil => exact yt (lh_pre_nil.mp c)
  | cons z' zs => exact (lh_pre_cons.mp c).2.2.1 z
