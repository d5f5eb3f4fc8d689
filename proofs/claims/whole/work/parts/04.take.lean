/-! TAKING: the places of a way are marked one by one; tk: what is marked already -/
def lh_mk (tk : Nat → Bool) (q : List Nat) : Nat → Bool := fun i => tk i || decide (i ∈ q)
theorem lh_mk_nil (tk : Nat → Bool) : lh_mk tk [] = tk := by
  funext i; simp [lh_mk]
def lh_upB (g : Nat → Bool) (k : Nat) (x : Bool) : Nat → Bool := fun j => if j = k then x else g j
theorem lh_mk_snoc (tk : Nat → Bool) (q : List Nat) (y : Nat) : lh_mk tk (q ++ [y]) = lh_upB (lh_mk tk q) y true := by
  funext i
  unfold lh_mk lh_upB
  by_cases e : i = y
  · rw [if_pos e, e]; simp
  · rw [if_neg e]; simp [e]
/-- q is a way from a to t over places that are not marked -/
def lh_way (h : Nat → Nat) (t a : Nat) (tk : Nat → Bool) (q : List Nat) : Prop := lh_pth h t a q ∧ q.Nodup ∧ ∀ x, x ∈ q → tk x = false
/-- the beginning of one -/
def lh_beg (h : Nat → Nat) (t y a : Nat) (tk : Nat → Bool) (q : List Nat) : Prop := lh_pre h t y a q ∧ q.Nodup ∧ ∀ x, x ∈ q → tk x = false
theorem lh_beg0 {h : Nat → Nat} {t a : Nat} {tk : Nat → Bool} : lh_beg h t a a tk [] := ⟨lh_pre_nil.mpr rfl, List.nodup_nil, fun _ z => absurd z List.not_mem_nil⟩
theorem lh_beg_end {h : Nat → Nat} {t a : Nat} {tk : Nat → Bool} {q : List Nat} (B : lh_beg h t t a tk q) : lh_way h t a tk q := B
theorem lh_beg_step {h : Nat → Nat} {t y a : Nat} {tk : Nat → Bool} {q : List Nat} (B : lh_beg h t y a tk q) (yt : y ≠ t) (hy : h y ≠ 0) (my : lh_mk tk q y = false) : lh_beg h t (h y - 1) a tk (q ++ [y]) := by
  obtain ⟨b1, b2, b3⟩ := B
  have m1 : tk y = false ∧ y ∉ q := by simpa [lh_mk] using my
  refine ⟨lh_pre_snoc yt hy q a b1, ?_, ?_⟩
  · refine List.nodup_append.mpr ⟨b2, List.nodup_cons.mpr ⟨List.not_mem_nil, List.nodup_nil⟩, ?_⟩
    intro x hx z hz
    have ez : z = y := by simpa using hz
    intro e
    exact m1.2 (by rw [← ez, ← e]; exact hx)
  · intro x hx
    rcases List.mem_append.mp hx with hx | hx
    · exact b3 x hx
    · have ez : x = y := by simpa using hx
      rw [ez]; exact m1.1
theorem lh_beg_bad {h : Nat → Nat} {t y a : Nat} {tk : Nat → Bool} {q : List Nat} (B : lh_beg h t y a tk q) (yt : y ≠ t) (bad : h y = 0 ∨ lh_mk tk q y = true) : ¬ ∃ q', lh_way h t a tk q' := by
  intro ⟨q', w1, w2, w3⟩
  obtain ⟨r, e, c⟩ := lh_pre_split q a q' B.1 w1
  cases r with
  | nil => exact yt (lh_pre_nil.mp c)
  | cons z zs =>
    obtain ⟨ez, _, hy, _⟩ := lh_pre_cons.mp c
    rcases bad with bad | bad
    · exact hy bad
    · have m1 : tk y = true ∨ y ∈ q := by simpa [lh_mk] using bad
      rcases m1 with m1 | m1
      · have := w3 y (by rw [e, ez]; exact List.mem_append_right _ List.mem_cons_self)
        rw [this] at m1; exact absurd m1 (by decide)
      · rw [e] at w2
        exact (List.nodup_append.mp w2).2.2 y m1 z List.mem_cons_self ez.symm
/-- a way without repetition over places below N, never over nl, has fewer than N places -/
theorem lh_short {q : List Nat} {N nl : Nat} (nd : q.Nodup) (hq : ∀ x, x ∈ q → x < N) (hn : nl < N) (nq : nl ∉ q) : q.length < N := by
  have s : (nl :: q) ⊆ List.range N := by
    intro x hx
    rcases List.mem_cons.mp hx with hx | hx
    · rw [hx]; exact List.mem_range.mpr hn
    · exact List.mem_range.mpr (hq x hx)
  have l := List.Nodup.length_le_of_subset (List.nodup_cons.mpr ⟨nq, nd⟩) s
  simp at l
  omega
theorem lh_beg_short {h : Nat → Nat} {t y a N nl : Nat} {tk : Nat → Bool} {q : List Nat} (B : lh_beg h t y a tk q) (hN : ∀ x, h x ≠ 0 → x < N) (hn : nl < N) (h0 : h nl = 0) : q.length < N :=
  lh_short B.2.1 (fun x hx => hN x (lh_pre_cell q a B.1 x hx)) hn (fun z => lh_pre_cell q a B.1 nl z h0)
/-! the parts one behind another -/
def lh_upQ (q : Nat → List Nat) (i : Nat) (r : List Nat) : Nat → List Nat := fun j => if j = i then r else q j
def lh_pf (h : Nat → Nat) (c : Nat → Prop) (i : Nat) (pa pt : Nat → Nat) (pk : Nat → Bool) (tk : Nat → Bool) (q : Nat → List Nat) : Prop :=
  lh_fit h c i pa pt pk False q ∧ ∀ x, tk x = true ↔ ∃ j, j < i ∧ x ∈ q j
theorem lh_pf_0 {h : Nat → Nat} {c : Nat → Prop} {pa pt : Nat → Nat} {pk : Nat → Bool} {q : Nat → List Nat} : lh_pf h c 0 pa pt pk (fun _ => false) q :=
  ⟨⟨fun _ z => absurd z (Nat.not_lt_zero _), fun _ z => absurd z (Nat.not_lt_zero _), fun _ _ z => absurd z (Nat.not_lt_zero _), fun z => z.elim⟩, fun _ => ⟨fun z => absurd z (by simp), fun ⟨_, z, _⟩ => absurd z (Nat.not_lt_zero _)⟩⟩
/-- what the i-th part must find -/
def lh_one (h : Nat → Nat) (c : Nat → Prop) (a t : Nat) (k : Bool) (tk : Nat → Bool) (r : List Nat) : Prop := lh_pv h c a t k r ∧ r.Nodup ∧ ∀ x, x ∈ r → tk x = false
theorem lh_pf_step {h : Nat → Nat} {c : Nat → Prop} {i : Nat} {pa pt : Nat → Nat} {pk : Nat → Bool} {tk : Nat → Bool} {q : Nat → List Nat} {r : List Nat} (P : lh_pf h c i pa pt pk tk q) (R : lh_one h c (pa i) (pt i) (pk i) tk r) : lh_pf h c (i + 1) pa pt pk (lh_mk tk r) (lh_upQ q i r) := by
  have lo : ∀ j, j < i → lh_upQ q i r j = q j := fun j hj => if_neg (by omega)
  have hi : lh_upQ q i r i = r := if_pos rfl
  have no : ∀ j, j < i → ∀ x, x ∈ q j → x ∈ r → False := by
    intro j hj x x1 x2
    have a1 := (P.2 x).mpr ⟨j, hj, x1⟩
    rw [R.2.2 x x2] at a1
    exact absurd a1 (by decide)
  refine ⟨⟨?_, ?_, ?_, fun z => z.elim⟩, ?_⟩
  · intro j hj
    by_cases e : j = i
    · rw [e, hi]; exact R.1
    · rw [lo j (by omega)]; exact P.1.1 j (by omega)
  · intro j hj
    by_cases e : j = i
    · rw [e, hi]; exact R.2.1
    · rw [lo j (by omega)]; exact P.1.2.1 j (by omega)
  · intro j k hj hk x xj xk
    by_cases e : j = i
    · by_cases e' : k = i
      · rw [e, e']
      · rw [e, hi] at xj
        rw [lo k (by omega)] at xk
        exact (no k (by omega) x xk xj).elim
    · by_cases e' : k = i
      · rw [e', hi] at xk
        rw [lo j (by omega)] at xj
        exact (no j (by omega) x xj xk).elim
      · rw [lo j (by omega)] at xj
        rw [lo k (by omega)] at xk
        exact P.1.2.2.1 j k (by omega) (by omega) x xj xk
  · intro x
    have e1 : lh_mk tk r x = true ↔ (tk x = true ∨ x ∈ r) := by simp [lh_mk]
    rw [e1, P.2 x]
    constructor
    · intro z
      rcases z with ⟨j, hj, z⟩ | z
      · exact ⟨j, by omega, by rw [lo j hj]; exact z⟩
      · exact ⟨i, by omega, by rw [hi]; exact z⟩
    · intro ⟨j, hj, z⟩
      by_cases e : j = i
      · rw [e, hi] at z; exact Or.inr z
      · rw [lo j (by omega)] at z; exact Or.inl ⟨j, by omega, z⟩
theorem lh_pf_fail {h : Nat → Nat} {c : Nat → Prop} {i m : Nat} {pa pt : Nat → Nat} {pk : Nat → Bool} {wh : Prop} {tk : Nat → Bool} {q : Nat → List Nat} (P : lh_pf h c i pa pt pk tk q) (hi : i < m) (no : ¬ ∃ r, lh_one h c (pa i) (pt i) (pk i) tk r) : ¬ ∃ q', lh_fit h c m pa pt pk wh q' := by
  intro ⟨q', F⟩
  refine no ⟨q' i, F.1 i hi, F.2.1 i hi, ?_⟩
  intro x hx
  cases e : tk x with
  | false => rfl
  | true =>
    obtain ⟨j, hj, xj⟩ := (P.2 x).mp e
    rw [lh_pv_uniq (P.1.1 j hj) (F.1 j (by omega))] at xj
    exact absurd (F.2.2.1 j i (by omega) hi x xj hx) (by omega)
theorem lh_pf_end {h : Nat → Nat} {c : Nat → Prop} {m : Nat} {pa pt : Nat → Nat} {pk : Nat → Bool} {wh : Prop} {tk : Nat → Bool} {q : Nat → List Nat} (P : lh_pf h c m pa pt pk tk q) : (∃ q', lh_fit h c m pa pt pk wh q') ↔ (wh → ∀ g, h g ≠ 0 → tk g = true) := by
  constructor
  · intro ⟨q', F⟩ w g hg
    obtain ⟨j, hj, gj⟩ := F.2.2.2 w g hg
    exact (P.2 g).mpr ⟨j, hj, by rw [lh_pv_uniq (P.1.1 j hj) (F.1 j hj)]; exact gj⟩
  · intro H
    exact ⟨q, P.1.1, P.1.2.1, P.1.2.2.1, fun w g hg => (P.2 g).mp (H w g hg)⟩
/-- a list's way is what its part must find; a cell's is its place -/
theorem lh_one_list {h : Nat → Nat} {c : Nat → Prop} {a t : Nat} {tk : Nat → Bool} {r : List Nat} : lh_one h c a t true tk r ↔ lh_way h t a tk r :=
  ⟨fun R => ⟨R.1.1 rfl, R.2⟩, fun R => ⟨⟨fun _ => R.1, fun z => absurd z (by decide)⟩, R.2⟩⟩
theorem lh_one_cell {h : Nat → Nat} {c : Nat → Prop} {a t : Nat} {tk : Nat → Bool} {r : List Nat} : lh_one h c a t false tk r ↔ (r = [a] ∧ h a = t + 1 ∧ c a ∧ tk a = false) := by
  constructor
  · intro R
    obtain ⟨e, h1, h2⟩ := R.1.2 rfl
    exact ⟨e, h1, h2, R.2.2 a (by rw [e]; exact List.mem_cons_self)⟩
  · intro ⟨e, h1, h2, h3⟩
    refine ⟨⟨fun z => absurd z (by decide), fun _ => ⟨e, h1, h2⟩⟩, ?_, ?_⟩
    · rw [e]; exact List.nodup_cons.mpr ⟨List.not_mem_nil, List.nodup_nil⟩
    · intro x hx
      rw [e] at hx
      have ex : x = a := by simpa using hx
      rw [ex]; exact h3
