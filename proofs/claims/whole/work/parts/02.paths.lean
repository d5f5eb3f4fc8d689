/-! PATHS. A heap is h : Nat → Nat: h x = 0: no cell at x; h x = v + 1: the cell at x leads to v. -/
/-- going from x over the places q, none of them t, one comes to y -/
def lh_pre (h : Nat → Nat) (t y : Nat) : Nat → List Nat → Prop
  | x, [] => x = y
  | x, z :: zs => z = x ∧ x ≠ t ∧ h x ≠ 0 ∧ lh_pre h t y (h x - 1) zs
/-- the way from x to t -/
def lh_pth (h : Nat → Nat) (t x : Nat) (q : List Nat) : Prop := lh_pre h t t x q
theorem lh_pre_nil {h : Nat → Nat} {t y x : Nat} : lh_pre h t y x [] ↔ x = y := Iff.rfl
theorem lh_pre_cons {h : Nat → Nat} {t y x z : Nat} {zs : List Nat} : lh_pre h t y x (z :: zs) ↔ z = x ∧ x ≠ t ∧ h x ≠ 0 ∧ lh_pre h t y (h x - 1) zs := Iff.rfl
theorem lh_pre_cell {h : Nat → Nat} {t y : Nat} : ∀ (q : List Nat) (x : Nat), lh_pre h t y x q → ∀ w, w ∈ q → h w ≠ 0 := by
  intro q
  induction q with
  | nil => intro x _ w hw; exact absurd hw List.not_mem_nil
  | cons z zs ih =>
    intro x a w hw
    obtain ⟨e, _, hx, a'⟩ := lh_pre_cons.mp a
    rcases List.mem_cons.mp hw with hw | hw
    · rw [hw, e]; exact hx
    · exact ih _ a' w hw
theorem lh_pre_snoc {h : Nat → Nat} {t y : Nat} (hy : y ≠ t) (hc : h y ≠ 0) : ∀ (q : List Nat) (x : Nat), lh_pre h t y x q → lh_pre h t (h y - 1) x (q ++ [y]) := by
  intro q
  induction q with
  | nil =>
    intro x a
    have e : x = y := lh_pre_nil.mp a
    subst e
    exact lh_pre_cons.mpr ⟨rfl, hy, hc, lh_pre_nil.mpr rfl⟩
  | cons z zs ih =>
    intro x a
    obtain ⟨e, n, hx, a'⟩ := lh_pre_cons.mp a
    exact lh_pre_cons.mpr ⟨e, n, hx, ih _ a'⟩
/-- a way to t goes on where a beginning of it ends -/
theorem lh_pre_split {h : Nat → Nat} {t y : Nat} : ∀ (q : List Nat) (x : Nat) (q' : List Nat), lh_pre h t y x q → lh_pth h t x q' → ∃ r, q' = q ++ r ∧ lh_pth h t y r := by
  intro q
  induction q with
  | nil =>
    intro x q' a b
    have e : x = y := lh_pre_nil.mp a
    subst e
    exact ⟨q', rfl, b⟩
  | cons z zs ih =>
    intro x q' a b
    obtain ⟨e, n, hx, a'⟩ := lh_pre_cons.mp a
    cases q' with
    | nil => exact absurd (lh_pre_nil.mp b) n
    | cons w ws =>
      obtain ⟨e', _, _, b'⟩ := lh_pre_cons.mp b
      obtain ⟨r, hr, c⟩ := ih _ ws a' b'
      exact ⟨r, by rw [e', ← e, hr, List.cons_append], c⟩
theorem lh_pth_uniq {h : Nat → Nat} {t x : Nat} {q q' : List Nat} (a : lh_pth h t x q) (b : lh_pth h t x q') : q = q' := by
  obtain ⟨r, hr, c⟩ := lh_pre_split q x q' a b
  cases r with
  | nil => rw [hr, List.append_nil]
  | cons z zs => exact absurd rfl (lh_pre_cons.mp c).2.1
/-! INSERTION of f behind b -/
def lh_ins (h : Nat → Nat) (b f : Nat) : Nat → Nat := fun i => if i = f then h b else if i = b then f + 1 else h i
theorem lh_ins_f {h : Nat → Nat} {b f : Nat} : lh_ins h b f f = h b := if_pos rfl
theorem lh_ins_b {h : Nat → Nat} {b f : Nat} (n : b ≠ f) : lh_ins h b f b = f + 1 := by
  unfold lh_ins; rw [if_neg n, if_pos rfl]
theorem lh_ins_o {h : Nat → Nat} {b f i : Nat} (n : i ≠ f) (m : i ≠ b) : lh_ins h b f i = h i := by
  unfold lh_ins; rw [if_neg n, if_neg m]
/-- what a way to t becomes -/
def lh_T (b f t : Nat) : List Nat → List Nat
  | [] => []
  | y :: ys => if y = b then (if t = f then [b] else b :: f :: lh_T b f t ys) else y :: lh_T b f t ys
theorem lh_T_0 {b f t : Nat} : lh_T b f t [] = [] := rfl
theorem lh_T_c {b f t y : Nat} {ys : List Nat} : lh_T b f t (y :: ys) = if y = b then (if t = f then [b] else b :: f :: lh_T b f t ys) else y :: lh_T b f t ys := rfl
theorem lh_T_mem {b f t x : Nat} : ∀ q : List Nat, x ∈ lh_T b f t q → x ∈ q ∨ (x = f ∧ b ∈ q ∧ t ≠ f) := by
  intro q
  induction q with
  | nil => intro hx; exact Or.inl hx
  | cons y ys ih =>
    intro hx
    rw [lh_T_c] at hx
    by_cases e : y = b
    · rw [if_pos e] at hx
      by_cases et : t = f
      · rw [if_pos et] at hx
        have hb : x = b := by simpa using hx
        exact Or.inl (by rw [hb, ← e]; exact List.mem_cons_self)
      · rw [if_neg et] at hx
        rcases List.mem_cons.mp hx with hx | hx
        · exact Or.inl (by rw [hx, ← e]; exact List.mem_cons_self)
        · rcases List.mem_cons.mp hx with hx | hx
          · exact Or.inr ⟨hx, by rw [← e]; exact List.mem_cons_self, et⟩
          · rcases ih hx with hx | ⟨h1, h2, h3⟩
            · exact Or.inl (List.mem_cons_of_mem _ hx)
            · exact Or.inr ⟨h1, List.mem_cons_of_mem _ h2, h3⟩
    · rw [if_neg e] at hx
      rcases List.mem_cons.mp hx with hx | hx
      · exact Or.inl (by rw [hx]; exact List.mem_cons_self)
      · rcases ih hx with hx | ⟨h1, h2, h3⟩
        · exact Or.inl (List.mem_cons_of_mem _ hx)
        · exact Or.inr ⟨h1, List.mem_cons_of_mem _ h2, h3⟩
theorem lh_T_nodup {b f t : Nat} : ∀ q : List Nat, q.Nodup → f ∉ q → (lh_T b f t q).Nodup := by
  intro q
  induction q with
  | nil => intro _ _; exact List.nodup_nil
  | cons y ys ih =>
    intro nd nf
    obtain ⟨ny, nd'⟩ := List.nodup_cons.mp nd
    have nf' : f ∉ ys := fun z => nf (List.mem_cons_of_mem _ z)
    have yf : y ≠ f := fun z => nf (by rw [z]; exact List.mem_cons_self)
    have I := ih nd' nf'
    rw [lh_T_c]
    by_cases e : y = b
    · rw [if_pos e]
      by_cases et : t = f
      · rw [if_pos et]; exact List.nodup_cons.mpr ⟨List.not_mem_nil, List.nodup_nil⟩
      · rw [if_neg et]
        have bys : b ∉ ys := by rw [← e]; exact ny
        refine List.nodup_cons.mpr ⟨fun z => ?_, List.nodup_cons.mpr ⟨fun z => ?_, I⟩⟩
        · rcases List.mem_cons.mp z with z | z
          · exact yf (by rw [e]; exact z)
          · rcases lh_T_mem ys z with z | z
            · exact bys z
            · exact bys z.2.1
        · rcases lh_T_mem ys z with z | z
          · exact nf' z
          · exact bys z.2.1
    · rw [if_neg e]
      refine List.nodup_cons.mpr ⟨fun z => ?_, I⟩
      rcases lh_T_mem ys z with z | z
      · exact ny z
      · exact yf z.1
/-- all of q is kept, and f comes, unless the way ends at f -/
theorem lh_T_keep {b f t x : Nat} : ∀ q : List Nat, (b ∈ q → t ≠ f) → x ∈ q → x ∈ lh_T b f t q := by
  intro q
  induction q with
  | nil => intro _ hx; exact hx
  | cons y ys ih =>
    intro nt hx
    have nt' : b ∈ ys → t ≠ f := fun z => nt (List.mem_cons_of_mem _ z)
    rw [lh_T_c]
    by_cases e : y = b
    · have et : ¬ t = f := nt (by rw [e]; exact List.mem_cons_self)
      rw [if_pos e, if_neg et]
      rcases List.mem_cons.mp hx with hx | hx
      · rw [hx, e]; exact List.mem_cons_self
      · exact List.mem_cons_of_mem _ (List.mem_cons_of_mem _ (ih nt' hx))
    · rw [if_neg e]
      rcases List.mem_cons.mp hx with hx | hx
      · rw [hx]; exact List.mem_cons_self
      · exact List.mem_cons_of_mem _ (ih nt' hx)
theorem lh_T_new {b f t : Nat} (nt : t ≠ f) : ∀ q : List Nat, b ∈ q → f ∈ lh_T b f t q := by
  intro q
  induction q with
  | nil => intro hx; exact absurd hx List.not_mem_nil
  | cons y ys ih =>
    intro hx
    rw [lh_T_c]
    by_cases e : y = b
    · rw [if_pos e, if_neg nt]
      exact List.mem_cons_of_mem _ List.mem_cons_self
    · rw [if_neg e]
      rcases List.mem_cons.mp hx with hx | hx
      · exact absurd hx.symm e
      · exact List.mem_cons_of_mem _ (ih hx)
theorem lh_pth_ins {h : Nat → Nat} {b f t : Nat} (hf : h f = 0) (hb : h b ≠ 0) : ∀ (q : List Nat) (x : Nat), lh_pth h t x q → lh_pth (lh_ins h b f) t x (lh_T b f t q) := by
  intro q
  induction q with
  | nil => intro x a; exact lh_pre_nil.mpr (lh_pre_nil.mp a)
  | cons y ys ih =>
    intro x a
    obtain ⟨e0, hxt, hx, a'⟩ := lh_pre_cons.mp a
    subst e0
    have yf : y ≠ f := fun z => hx (by rw [z]; exact hf)
    rw [lh_T_c]
    by_cases e : y = b
    · rw [if_pos e]
      have eb : lh_ins h b f y = f + 1 := by rw [e]; exact lh_ins_b (by rw [← e]; exact yf)
      by_cases et : t = f
      · rw [if_pos et]
        refine lh_pre_cons.mpr ⟨e.symm, hxt, by rw [eb]; exact Nat.succ_ne_zero _, ?_⟩
        rw [eb]; exact lh_pre_nil.mpr et.symm
      · rw [if_neg et]
        refine lh_pre_cons.mpr ⟨e.symm, hxt, by rw [eb]; exact Nat.succ_ne_zero _, ?_⟩
        rw [eb]
        refine lh_pre_cons.mpr ⟨rfl, Ne.symm et, by rw [Nat.add_sub_cancel, lh_ins_f]; exact hb, ?_⟩
        rw [Nat.add_sub_cancel, lh_ins_f]
        have a2 := ih _ a'
        rw [e] at a2
        exact a2
    · rw [if_neg e]
      have eo : lh_ins h b f y = h y := lh_ins_o yf e
      refine lh_pre_cons.mpr ⟨rfl, hxt, by rw [eo]; exact hx, ?_⟩
      rw [eo]
      exact ih _ a'
/-! PARTS: from a to t, a list (k) or a cell; c: what is asked of a cell's place besides -/
def lh_pv (h : Nat → Nat) (c : Nat → Prop) (a t : Nat) (k : Bool) (q : List Nat) : Prop :=
  (k = true → lh_pth h t a q) ∧ (k = false → q = [a] ∧ h a = t + 1 ∧ c a)
theorem lh_pv_uniq {h : Nat → Nat} {c c' : Nat → Prop} {a t : Nat} {k : Bool} {q q' : List Nat} (x : lh_pv h c a t k q) (y : lh_pv h c' a t k q') : q = q' := by
  cases k with
  | true => exact lh_pth_uniq (x.1 rfl) (y.1 rfl)
  | false => rw [(x.2 rfl).1, (y.2 rfl).1]
theorem lh_pv_cell {h : Nat → Nat} {c : Nat → Prop} {a t : Nat} {k : Bool} {q : List Nat} (x : lh_pv h c a t k q) : ∀ w, w ∈ q → h w ≠ 0 := by
  cases k with
  | true => exact lh_pre_cell q a (x.1 rfl)
  | false =>
    intro w hw
    obtain ⟨e, hc, _⟩ := x.2 rfl
    rw [e] at hw
    have ew : w = a := by simpa using hw
    rw [ew, hc]; exact Nat.succ_ne_zero _
theorem lh_pv_weak {h : Nat → Nat} {c c' : Nat → Prop} {a t : Nat} {k : Bool} {q : List Nat} (cc : ∀ x, h x ≠ 0 → c x → c' x) (x : lh_pv h c a t k q) : lh_pv h c' a t k q :=
  ⟨x.1, fun e => ⟨(x.2 e).1, (x.2 e).2.1, cc a (by rw [(x.2 e).2.1]; exact Nat.succ_ne_zero _) (x.2 e).2.2⟩⟩
theorem lh_pv_ins {h : Nat → Nat} {c c' : Nat → Prop} {a t b f : Nat} {k : Bool} {q : List Nat} (hf : h f = 0) (hb : h b ≠ 0) (cb : ¬ c b) (cc : ∀ x, x ≠ f → c x → c' x) (x : lh_pv h c a t k q) : lh_pv (lh_ins h b f) c' a t k (lh_T b f t q) := by
  cases k with
  | true => exact ⟨fun _ => lh_pth_ins hf hb q a (x.1 rfl), fun e => absurd e (by decide)⟩
  | false =>
    refine ⟨fun e => absurd e (by decide), fun _ => ?_⟩
    obtain ⟨e, hc, ca⟩ := x.2 rfl
    have ab : a ≠ b := fun z => cb (by rw [← z]; exact ca)
    have af : a ≠ f := fun z => by rw [z, hf] at hc; exact absurd hc (by omega)
    refine ⟨?_, by rw [lh_ins_o af ab]; exact hc, cc a af ca⟩
    rw [e, lh_T_c, if_neg ab, lh_T_0]
/-! A CLAIM of m parts FITS the heap by the ways q; wh: and nothing is left -/
def lh_fit (h : Nat → Nat) (c : Nat → Prop) (m : Nat) (pa pt : Nat → Nat) (pk : Nat → Bool) (wh : Prop) (q : Nat → List Nat) : Prop :=
  (∀ j, j < m → lh_pv h c (pa j) (pt j) (pk j) (q j)) ∧ (∀ j, j < m → (q j).Nodup) ∧ (∀ i j, i < m → j < m → ∀ x, x ∈ q i → x ∈ q j → i = j) ∧ (wh → ∀ g, h g ≠ 0 → ∃ j, j < m ∧ g ∈ q j)
theorem lh_fit_weak {h : Nat → Nat} {c c' : Nat → Prop} {m : Nat} {pa pt : Nat → Nat} {pk : Nat → Bool} {wh : Prop} {q : Nat → List Nat} (cc : ∀ x, h x ≠ 0 → c x → c' x) (F : lh_fit h c m pa pt pk wh q) : lh_fit h c' m pa pt pk wh q :=
  ⟨fun j hj => lh_pv_weak cc (F.1 j hj), F.2.1, F.2.2.1, F.2.2.2⟩
theorem lh_fit_ins {h : Nat → Nat} {c c' : Nat → Prop} {m : Nat} {pa pt : Nat → Nat} {pk : Nat → Bool} {wh : Prop} {q : Nat → List Nat} {b f : Nat} (hf : h f = 0) (hb : h b ≠ 0) (cb : ¬ c b) (cc : ∀ x, x ≠ f → c x → c' x) (ok : wh → ∀ j, j < m → b ∈ q j → pt j ≠ f) (F : lh_fit h c m pa pt pk wh q) : lh_fit (lh_ins h b f) c' m pa pt pk wh (fun j => lh_T b f (pt j) (q j)) := by
  have nf : ∀ j, j < m → f ∉ q j := fun j hj z => lh_pv_cell (F.1 j hj) f z hf
  refine ⟨fun j hj => lh_pv_ins hf hb cb cc (F.1 j hj), fun j hj => lh_T_nodup _ (F.2.1 j hj) (nf j hj), ?_, ?_⟩
  · intro i j hi hj x xi xj
    rcases lh_T_mem _ xi with xi | xi
    · rcases lh_T_mem _ xj with xj | xj
      · exact F.2.2.1 i j hi hj x xi xj
      · exact absurd (by rw [← xj.1]; exact xi) (nf i hi)
    · rcases lh_T_mem _ xj with xj | xj
      · exact absurd (by rw [← xi.1]; exact xj) (nf j hj)
      · exact F.2.2.1 i j hi hj b xi.2.1 xj.2.1
  · intro w g hg
    by_cases e : g = f
    · obtain ⟨j, hj, bj⟩ := F.2.2.2 w b hb
      exact ⟨j, hj, by rw [e]; exact lh_T_new (ok w j hj bj) _ bj⟩
    · have hg' : h g ≠ 0 := by
        by_cases eb : g = b
        · rw [eb]; exact hb
        · rw [lh_ins_o e eb] at hg; exact hg
      obtain ⟨j, hj, gj⟩ := F.2.2.2 w g hg'
      exact ⟨j, hj, lh_T_keep _ (ok w j hj) gj⟩
/-- nothing left, and a way over s to f: then the heap with f behind s has no fit -/
theorem lh_bad {h : Nat → Nat} {c : Nat → Prop} {m : Nat} {pa pt : Nat → Nat} {pk : Nat → Bool} {q0 : Nat → List Nat} {s f j : Nat} (hf : h f = 0) (hs : h s ≠ 0) (cs : ¬ c s) {wh : Prop} (w : wh) (F0 : lh_fit h c m pa pt pk wh q0) {q1 : Nat → List Nat} (F1 : lh_fit (lh_ins h s f) (fun _ => True) m pa pt pk wh q1) (hj : j < m) (sj : s ∈ q0 j) (tf : pt j = f) : False := by
  obtain ⟨k, hk, fk⟩ := F1.2.2.2 w f (by rw [lh_ins_f]; exact hs)
  have A : lh_pv (lh_ins h s f) (fun _ => True) (pa k) (pt k) (pk k) (lh_T s f (pt k) (q0 k)) := lh_pv_ins hf hs cs (fun _ _ _ => trivial) (F0.1 k hk)
  rw [lh_pv_uniq (F1.1 k hk) A] at fk
  rcases lh_T_mem _ fk with fk | fk
  · exact lh_pv_cell (F0.1 k hk) f fk hf
  · have e : k = j := F0.2.2.1 k j hk hj s fk.2.1 sj
    exact fk.2.2 (by rw [e]; exact tf)
