section
/-! NUMBERS: rows of the kit's paste file, then rows of this claim -/
theorem pk_us {f : Nat → Int32} {k : Nat} {x : Int32} : upd f k x k = x := if_pos rfl
theorem pk_un {f : Nat → Int32} {k j : Nat} {x : Int32} (h : j ≠ k) : upd f k x j = f j := if_neg h
theorem pk_sub {a b : Nat} (h : b ≤ a) : nI a - nI b = nI (a - b) := by
  obtain ⟨c, rfl⟩ : ∃ c, a = c + b := ⟨a - b, by omega⟩
  rw [← nI_add, Int32.add_sub_cancel, Nat.add_sub_cancel]
theorem pk_m1 (n : Nat) : nI (n + 1) + (-1) = nI n := by
  rw [← nI_1, Int32.add_assoc, show (1 : Int32) + (-1) = 0 from rfl, Int32.add_zero]
theorem pk_mul (a b : Nat) : nI a * nI b = nI (a * b) := (Int32.ofNat_mul a b).symm
theorem pk_div {a d : Nat} (ha : a < 2 ^ 31) (h0 : 0 < d) (hd : d < 2 ^ 31) : nI a / nI d = nI (a / d) := by
  apply Int32.toInt_inj.mp
  rw [lg_idiv_nonneg (by rw [nI_toInt ha]; omega) (by rw [nI_toInt hd]; omega), nI_toInt ha, nI_toInt hd, nI_toInt (Nat.lt_of_le_of_lt (Nat.div_le_self a d) ha)]
  first | rfl | exact (Int.natCast_ediv _ _).symm
theorem pk_rem {a d : Nat} (ha : a < 2 ^ 31) (h0 : 0 < d) (hd : d < 2 ^ 31) : nI a - nI a / nI d * nI d = nI (a % d) := by
  rw [pk_div ha h0 hd, pk_mul, pk_sub (Nat.div_mul_le_self a d)]
  exact congrArg nI (by have := Nat.div_add_mod' a d; omega)
theorem pk_le {x y : Int32} {A B : Prop} (a b : Nat) (f : a ≤ b → A) (g : b < a → B) (hx : x = nI a := by rfl) (hy : y = nI b := by rfl) (ha : a < 2 ^ 31 := by omega) (hb : b < 2 ^ 31 := by omega) : (x ≤ y → A) ∧ (¬ x ≤ y → B) := by
  subst hx hy
  rw [nI_leI ha hb]
  exact ⟨f, fun z => g (by omega)⟩
theorem pk_lt {x y : Int32} {A B : Prop} (a b : Nat) (f : a < b → A) (g : b ≤ a → B) (hx : x = nI a := by rfl) (hy : y = nI b := by rfl) (ha : a < 2 ^ 31 := by omega) (hb : b < 2 ^ 31 := by omega) : (x < y → A) ∧ (¬ x < y → B) := by
  subst hx hy
  rw [nI_ltI ha hb]
  exact ⟨f, fun z => g (by omega)⟩
theorem pk_eq {x y : Int32} {A B : Prop} (a b : Nat) (f : a = b → A) (g : a ≠ b → B) (hx : x = nI a := by rfl) (hy : y = nI b := by rfl) (ha : a < 2 ^ 31 := by omega) (hb : b < 2 ^ 31 := by omega) : (x = y → A) ∧ (¬ x = y → B) := by
  subst hx hy
  rw [nI_eq ha hb]
  exact ⟨f, g⟩
theorem pk_in {x : Int32} (n N : Nat) (h : n < N) (hx : x = nI n := by rfl) (hN : N < 2 ^ 31 := by omega) : vp_in x N := by
  subst hx
  exact vp_in_nI h hN
theorem pk_cl {x : Int32} (n : Nat) (hx : x = nI n := by rfl) (h : n < 2 ^ 31 := by omega) : x.toNatClampNeg = n := by
  subst hx
  exact nI_clamp h
theorem pk_tn {n : Nat} (h : n < 2 ^ 32) : (nI n).toBitVec.toNat = n := Nat.mod_eq_of_lt h
theorem pk_and (x : Int32) {m : Int32} (k : Nat) (hm : m.toBitVec.toNat = 2 ^ k - 1) : x &&& m = nI (x.toBitVec.toNat % 2 ^ k) := by
  apply Int32.toBitVec_inj.mp
  apply BitVec.eq_of_toNat_eq
  rw [Int32.toBitVec_and, BitVec.toNat_and, hm, Nat.and_two_pow_sub_one_eq_mod]
  show _ = (BitVec.ofNat 32 _).toNat
  rw [BitVec.toNat_ofNat]
  exact (Nat.mod_eq_of_lt (Nat.lt_of_le_of_lt (Nat.mod_le _ _) x.toBitVec.isLt)).symm
theorem pk_andN {n : Nat} (h : n < 2 ^ 32) {m : Int32} (k : Nat) (hm : m.toBitVec.toNat = 2 ^ k - 1) : nI n &&& m = nI (n % 2 ^ k) := by
  rw [pk_and _ k hm, pk_tn h]
theorem pk_shl (a s : Int32) (k : Nat) (hs : (s.toBitVec.smod 32).toNat = k) : (a <<< s).toBitVec.toNat = a.toBitVec.toNat * 2 ^ k % 2 ^ 32 := by
  show (a.toBitVec <<< (s.toBitVec.smod 32).toNat).toNat = _
  rw [hs, BitVec.toNat_shiftLeft, Nat.shiftLeft_eq]
theorem pk_shlN {n : Nat} (s : Int32) (k : Nat) (hs : (s.toBitVec.smod 32).toNat = k) (h : n * 2 ^ k < 2 ^ 32) : nI n <<< s = nI (n * 2 ^ k) := by
  apply Int32.toBitVec_inj.mp
  apply BitVec.eq_of_toNat_eq
  have hn : n < 2 ^ 32 := Nat.lt_of_le_of_lt (Nat.le_mul_of_pos_right n (Nat.two_pow_pos k)) h
  rw [pk_shl _ _ k hs, pk_tn hn, pk_tn h, Nat.mod_eq_of_lt h]
theorem pk_shr (a s : Int32) (k : Nat) (hs : (s.toBitVec.smod 32).toNat = k) : (a >>> s).toInt = a.toInt >>> k := by
  show (a.toBitVec.sshiftRight (s.toBitVec.smod 32).toNat).toInt = _
  rw [hs, BitVec.toInt_sshiftRight]
  rfl
theorem pk_shrN {n : Nat} (h : n < 2 ^ 31) (s : Int32) (k : Nat) (hs : (s.toBitVec.smod 32).toNat = k) : nI n >>> s = nI (n / 2 ^ k) := by
  apply Int32.toInt_inj.mp
  have h2 : n / 2 ^ k ≤ n := Nat.div_le_self _ _
  rw [pk_shr _ _ k hs, nI_toInt h, nI_toInt (by omega), Int.shiftRight_eq_div_pow]
  rfl
theorem pk_loop {σ : Type} (W : Nat → Nat → σ → Prop) (I : Nat → σ → Prop) (e i0 : Nat) (s : σ) (hi : i0 ≤ e) (h0 : I i0 s) (hx : ∀ n s, I e s → W (n + 1) e s)
    (hs : ∀ n i s, i < e → I i s → (∀ s', I (i + 1) s' → W n (i + 1) s') → W (n + 1) i s) : ∃ n, W n i0 s :=
  ⟨e + 1, loop_i W I e hx hs (e + 1) i0 s hi (by omega) h0⟩
theorem pk_loopD {σ : Type} (W : Nat → Nat → σ → Prop) (I : Nat → σ → Prop) (hx : ∀ n s, I 0 s → W (n + 1) 0 s)
    (hs : ∀ n i s, I (i + 1) s → (∀ s', I i s' → W n i s') → W (n + 1) (i + 1) s) : ∀ (e : Nat) (s : σ), I e s → W (e + 1) e s := by
  intro e
  induction e with
  | zero => exact fun s h => hx 0 s h
  | succ e ih => exact fun s h => hs (e + 1) e s h (fun s' h' => ih s' h')
theorem nx_and (a b : Nat) : nI a &&& nI b = nI (a &&& b) := by
  apply Int32.toBitVec_inj.1
  show BitVec.ofNat 32 a &&& BitVec.ofNat 32 b = BitVec.ofNat 32 (a &&& b)
  apply BitVec.eq_of_getLsbD_eq
  intro i hi
  simp [hi]
theorem lh_or (a b : Nat) : nI a ||| nI b = nI (a ||| b) := by
  apply Int32.toBitVec_inj.1
  show BitVec.ofNat 32 a ||| BitVec.ofNat 32 b = BitVec.ofNat 32 (a ||| b)
  apply BitVec.eq_of_getLsbD_eq
  intro i hi
  simp [hi]
/-- a place's content: 0 is no cell (-1), v + 1 leads to v -/
def lh_hv : Nat → Int32
  | 0 => -1
  | n + 1 => nI n
theorem lh_hv_m1 : ∀ a, a < 8 → (lh_hv a = -1 ↔ a = 0) := by decide +kernel
theorem lh_hv_neg : ∀ a, a < 8 → (lh_hv a < 0 ↔ a = 0) := by decide +kernel
theorem lh_hv_pos : ∀ a, a < 8 → (0 ≤ lh_hv a ↔ a ≠ 0) := by decide +kernel
theorem lh_hv_eq : ∀ a, a < 8 → ∀ b, b < 8 → (lh_hv a = nI b ↔ a = b + 1) := by decide +kernel
theorem lh_hv_p {a : Nat} (h : a ≠ 0) : lh_hv a = nI (a - 1) := by
  cases a with
  | zero => exact absurd rfl h
  | succ n => rfl
def lh_bI (b : Bool) : Int32 := if b = true then 1 else 0
theorem lh_bI_0 (b : Bool) : lh_bI b = 0 ↔ b = false := by cases b <;> decide
theorem lh_bI_1 (b : Bool) : lh_bI b = 1 ↔ b = true := by cases b <;> decide
/-- the first N of an array are these numbers; these contents; these truths -/
def lh_A (N : Nat) (a : Nat → Int32) (f : Nat → Nat) : Prop := ∀ i, i < N → a i = nI (f i)
def lh_Ah (N : Nat) (a : Nat → Int32) (h : Nat → Nat) : Prop := ∀ i, i < N → a i = lh_hv (h i)
def lh_Ab (N : Nat) (a : Nat → Int32) (t : Nat → Bool) : Prop := ∀ i, i < N → a i = lh_bI (t i)
theorem lh_s8 (s i : Nat) : nI s * 8 + nI i = nI (8 * s + i) := by
  rw [show (8 : Int32) = nI 8 from rfl, pk_mul, nI_add, Nat.mul_comm]
theorem lh_8s (s i : Nat) : 8 * nI s + nI i = nI (8 * s + i) := by
  rw [show (8 : Int32) = nI 8 from rfl, pk_mul, nI_add]
theorem lh_s6 (s i : Nat) : nI s * 6 + nI i = nI (6 * s + i) := by
  rw [show (6 : Int32) = nI 6 from rfl, pk_mul, nI_add, Nat.mul_comm]
theorem lh_6s (s i : Nat) : 6 * nI s + nI i = nI (6 * s + i) := by
  rw [show (6 : Int32) = nI 6 from rfl, pk_mul, nI_add]
theorem lh_36s (s i : Nat) : 36 + 6 * nI s + nI i = nI (36 + 6 * s + i) := by
  rw [show (6 : Int32) = nI 6 from rfl, show (36 : Int32) = nI 36 from rfl, pk_mul, nI_add, nI_add]
theorem lh_w36 : ∀ w, w < 72 → (nI w - nI w / 36 * 36) / 6 = nI (w % 36 / 6) := by decide +kernel
theorem lh_w6 : ∀ w, w < 72 → nI w - nI w / 6 * 6 = nI (w % 6) := by decide +kernel
theorem lh_k0 : ∀ w, w < 72 → (nI (w / 36) = 0 ↔ w < 36) := by decide +kernel
theorem lh_k1 : ∀ w, w < 72 → (nI (w / 36) = 1 ↔ 36 ≤ w) := by decide +kernel
theorem lh_ge36 : ∀ w, w < 72 → (36 ≤ nI w ↔ 36 ≤ w) := by decide +kernel
theorem lh_lt36 : ∀ w, w < 72 → (nI w < 36 ↔ w < 36) := by decide +kernel
theorem lh_1sh : ∀ g, g < 7 → (1 : Int32) <<< (nI g &&& 31) = nI (2 ^ g) := by decide +kernel
end
section
/-! PATHS. A heap is h : Nat → Nat: h x = 0: no cell at x; h x = v + 1: the cell at x leads to v. -/
/-- going from x over the places q, none of them t, one comes to y -/
def lh_pre (h : Nat → Nat) (t y : Nat) : Nat → List Nat → Prop
  | x, [] => x = y
  | x, z :: zs => z = x ∧ x ≠ t ∧ h x ≠ 0 ∧ lh_pre h t y (h x - 1) zs
/-- the way from x to t -/
def lh_pth (h : Nat → Nat) (t x : Nat) (q : List Nat) : Prop := lh_pre h t t x q
theorem lh_pre_nil {h : Nat → Nat} {t y x : Nat} : lh_pre h t y x [] ↔ x = y := Iff.rfl
theorem lh_pre_cons {h : Nat → Nat} {t y x z : Nat} {zs : List Nat} : lh_pre h t y x (z :: zs) ↔ z = x ∧ x ≠ t ∧ h x ≠ 0 ∧ lh_pre h t y (h x - 1) zs := Iff.rfl
theorem lh_pre_cell {h : Nat → Nat} {t y : Nat} : ∀ (q : List Nat) (x : Nat), lh_pre h t y x q → ∀ w, w ∈ q → h w ≠ 0 := by
  intro q
  induction q with
  | nil => intro x _ w hw; exact absurd hw List.not_mem_nil
  | cons z zs ih =>
    intro x a w hw
    obtain ⟨e, _, hx, a'⟩ := lh_pre_cons.mp a
    rcases List.mem_cons.mp hw with hw | hw
    · rw [hw, e]; exact hx
    · exact ih _ a' w hw
theorem lh_pre_snoc {h : Nat → Nat} {t y : Nat} (hy : y ≠ t) (hc : h y ≠ 0) : ∀ (q : List Nat) (x : Nat), lh_pre h t y x q → lh_pre h t (h y - 1) x (q ++ [y]) := by
  intro q
  induction q with
  | nil =>
    intro x a
    have e : x = y := lh_pre_nil.mp a
    subst e
    exact lh_pre_cons.mpr ⟨rfl, hy, hc, lh_pre_nil.mpr rfl⟩
  | cons z zs ih =>
    intro x a
    obtain ⟨e, n, hx, a'⟩ := lh_pre_cons.mp a
    exact lh_pre_cons.mpr ⟨e, n, hx, ih _ a'⟩
/-- a way to t goes on where a beginning of it ends -/
theorem lh_pre_split {h : Nat → Nat} {t y : Nat} : ∀ (q : List Nat) (x : Nat) (q' : List Nat), lh_pre h t y x q → lh_pth h t x q' → ∃ r, q' = q ++ r ∧ lh_pth h t y r := by
  intro q
  induction q with
  | nil =>
    intro x q' a b
    have e : x = y := lh_pre_nil.mp a
    subst e
    exact ⟨q', rfl, b⟩
  | cons z zs ih =>
    intro x q' a b
    obtain ⟨e, n, hx, a'⟩ := lh_pre_cons.mp a
    cases q' with
    | nil => exact absurd (lh_pre_nil.mp b) n
    | cons w ws =>
      obtain ⟨e', _, _, b'⟩ := lh_pre_cons.mp b
      obtain ⟨r, hr, c⟩ := ih _ ws a' b'
      exact ⟨r, by rw [e', ← e, hr, List.cons_append], c⟩
theorem lh_pth_uniq {h : Nat → Nat} {t x : Nat} {q q' : List Nat} (a : lh_pth h t x q) (b : lh_pth h t x q') : q = q' := by
  obtain ⟨r, hr, c⟩ := lh_pre_split q x q' a b
  cases r with
  | nil => rw [hr, List.append_nil]
  | cons z zs => exact absurd rfl (lh_pre_cons.mp c).2.1
/-! INSERTION of f behind b -/
def lh_ins (h : Nat → Nat) (b f : Nat) : Nat → Nat := fun i => if i = f then h b else if i = b then f + 1 else h i
theorem lh_ins_f {h : Nat → Nat} {b f : Nat} : lh_ins h b f f = h b := if_pos rfl
theorem lh_ins_b {h : Nat → Nat} {b f : Nat} (n : b ≠ f) : lh_ins h b f b = f + 1 := by
  unfold lh_ins; rw [if_neg n, if_pos rfl]
theorem lh_ins_o {h : Nat → Nat} {b f i : Nat} (n : i ≠ f) (m : i ≠ b) : lh_ins h b f i = h i := by
  unfold lh_ins; rw [if_neg n, if_neg m]
/-- what a way to t becomes -/
def lh_T (b f t : Nat) : List Nat → List Nat
  | [] => []
  | y :: ys => if y = b then (if t = f then [b] else b :: f :: lh_T b f t ys) else y :: lh_T b f t ys
theorem lh_T_0 {b f t : Nat} : lh_T b f t [] = [] := rfl
theorem lh_T_c {b f t y : Nat} {ys : List Nat} : lh_T b f t (y :: ys) = if y = b then (if t = f then [b] else b :: f :: lh_T b f t ys) else y :: lh_T b f t ys := rfl
theorem lh_T_mem {b f t x : Nat} : ∀ q : List Nat, x ∈ lh_T b f t q → x ∈ q ∨ (x = f ∧ b ∈ q ∧ t ≠ f) := by
  intro q
  induction q with
  | nil => intro hx; exact Or.inl hx
  | cons y ys ih =>
    intro hx
    rw [lh_T_c] at hx
    by_cases e : y = b
    · rw [if_pos e] at hx
      by_cases et : t = f
      · rw [if_pos et] at hx
        have hb : x = b := by simpa using hx
        exact Or.inl (by rw [hb, ← e]; exact List.mem_cons_self)
      · rw [if_neg et] at hx
        rcases List.mem_cons.mp hx with hx | hx
        · exact Or.inl (by rw [hx, ← e]; exact List.mem_cons_self)
        · rcases List.mem_cons.mp hx with hx | hx
          · exact Or.inr ⟨hx, by rw [← e]; exact List.mem_cons_self, et⟩
          · rcases ih hx with hx | ⟨h1, h2, h3⟩
            · exact Or.inl (List.mem_cons_of_mem _ hx)
            · exact Or.inr ⟨h1, List.mem_cons_of_mem _ h2, h3⟩
    · rw [if_neg e] at hx
      rcases List.mem_cons.mp hx with hx | hx
      · exact Or.inl (by rw [hx]; exact List.mem_cons_self)
      · rcases ih hx with hx | ⟨h1, h2, h3⟩
        · exact Or.inl (List.mem_cons_of_mem _ hx)
        · exact Or.inr ⟨h1, List.mem_cons_of_mem _ h2, h3⟩
theorem lh_T_nodup {b f t : Nat} : ∀ q : List Nat, q.Nodup → f ∉ q → (lh_T b f t q).Nodup := by
  intro q
  induction q with
  | nil => intro _ _; exact List.nodup_nil
  | cons y ys ih =>
    intro nd nf
    obtain ⟨ny, nd'⟩ := List.nodup_cons.mp nd
    have nf' : f ∉ ys := fun z => nf (List.mem_cons_of_mem _ z)
    have yf : y ≠ f := fun z => nf (by rw [z]; exact List.mem_cons_self)
    have I := ih nd' nf'
    rw [lh_T_c]
    by_cases e : y = b
    · rw [if_pos e]
      by_cases et : t = f
      · rw [if_pos et]; exact List.nodup_cons.mpr ⟨List.not_mem_nil, List.nodup_nil⟩
      · rw [if_neg et]
        have bys : b ∉ ys := by rw [← e]; exact ny
        refine List.nodup_cons.mpr ⟨fun z => ?_, List.nodup_cons.mpr ⟨fun z => ?_, I⟩⟩
        · rcases List.mem_cons.mp z with z | z
          · exact yf (by rw [e]; exact z)
          · rcases lh_T_mem ys z with z | z
            · exact bys z
            · exact bys z.2.1
        · rcases lh_T_mem ys z with z | z
          · exact nf' z
          · exact bys z.2.1
    · rw [if_neg e]
      refine List.nodup_cons.mpr ⟨fun z => ?_, I⟩
      rcases lh_T_mem ys z with z | z
      · exact ny z
      · exact yf z.1
/-- all of q is kept, and f comes, unless the way ends at f -/
theorem lh_T_keep {b f t x : Nat} : ∀ q : List Nat, (b ∈ q → t ≠ f) → x ∈ q → x ∈ lh_T b f t q := by
  intro q
  induction q with
  | nil => intro _ hx; exact hx
  | cons y ys ih =>
    intro nt hx
    have nt' : b ∈ ys → t ≠ f := fun z => nt (List.mem_cons_of_mem _ z)
    rw [lh_T_c]
    by_cases e : y = b
    · have et : ¬ t = f := nt (by rw [e]; exact List.mem_cons_self)
      rw [if_pos e, if_neg et]
      rcases List.mem_cons.mp hx with hx | hx
      · rw [hx, e]; exact List.mem_cons_self
      · exact List.mem_cons_of_mem _ (List.mem_cons_of_mem _ (ih nt' hx))
    · rw [if_neg e]
      rcases List.mem_cons.mp hx with hx | hx
      · rw [hx]; exact List.mem_cons_self
      · exact List.mem_cons_of_mem _ (ih nt' hx)
theorem lh_T_new {b f t : Nat} (nt : t ≠ f) : ∀ q : List Nat, b ∈ q → f ∈ lh_T b f t q := by
  intro q
  induction q with
  | nil => intro hx; exact absurd hx List.not_mem_nil
  | cons y ys ih =>
    intro hx
    rw [lh_T_c]
    by_cases e : y = b
    · rw [if_pos e, if_neg nt]
      exact List.mem_cons_of_mem _ List.mem_cons_self
    · rw [if_neg e]
      rcases List.mem_cons.mp hx with hx | hx
      · exact absurd hx.symm e
      · exact List.mem_cons_of_mem _ (ih hx)
theorem lh_pth_ins {h : Nat → Nat} {b f t : Nat} (hf : h f = 0) (hb : h b ≠ 0) : ∀ (q : List Nat) (x : Nat), lh_pth h t x q → lh_pth (lh_ins h b f) t x (lh_T b f t q) := by
  intro q
  induction q with
  | nil => intro x a; exact lh_pre_nil.mpr (lh_pre_nil.mp a)
  | cons y ys ih =>
    intro x a
    obtain ⟨e0, hxt, hx, a'⟩ := lh_pre_cons.mp a
    subst e0
    have yf : y ≠ f := fun z => hx (by rw [z]; exact hf)
    rw [lh_T_c]
    by_cases e : y = b
    · rw [if_pos e]
      have eb : lh_ins h b f y = f + 1 := by rw [e]; exact lh_ins_b (by rw [← e]; exact yf)
      by_cases et : t = f
      · rw [if_pos et]
        refine lh_pre_cons.mpr ⟨e.symm, hxt, by rw [eb]; exact Nat.succ_ne_zero _, ?_⟩
        rw [eb]; exact lh_pre_nil.mpr et.symm
      · rw [if_neg et]
        refine lh_pre_cons.mpr ⟨e.symm, hxt, by rw [eb]; exact Nat.succ_ne_zero _, ?_⟩
        rw [eb]
        refine lh_pre_cons.mpr ⟨rfl, Ne.symm et, by rw [Nat.add_sub_cancel, lh_ins_f]; exact hb, ?_⟩
        rw [Nat.add_sub_cancel, lh_ins_f]
        have a2 := ih _ a'
        rw [e] at a2
        exact a2
    · rw [if_neg e]
      have eo : lh_ins h b f y = h y := lh_ins_o yf e
      refine lh_pre_cons.mpr ⟨rfl, hxt, by rw [eo]; exact hx, ?_⟩
      rw [eo]
      exact ih _ a'
/-! PARTS: from a to t, a list (k) or a cell; c: what is asked of a cell's place besides -/
def lh_pv (h : Nat → Nat) (c : Nat → Prop) (a t : Nat) (k : Bool) (q : List Nat) : Prop :=
  (k = true → lh_pth h t a q) ∧ (k = false → q = [a] ∧ h a = t + 1 ∧ c a)
theorem lh_pv_uniq {h : Nat → Nat} {c c' : Nat → Prop} {a t : Nat} {k : Bool} {q q' : List Nat} (x : lh_pv h c a t k q) (y : lh_pv h c' a t k q') : q = q' := by
  cases k with
  | true => exact lh_pth_uniq (x.1 rfl) (y.1 rfl)
  | false => rw [(x.2 rfl).1, (y.2 rfl).1]
theorem lh_pv_cell {h : Nat → Nat} {c : Nat → Prop} {a t : Nat} {k : Bool} {q : List Nat} (x : lh_pv h c a t k q) : ∀ w, w ∈ q → h w ≠ 0 := by
  cases k with
  | true => exact lh_pre_cell q a (x.1 rfl)
  | false =>
    intro w hw
    obtain ⟨e, hc, _⟩ := x.2 rfl
    rw [e] at hw
    have ew : w = a := by simpa using hw
    rw [ew, hc]; exact Nat.succ_ne_zero _
theorem lh_pv_weak {h : Nat → Nat} {c c' : Nat → Prop} {a t : Nat} {k : Bool} {q : List Nat} (cc : ∀ x, h x ≠ 0 → c x → c' x) (x : lh_pv h c a t k q) : lh_pv h c' a t k q :=
  ⟨x.1, fun e => ⟨(x.2 e).1, (x.2 e).2.1, cc a (by rw [(x.2 e).2.1]; exact Nat.succ_ne_zero _) (x.2 e).2.2⟩⟩
theorem lh_pv_ins {h : Nat → Nat} {c c' : Nat → Prop} {a t b f : Nat} {k : Bool} {q : List Nat} (hf : h f = 0) (hb : h b ≠ 0) (cb : ¬ c b) (cc : ∀ x, x ≠ f → c x → c' x) (x : lh_pv h c a t k q) : lh_pv (lh_ins h b f) c' a t k (lh_T b f t q) := by
  cases k with
  | true => exact ⟨fun _ => lh_pth_ins hf hb q a (x.1 rfl), fun e => absurd e (by decide)⟩
  | false =>
    refine ⟨fun e => absurd e (by decide), fun _ => ?_⟩
    obtain ⟨e, hc, ca⟩ := x.2 rfl
    have ab : a ≠ b := fun z => cb (by rw [← z]; exact ca)
    have af : a ≠ f := fun z => by rw [z, hf] at hc; exact absurd hc (by omega)
    refine ⟨?_, by rw [lh_ins_o af ab]; exact hc, cc a af ca⟩
    rw [e, lh_T_c, if_neg ab, lh_T_0]
/-! A CLAIM of m parts FITS the heap by the ways q; wh: and nothing is left -/
def lh_fit (h : Nat → Nat) (c : Nat → Prop) (m : Nat) (pa pt : Nat → Nat) (pk : Nat → Bool) (wh : Prop) (q : Nat → List Nat) : Prop :=
  (∀ j, j < m → lh_pv h c (pa j) (pt j) (pk j) (q j)) ∧ (∀ j, j < m → (q j).Nodup) ∧ (∀ i j, i < m → j < m → ∀ x, x ∈ q i → x ∈ q j → i = j) ∧ (wh → ∀ g, h g ≠ 0 → ∃ j, j < m ∧ g ∈ q j)
theorem lh_fit_weak {h : Nat → Nat} {c c' : Nat → Prop} {m : Nat} {pa pt : Nat → Nat} {pk : Nat → Bool} {wh : Prop} {q : Nat → List Nat} (cc : ∀ x, h x ≠ 0 → c x → c' x) (F : lh_fit h c m pa pt pk wh q) : lh_fit h c' m pa pt pk wh q :=
  ⟨fun j hj => lh_pv_weak cc (F.1 j hj), F.2.1, F.2.2.1, F.2.2.2⟩
theorem lh_fit_ins {h : Nat → Nat} {c c' : Nat → Prop} {m : Nat} {pa pt : Nat → Nat} {pk : Nat → Bool} {wh : Prop} {q : Nat → List Nat} {b f : Nat} (hf : h f = 0) (hb : h b ≠ 0) (cb : ¬ c b) (cc : ∀ x, x ≠ f → c x → c' x) (ok : wh → ∀ j, j < m → b ∈ q j → pt j ≠ f) (F : lh_fit h c m pa pt pk wh q) : lh_fit (lh_ins h b f) c' m pa pt pk wh (fun j => lh_T b f (pt j) (q j)) := by
  have nf : ∀ j, j < m → f ∉ q j := fun j hj z => lh_pv_cell (F.1 j hj) f z hf
  refine ⟨fun j hj => lh_pv_ins hf hb cb cc (F.1 j hj), fun j hj => lh_T_nodup _ (F.2.1 j hj) (nf j hj), ?_, ?_⟩
  · intro i j hi hj x xi xj
    rcases lh_T_mem _ xi with xi | xi
    · rcases lh_T_mem _ xj with xj | xj
      · exact F.2.2.1 i j hi hj x xi xj
      · exact absurd (by rw [← xj.1]; exact xi) (nf i hi)
    · rcases lh_T_mem _ xj with xj | xj
      · exact absurd (by rw [← xi.1]; exact xj) (nf j hj)
      · exact F.2.2.1 i j hi hj b xi.2.1 xj.2.1
  · intro w g hg
    by_cases e : g = f
    · obtain ⟨j, hj, bj⟩ := F.2.2.2 w b hb
      exact ⟨j, hj, by rw [e]; exact lh_T_new (ok w j hj bj) _ bj⟩
    · have hg' : h g ≠ 0 := by
        by_cases eb : g = b
        · rw [eb]; exact hb
        · rw [lh_ins_o e eb] at hg; exact hg
      obtain ⟨j, hj, gj⟩ := F.2.2.2 w g hg'
      exact ⟨j, hj, lh_T_keep _ (ok w j hj) gj⟩
/-- nothing left, and a way over s to f: then the heap with f behind s has no fit -/
theorem lh_bad {h : Nat → Nat} {c : Nat → Prop} {m : Nat} {pa pt : Nat → Nat} {pk : Nat → Bool} {q0 : Nat → List Nat} {s f j : Nat} (hf : h f = 0) (hs : h s ≠ 0) (cs : ¬ c s) {wh : Prop} (w : wh) (F0 : lh_fit h c m pa pt pk wh q0) {q1 : Nat → List Nat} (F1 : lh_fit (lh_ins h s f) (fun _ => True) m pa pt pk wh q1) (hj : j < m) (sj : s ∈ q0 j) (tf : pt j = f) : False := by
  obtain ⟨k, hk, fk⟩ := F1.2.2.2 w f (by rw [lh_ins_f]; exact hs)
  have A : lh_pv (lh_ins h s f) (fun _ => True) (pa k) (pt k) (pk k) (lh_T s f (pt k) (q0 k)) := lh_pv_ins hf hs cs (fun _ _ _ => trivial) (F0.1 k hk)
  rw [lh_pv_uniq (F1.1 k hk) A] at fk
  rcases lh_T_mem _ fk with fk | fk
  · exact lh_pv_cell (F0.1 k hk) f fk hf
  · have e : k = j := F0.2.2.1 k j hk hj s fk.2.1 sj
    exact fk.2.2 (by rw [e]; exact tf)
end
section
/-! RUNS: groups f put one by one behind groups b; b = nl: put nowhere -/
def lh_up (g : Nat → Nat) (k x : Nat) : Nat → Nat := fun j => if j = k then x else g j
theorem lh_up_s {g : Nat → Nat} {k x : Nat} : lh_up g k x k = x := if_pos rfl
theorem lh_up_o {g : Nat → Nat} {k x j : Nat} (n : j ≠ k) : lh_up g k x j = g j := if_neg n
def lh_run (nl : Nat) : List (Nat × Nat) → (Nat → Nat) → (Nat → Nat) → Option ((Nat → Nat) × (Nat → Nat))
  | [], h, e => some (h, e)
  | z :: r, h, e => if z.1 = nl then lh_run nl r h e else if e z.1 = 0 ∨ e z.1 = z.2 + 1 then none else lh_run nl r (lh_ins h z.1 z.2) (lh_up e z.2 (e z.1))
theorem lh_run_c {nl : Nat} {z : Nat × Nat} {r : List (Nat × Nat)} {h e : Nat → Nat} : lh_run nl (z :: r) h e = if z.1 = nl then lh_run nl r h e else if e z.1 = 0 ∨ e z.1 = z.2 + 1 then none else lh_run nl r (lh_ins h z.1 z.2) (lh_up e z.2 (e z.1)) := rfl
theorem lh_run_fit {h0 e0 : Nat → Nat} {m : Nat} {pa pt : Nat → Nat} {pk : Nat → Bool} {wh : Prop} {q0 : Nat → List Nat} {nl : Nat} {G : Nat → Prop}
    (he0 : ∀ x, e0 x ≠ 0 → h0 x ≠ 0) (F0 : lh_fit h0 (fun x => e0 x = 0) m pa pt pk wh q0)
    (Y : ∀ s f, e0 s ≠ 0 → G f → e0 s ≠ f + 1 → ∃ q1, lh_fit (lh_ins h0 s f) (fun _ => True) m pa pt pk wh q1)
    (hG : ∀ f, G f → h0 f = 0) :
    ∀ (r : List (Nat × Nat)) (h e : Nat → Nat) (q : Nat → List Nat) (ow : Nat → Nat), (∀ x, x ∈ r → G x.2 ∧ h x.2 = 0) → (r.map (fun x => x.2)).Nodup → lh_fit h (fun x => e x = 0) m pa pt pk wh q → (∀ x, e x ≠ 0 → h x ≠ 0 ∧ e0 (ow x) ≠ 0 ∧ e x = e0 (ow x)) → (∀ j, j < m → ∀ x, x ∈ q j → ow x ∈ q0 j) → ∀ h' e', lh_run nl r h e = some (h', e') → ∃ q', lh_fit h' (fun x => e' x = 0) m pa pt pk wh q' := by
  intro r
  induction r with
  | nil =>
    intro h e q ow _ _ F _ _ h' e' E
    simp only [lh_run, Option.some.injEq, Prod.mk.injEq] at E
    obtain ⟨E1, E2⟩ := E
    subst E1; subst E2
    exact ⟨q, F⟩
  | cons z r ih =>
    obtain ⟨b, f⟩ := z
    intro h e q ow hr nd F H O h' e' E
    rw [List.map_cons] at nd
    obtain ⟨nz, nd'⟩ := List.nodup_cons.mp nd
    have gf := hr (b, f) List.mem_cons_self
    have hr' : ∀ x, x ∈ r → G x.2 ∧ h x.2 = 0 := fun x hx => hr x (List.mem_cons_of_mem _ hx)
    rw [lh_run_c] at E
    dsimp only at E gf nz
    by_cases c1 : b = nl
    · rw [if_pos c1] at E
      exact ih h e q ow hr' nd' F H O h' e' E
    · rw [if_neg c1] at E
      by_cases c2 : e b = 0 ∨ e b = f + 1
      · rw [if_pos c2] at E; exact absurd E (by simp)
      · rw [if_neg c2] at E
        have eb : e b ≠ 0 := fun w => c2 (Or.inl w)
        have ef : e b ≠ f + 1 := fun w => c2 (Or.inr w)
        obtain ⟨hb, ob, oe⟩ := H b eb
        have hf : h f = 0 := gf.2
        have bf : b ≠ f := fun w => hb (by rw [w]; exact hf)
        have ok : wh → ∀ j, j < m → b ∈ q j → pt j ≠ f := by
          intro w j hj bj tf
          obtain ⟨q1, F1⟩ := Y (ow b) f ob gf.1 (by rw [← oe]; exact ef)
          exact lh_bad (c := fun x => e0 x = 0) (hG f gf.1) (he0 _ ob) ob w F0 F1 hj (O j hj b bj) tf
        refine ih (lh_ins h b f) (lh_up e f (e b)) (fun j => lh_T b f (pt j) (q j)) (lh_up ow f (ow b)) ?_ nd' (lh_fit_ins (c := fun x => e x = 0) (c' := fun x => lh_up e f (e b) x = 0) hf hb eb ?_ ok F) ?_ ?_ h' e' E
        · intro x hx
          refine ⟨(hr' x hx).1, ?_⟩
          have xf : x.2 ≠ f := fun w => nz (List.mem_map.mpr ⟨x, hx, w⟩)
          have xb : x.2 ≠ b := fun w => hb (by rw [← w]; exact (hr' x hx).2)
          rw [lh_ins_o xf xb]; exact (hr' x hx).2
        · intro x xf hx
          show lh_up e f (e b) x = 0
          rw [lh_up_o xf]; exact hx
        · intro x hx
          by_cases xf : x = f
          · rw [xf, lh_up_s, lh_up_s, lh_ins_f]
            exact ⟨hb, ob, oe⟩
          · rw [lh_up_o xf] at hx
            rw [lh_up_o xf, lh_up_o xf]
            obtain ⟨a1, a2, a3⟩ := H x hx
            refine ⟨?_, a2, a3⟩
            by_cases xb : x = b
            · rw [xb, lh_ins_b bf]; exact Nat.succ_ne_zero _
            · rw [lh_ins_o xf xb]; exact a1
        · intro j hj x hx
          rcases lh_T_mem _ hx with hx | hx
          · have xf : x ≠ f := fun w => lh_pv_cell (F.1 j hj) x hx (by rw [w]; exact hf)
            rw [lh_up_o xf]; exact O j hj x hx
          · rw [hx.1, lh_up_s]; exact O j hj b hx.2.1
theorem lh_run_nl {nl : Nat} {h e : Nat → Nat} : ∀ r : List (Nat × Nat), (∀ x, x ∈ r → x.1 = nl) → lh_run nl r h e = some (h, e) := by
  intro r
  induction r with
  | nil => intro _; rfl
  | cons z r ih =>
    intro H
    rw [lh_run_c]
    rw [if_pos (H z List.mem_cons_self)]
    exact ih (fun x hx => H x (List.mem_cons_of_mem _ hx))
theorem lh_rep {nl : Nat} : ∀ Fl : List Nat, ∀ x, x ∈ (List.replicate Fl.length nl).zip Fl → x.1 = nl := by
  intro Fl x hx
  obtain ⟨a, b⟩ := x
  exact List.eq_of_mem_replicate (List.of_mem_zip hx).1
/-- the run that puts f alone, behind s -/
theorem lh_run_one {nl s f : Nat} {h e : Nat → Nat} (hs : s < 6) (hn : nl < 6) (sn : s ≠ nl) (e0 : e s ≠ 0) (e1 : e s ≠ f + 1) : ∀ Fl : List Nat, f ∈ Fl → ∃ ds : List Nat, ds.length = Fl.length ∧ (∀ d, d ∈ ds → d < 6) ∧ lh_run nl (ds.zip Fl) h e = some (lh_ins h s f, lh_up e f (e s)) := by
  intro Fl
  induction Fl with
  | nil => intro hf; exact absurd hf List.not_mem_nil
  | cons g Fl ih =>
    intro hf
    by_cases e2 : f = g
    · refine ⟨s :: List.replicate Fl.length nl, by simp, ?_, ?_⟩
      · intro d hd
        rcases List.mem_cons.mp hd with hd | hd
        · rw [hd]; exact hs
        · rw [List.eq_of_mem_replicate hd]; exact hn
      · rw [List.zip_cons_cons]
        rw [lh_run_c]
        dsimp only
        rw [if_neg sn, if_neg (fun w => w.elim e0 (fun w => e1 (by rw [e2]; exact w))), ← e2]
        exact lh_run_nl _ (lh_rep Fl)
    · obtain ⟨ds, l1, l2, l3⟩ := ih ((List.mem_cons.mp hf).resolve_left e2)
      refine ⟨nl :: ds, by simp [l1], ?_, ?_⟩
      · intro d hd
        rcases List.mem_cons.mp hd with hd | hd
        · rw [hd]; exact hn
        · exact l2 d hd
      · rw [List.zip_cons_cons]
        rw [lh_run_c]
        dsimp only
        rw [if_pos rfl]
        exact l3
/-- THE HEART: all runs fit iff the plain heap does and each list made longer by one place -/
theorem lh_heart {h e : Nat → Nat} {m : Nat} {pa pt : Nat → Nat} {pk : Nat → Bool} {wh : Prop} {nl : Nat} {Fl : List Nat}
    (he : ∀ x, e x ≠ 0 → h x = e x ∧ x < 6 ∧ x ≠ nl) (hn : nl < 6) (h6 : h 6 = 0) (hF : ∀ f, f ∈ Fl → h f = 0) (nd : Fl.Nodup) (ht : ∀ j, j < m → pt j < 6) :
    (∀ ds : List Nat, ds.length = Fl.length → (∀ d, d ∈ ds → d < 6) → ∀ h' e', lh_run nl (ds.zip Fl) h e = some (h', e') → ∃ q, lh_fit h' (fun x => e' x = 0) m pa pt pk wh q) ↔
    ((∃ q, lh_fit h (fun _ => True) m pa pt pk wh q) ∧ ∀ s f, e s ≠ 0 → (f = 6 ∨ f ∈ Fl) → e s ≠ f + 1 → ∃ q, lh_fit (lh_ins h s f) (fun _ => True) m pa pt pk wh q) := by
  constructor
  · intro X
    have X0 := X (List.replicate Fl.length nl) (by simp) (fun d hd => by rw [List.eq_of_mem_replicate hd]; exact hn) h e (lh_run_nl _ (lh_rep Fl))
    obtain ⟨q, F⟩ := X0
    refine ⟨⟨q, lh_fit_weak (fun _ _ _ => trivial) F⟩, ?_⟩
    intro s f es hf ef
    rcases hf with hf | hf
    · subst hf
      have hs : h s ≠ 0 := by rw [(he s es).1]; exact es
      exact ⟨_, lh_fit_ins (c := fun x => e x = 0) (c' := fun _ => True) h6 hs es (fun _ _ _ => trivial) (fun _ j hj _ z => absurd (ht j hj) (by rw [z]; decide)) F⟩
    · obtain ⟨ds, l1, l2, l3⟩ := lh_run_one (h := h) (he s es).2.1 hn (he s es).2.2 es ef Fl hf
      obtain ⟨q', F'⟩ := X ds l1 l2 _ _ l3
      exact ⟨q', lh_fit_weak (fun _ _ _ => trivial) F'⟩
  · intro Y ds l1 l2 h' e' E
    obtain ⟨⟨q, F⟩, Y1⟩ := Y
    have F0 : lh_fit h (fun x => e x = 0) m pa pt pk wh q := by
      refine ⟨fun j hj => ⟨(F.1 j hj).1, fun k0 => ?_⟩, F.2.1, F.2.2.1, F.2.2.2⟩
      obtain ⟨a1, a2, _⟩ := (F.1 j hj).2 k0
      refine ⟨a1, a2, ?_⟩
      by_cases z : e (pa j) = 0
      · exact z
      · exfalso
        have tj := ht j hj
        have ee := (he _ z).1
        obtain ⟨q1, F1⟩ := Y1 (pa j) 6 z (Or.inl rfl) (by omega)
        have b2 := ((F1.1 j hj).2 k0).2.1
        have n6 : pa j ≠ 6 := by have := (he _ z).2.1; omega
        rw [lh_ins_b n6] at b2
        omega
    refine lh_run_fit (G := fun f => f ∈ Fl) (fun x hx => by rw [(he x hx).1]; exact hx) F0 (fun s f a b c => Y1 s f a (Or.inr b) c) hF (ds.zip Fl) h e q (fun x => x) ?_ ?_ F0 (fun x hx => ⟨by rw [(he x hx).1]; exact hx, hx, rfl⟩) (fun _ _ _ hx => hx) h' e' E
    · intro x hx
      obtain ⟨a, b⟩ := x
      have hb := (List.of_mem_zip hx).2
      exact ⟨hb, hF b hb⟩
    · have e2 : (ds.zip Fl).map (fun x => x.2) = Fl := List.map_snd_zip (by omega)
      rw [e2]; exact nd
/-! DIGITS of a run's number -/
def lh_dig : Nat → Nat → List Nat
  | _, 0 => []
  | r, n + 1 => r % 6 :: lh_dig (r / 6) n
theorem lh_dig_len : ∀ n r : Nat, (lh_dig r n).length = n := by
  intro n
  induction n with
  | zero => intro r; rfl
  | succ n ih => intro r; simp [lh_dig, ih]
theorem lh_dig_lt : ∀ n r d : Nat, d ∈ lh_dig r n → d < 6 := by
  intro n
  induction n with
  | zero => intro r d hd; exact absurd hd List.not_mem_nil
  | succ n ih =>
    intro r d hd
    rcases List.mem_cons.mp hd with hd | hd
    · omega
    · exact ih _ d hd
theorem lh_dig_all : ∀ (n : Nat) (ds : List Nat), ds.length = n → (∀ d, d ∈ ds → d < 6) → ∃ r, r < 6 ^ n ∧ lh_dig r n = ds := by
  intro n
  induction n with
  | zero =>
    intro ds l _
    exact ⟨0, by decide, (List.length_eq_zero_iff.mp l).symm⟩
  | succ n ih =>
    intro ds l hd
    cases ds with
    | nil => exact absurd l (by simp)
    | cons d ds =>
      obtain ⟨r, r1, r2⟩ := ih ds (by simpa using l) (fun x hx => hd x (List.mem_cons_of_mem _ hx))
      have d6 := hd d List.mem_cons_self
      refine ⟨d + 6 * r, by rw [Nat.pow_succ]; omega, ?_⟩
      have e1 : (d + 6 * r) % 6 = d := by omega
      have e2 : (d + 6 * r) / 6 = r := by omega
      show (d + 6 * r) % 6 :: lh_dig ((d + 6 * r) / 6) n = d :: ds
      rw [e1, e2, r2]
end
section
/-! TAKING: the places of a way are marked one by one; tk: what is marked already -/
def lh_mk (tk : Nat → Bool) (q : List Nat) : Nat → Bool := fun i => tk i || decide (i ∈ q)
theorem lh_mk_nil (tk : Nat → Bool) : lh_mk tk [] = tk := by
  funext i; simp [lh_mk]
def lh_upB (g : Nat → Bool) (k : Nat) (x : Bool) : Nat → Bool := fun j => if j = k then x else g j
theorem lh_mk_snoc (tk : Nat → Bool) (q : List Nat) (y : Nat) : lh_mk tk (q ++ [y]) = lh_upB (lh_mk tk q) y true := by
  funext i
  unfold lh_mk lh_upB
  by_cases e : i = y
  · rw [if_pos e, e]; simp
  · rw [if_neg e]; simp [e]
/-- q is a way from a to t over places that are not marked -/
def lh_way (h : Nat → Nat) (t a : Nat) (tk : Nat → Bool) (q : List Nat) : Prop := lh_pth h t a q ∧ q.Nodup ∧ ∀ x, x ∈ q → tk x = false
/-- the beginning of one -/
def lh_beg (h : Nat → Nat) (t y a : Nat) (tk : Nat → Bool) (q : List Nat) : Prop := lh_pre h t y a q ∧ q.Nodup ∧ ∀ x, x ∈ q → tk x = false
theorem lh_beg0 {h : Nat → Nat} {t a : Nat} {tk : Nat → Bool} : lh_beg h t a a tk [] := ⟨lh_pre_nil.mpr rfl, List.nodup_nil, fun _ z => absurd z List.not_mem_nil⟩
theorem lh_beg_end {h : Nat → Nat} {t a : Nat} {tk : Nat → Bool} {q : List Nat} (B : lh_beg h t t a tk q) : lh_way h t a tk q := B
theorem lh_beg_step {h : Nat → Nat} {t y a : Nat} {tk : Nat → Bool} {q : List Nat} (B : lh_beg h t y a tk q) (yt : y ≠ t) (hy : h y ≠ 0) (my : lh_mk tk q y = false) : lh_beg h t (h y - 1) a tk (q ++ [y]) := by
  obtain ⟨b1, b2, b3⟩ := B
  have m1 : tk y = false ∧ y ∉ q := by simpa [lh_mk] using my
  refine ⟨lh_pre_snoc yt hy q a b1, ?_, ?_⟩
  · refine List.nodup_append.mpr ⟨b2, List.nodup_cons.mpr ⟨List.not_mem_nil, List.nodup_nil⟩, ?_⟩
    intro x hx z hz
    have ez : z = y := by simpa using hz
    intro e
    exact m1.2 (by rw [← ez, ← e]; exact hx)
  · intro x hx
    rcases List.mem_append.mp hx with hx | hx
    · exact b3 x hx
    · have ez : x = y := by simpa using hx
      rw [ez]; exact m1.1
theorem lh_beg_bad {h : Nat → Nat} {t y a : Nat} {tk : Nat → Bool} {q : List Nat} (B : lh_beg h t y a tk q) (yt : y ≠ t) (bad : h y = 0 ∨ lh_mk tk q y = true) : ¬ ∃ q', lh_way h t a tk q' := by
  intro ⟨q', w1, w2, w3⟩
  obtain ⟨r, e, c⟩ := lh_pre_split q a q' B.1 w1
  cases r with
  | nil => exact yt (lh_pre_nil.mp c)
  | cons z zs =>
    obtain ⟨ez, _, hy, _⟩ := lh_pre_cons.mp c
    rcases bad with bad | bad
    · exact hy bad
    · have m1 : tk y = true ∨ y ∈ q := by simpa [lh_mk] using bad
      rcases m1 with m1 | m1
      · have := w3 y (by rw [e, ez]; exact List.mem_append_right _ List.mem_cons_self)
        rw [this] at m1; exact absurd m1 (by decide)
      · rw [e] at w2
        exact (List.nodup_append.mp w2).2.2 y m1 z List.mem_cons_self ez.symm
/-- a way without repetition over places below N, never over nl, has fewer than N places -/
theorem lh_short {q : List Nat} {N nl : Nat} (nd : q.Nodup) (hq : ∀ x, x ∈ q → x < N) (hn : nl < N) (nq : nl ∉ q) : q.length < N := by
  have s : (nl :: q) ⊆ List.range N := by
    intro x hx
    rcases List.mem_cons.mp hx with hx | hx
    · rw [hx]; exact List.mem_range.mpr hn
    · exact List.mem_range.mpr (hq x hx)
  have l := List.Nodup.length_le_of_subset (List.nodup_cons.mpr ⟨nq, nd⟩) s
  simp at l
  omega
theorem lh_beg_short {h : Nat → Nat} {t y a N nl : Nat} {tk : Nat → Bool} {q : List Nat} (B : lh_beg h t y a tk q) (hN : ∀ x, h x ≠ 0 → x < N) (hn : nl < N) (h0 : h nl = 0) : q.length < N :=
  lh_short B.2.1 (fun x hx => hN x (lh_pre_cell q a B.1 x hx)) hn (fun z => lh_pre_cell q a B.1 nl z h0)
/-! the parts one behind another -/
def lh_upQ (q : Nat → List Nat) (i : Nat) (r : List Nat) : Nat → List Nat := fun j => if j = i then r else q j
def lh_pf (h : Nat → Nat) (c : Nat → Prop) (i : Nat) (pa pt : Nat → Nat) (pk : Nat → Bool) (tk : Nat → Bool) (q : Nat → List Nat) : Prop :=
  lh_fit h c i pa pt pk False q ∧ ∀ x, tk x = true ↔ ∃ j, j < i ∧ x ∈ q j
theorem lh_pf_0 {h : Nat → Nat} {c : Nat → Prop} {pa pt : Nat → Nat} {pk : Nat → Bool} {q : Nat → List Nat} : lh_pf h c 0 pa pt pk (fun _ => false) q :=
  ⟨⟨fun _ z => absurd z (Nat.not_lt_zero _), fun _ z => absurd z (Nat.not_lt_zero _), fun _ _ z => absurd z (Nat.not_lt_zero _), fun z => z.elim⟩, fun _ => ⟨fun z => absurd z (by simp), fun ⟨_, z, _⟩ => absurd z (Nat.not_lt_zero _)⟩⟩
/-- what the i-th part must find -/
def lh_one (h : Nat → Nat) (c : Nat → Prop) (a t : Nat) (k : Bool) (tk : Nat → Bool) (r : List Nat) : Prop := lh_pv h c a t k r ∧ r.Nodup ∧ ∀ x, x ∈ r → tk x = false
theorem lh_pf_step {h : Nat → Nat} {c : Nat → Prop} {i : Nat} {pa pt : Nat → Nat} {pk : Nat → Bool} {tk : Nat → Bool} {q : Nat → List Nat} {r : List Nat} (P : lh_pf h c i pa pt pk tk q) (R : lh_one h c (pa i) (pt i) (pk i) tk r) : lh_pf h c (i + 1) pa pt pk (lh_mk tk r) (lh_upQ q i r) := by
  have lo : ∀ j, j < i → lh_upQ q i r j = q j := fun j hj => if_neg (by omega)
  have hi : lh_upQ q i r i = r := if_pos rfl
  have no : ∀ j, j < i → ∀ x, x ∈ q j → x ∈ r → False := by
    intro j hj x x1 x2
    have a1 := (P.2 x).mpr ⟨j, hj, x1⟩
    rw [R.2.2 x x2] at a1
    exact absurd a1 (by decide)
  refine ⟨⟨?_, ?_, ?_, fun z => z.elim⟩, ?_⟩
  · intro j hj
    by_cases e : j = i
    · rw [e, hi]; exact R.1
    · rw [lo j (by omega)]; exact P.1.1 j (by omega)
  · intro j hj
    by_cases e : j = i
    · rw [e, hi]; exact R.2.1
    · rw [lo j (by omega)]; exact P.1.2.1 j (by omega)
  · intro j k hj hk x xj xk
    by_cases e : j = i
    · by_cases e' : k = i
      · rw [e, e']
      · rw [e, hi] at xj
        rw [lo k (by omega)] at xk
        exact (no k (by omega) x xk xj).elim
    · by_cases e' : k = i
      · rw [e', hi] at xk
        rw [lo j (by omega)] at xj
        exact (no j (by omega) x xj xk).elim
      · rw [lo j (by omega)] at xj
        rw [lo k (by omega)] at xk
        exact P.1.2.2.1 j k (by omega) (by omega) x xj xk
  · intro x
    have e1 : lh_mk tk r x = true ↔ (tk x = true ∨ x ∈ r) := by simp [lh_mk]
    rw [e1, P.2 x]
    constructor
    · intro z
      rcases z with ⟨j, hj, z⟩ | z
      · exact ⟨j, by omega, by rw [lo j hj]; exact z⟩
      · exact ⟨i, by omega, by rw [hi]; exact z⟩
    · intro ⟨j, hj, z⟩
      by_cases e : j = i
      · rw [e, hi] at z; exact Or.inr z
      · rw [lo j (by omega)] at z; exact Or.inl ⟨j, by omega, z⟩
theorem lh_pf_fail {h : Nat → Nat} {c : Nat → Prop} {i m : Nat} {pa pt : Nat → Nat} {pk : Nat → Bool} {wh : Prop} {tk : Nat → Bool} {q : Nat → List Nat} (P : lh_pf h c i pa pt pk tk q) (hi : i < m) (no : ¬ ∃ r, lh_one h c (pa i) (pt i) (pk i) tk r) : ¬ ∃ q', lh_fit h c m pa pt pk wh q' := by
  intro ⟨q', F⟩
  refine no ⟨q' i, F.1 i hi, F.2.1 i hi, ?_⟩
  intro x hx
  cases e : tk x with
  | false => rfl
  | true =>
    obtain ⟨j, hj, xj⟩ := (P.2 x).mp e
    rw [lh_pv_uniq (P.1.1 j hj) (F.1 j (by omega))] at xj
    exact absurd (F.2.2.1 j i (by omega) hi x xj hx) (by omega)
theorem lh_pf_end {h : Nat → Nat} {c : Nat → Prop} {m : Nat} {pa pt : Nat → Nat} {pk : Nat → Bool} {wh : Prop} {tk : Nat → Bool} {q : Nat → List Nat} (P : lh_pf h c m pa pt pk tk q) : (∃ q', lh_fit h c m pa pt pk wh q') ↔ (wh → ∀ g, h g ≠ 0 → tk g = true) := by
  constructor
  · intro ⟨q', F⟩ w g hg
    obtain ⟨j, hj, gj⟩ := F.2.2.2 w g hg
    exact (P.2 g).mpr ⟨j, hj, by rw [lh_pv_uniq (P.1.1 j hj) (F.1 j hj)]; exact gj⟩
  · intro H
    exact ⟨q, P.1.1, P.1.2.1, P.1.2.2.1, fun w g hg => (P.2 g).mp (H w g hg)⟩
/-- a list's way is what its part must find; a cell's is its place -/
theorem lh_one_list {h : Nat → Nat} {c : Nat → Prop} {a t : Nat} {tk : Nat → Bool} {r : List Nat} : lh_one h c a t true tk r ↔ lh_way h t a tk r :=
  ⟨fun R => ⟨R.1.1 rfl, R.2⟩, fun R => ⟨⟨fun _ => R.1, fun z => absurd z (by decide)⟩, R.2⟩⟩
theorem lh_one_cell {h : Nat → Nat} {c : Nat → Prop} {a t : Nat} {tk : Nat → Bool} {r : List Nat} : lh_one h c a t false tk r ↔ (r = [a] ∧ h a = t + 1 ∧ c a ∧ tk a = false) := by
  constructor
  · intro R
    obtain ⟨e, h1, h2⟩ := R.1.2 rfl
    exact ⟨e, h1, h2, R.2.2 a (by rw [e]; exact List.mem_cons_self)⟩
  · intro ⟨e, h1, h2, h3⟩
    refine ⟨⟨fun z => absurd z (by decide), fun _ => ⟨e, h1, h2⟩⟩, ?_, ?_⟩
    · rw [e]; exact List.nodup_cons.mpr ⟨List.not_mem_nil, List.nodup_nil⟩
    · intro x hx
      rw [e] at hx
      have ex : x = a := by simpa using hx
      rw [ex]; exact h3
end
section
/-! BUILDING a heap from parts: from pa i to pt i, a list (pk i) or a cell; a list from a place to itself has no cells -/
def lh_hp (h0 : Nat → Nat) (pa pt : Nat → Nat) (pk : Nat → Bool) : Nat → Nat → Nat
  | 0 => h0
  | i + 1 => if pk i = true ∧ pa i = pt i then lh_hp h0 pa pt pk i else lh_up (lh_hp h0 pa pt pk i) (pa i) (pt i + 1)
def lh_ep (e0 : Nat → Nat) (pa pt : Nat → Nat) (pk : Nat → Bool) : Nat → Nat → Nat
  | 0 => e0
  | i + 1 => if pk i = true ∧ pa i = pt i then lh_ep e0 pa pt pk i else lh_up (lh_ep e0 pa pt pk i) (pa i) (if pk i = true then pt i + 1 else 0)
/-- the parts ahead of m can be put, one behind another, on the heap h0 -/
def lh_oks (h0 : Nat → Nat) (nl : Nat) (pa pt : Nat → Nat) (pk : Nat → Bool) (m : Nat) : Prop :=
  ∀ i, i < m → ¬ (pk i = true ∧ pa i = pt i) → pa i ≠ nl ∧ lh_hp h0 pa pt pk i (pa i) = 0
section
variable {h0 e0 pa pt : Nat → Nat} {pk : Nat → Bool} {nl : Nat}
theorem lh_hp_e {i : Nat} (c : pk i = true ∧ pa i = pt i) : lh_hp h0 pa pt pk (i + 1) = lh_hp h0 pa pt pk i := by
  show (if pk i = true ∧ pa i = pt i then _ else _) = _
  rw [if_pos c]
theorem lh_hp_n {i : Nat} (c : ¬ (pk i = true ∧ pa i = pt i)) : lh_hp h0 pa pt pk (i + 1) = lh_up (lh_hp h0 pa pt pk i) (pa i) (pt i + 1) := by
  show (if pk i = true ∧ pa i = pt i then _ else _) = _
  rw [if_neg c]
theorem lh_ep_e {i : Nat} (c : pk i = true ∧ pa i = pt i) : lh_ep e0 pa pt pk (i + 1) = lh_ep e0 pa pt pk i := by
  show (if pk i = true ∧ pa i = pt i then _ else _) = _
  rw [if_pos c]
theorem lh_ep_n {i : Nat} (c : ¬ (pk i = true ∧ pa i = pt i)) : lh_ep e0 pa pt pk (i + 1) = lh_up (lh_ep e0 pa pt pk i) (pa i) (if pk i = true then pt i + 1 else 0) := by
  show (if pk i = true ∧ pa i = pt i then _ else _) = _
  rw [if_neg c]
theorem lh_hp_0 {n g : Nat} : lh_hp h0 pa pt pk n g = 0 ↔ h0 g = 0 ∧ ∀ i, i < n → ¬ (pk i = true ∧ pa i = pt i) → pa i ≠ g := by
  induction n with
  | zero => exact ⟨fun z => ⟨z, fun i hi => absurd hi (Nat.not_lt_zero i)⟩, fun z => z.1⟩
  | succ n ih =>
    by_cases c : pk n = true ∧ pa n = pt n
    · rw [lh_hp_e c, ih]
      constructor
      · intro ⟨a, b⟩
        refine ⟨a, fun i hi nc => ?_⟩
        by_cases e : i = n
        · rw [e] at nc; exact absurd c nc
        · exact b i (by omega) nc
      · intro ⟨a, b⟩
        exact ⟨a, fun i hi nc => b i (by omega) nc⟩
    · rw [lh_hp_n c]
      by_cases e : g = pa n
      · rw [e, lh_up_s]
        constructor
        · intro z; exact absurd z (Nat.succ_ne_zero _)
        · intro ⟨_, b⟩; exact absurd rfl (b n (by omega) c)
      · rw [lh_up_o e, ih]
        constructor
        · intro ⟨a, b⟩
          refine ⟨a, fun i hi nc => ?_⟩
          by_cases e' : i = n
          · rw [e']; exact Ne.symm e
          · exact b i (by omega) nc
        · intro ⟨a, b⟩
          exact ⟨a, fun i hi nc => b i (by omega) nc⟩
theorem lh_hp_ne {n g : Nat} : lh_hp (fun _ => 0) pa pt pk n g ≠ 0 ↔ ∃ i, i < n ∧ ¬ (pk i = true ∧ pa i = pt i) ∧ pa i = g := by
  constructor
  · intro z
    by_cases w : ∃ i, i < n ∧ ¬ (pk i = true ∧ pa i = pt i) ∧ pa i = g
    · exact w
    · exact (z (lh_hp_0.mpr ⟨rfl, fun i hi nc e => w ⟨i, hi, nc, e⟩⟩)).elim
  · intro ⟨i, hi, nc, e⟩ z
    exact (lh_hp_0.mp z).2 i hi nc e
/-- what a part has written stays -/
theorem lh_hp_at {n : Nat} (ok : lh_oks h0 nl pa pt pk n) {i : Nat} (hi : i < n) (nc : ¬ (pk i = true ∧ pa i = pt i)) : lh_hp h0 pa pt pk n (pa i) = pt i + 1 ∧ lh_ep e0 pa pt pk n (pa i) = (if pk i = true then pt i + 1 else 0) := by
  induction n with
  | zero => exact absurd hi (Nat.not_lt_zero i)
  | succ n ih =>
    have ok' : lh_oks h0 nl pa pt pk n := fun j hj => ok j (by omega)
    by_cases e : i = n
    · subst e
      rw [lh_hp_n nc, lh_ep_n nc, lh_up_s, lh_up_s]
      exact ⟨rfl, rfl⟩
    · have I := ih ok' (by omega)
      by_cases c : pk n = true ∧ pa n = pt n
      · rw [lh_hp_e c, lh_ep_e c]; exact I
      · have ne : pa i ≠ pa n := by
          intro z
          have b := (ok n (by omega) c).2
          rw [← z, I.1] at b
          exact absurd b (Nat.succ_ne_zero _)
        rw [lh_hp_n c, lh_ep_n c, lh_up_o ne, lh_up_o ne]; exact I
theorem lh_ep_0 {n g : Nat} (z : e0 g = 0) (w : ∀ i, i < n → pk i = true → pa i ≠ pt i → pa i ≠ g) : lh_ep e0 pa pt pk n g = 0 := by
  induction n with
  | zero => exact z
  | succ n ih =>
    have I := ih (fun i hi => w i (by omega))
    by_cases c : pk n = true ∧ pa n = pt n
    · rw [lh_ep_e c]; exact I
    · rw [lh_ep_n c]
      by_cases e : g = pa n
      · rw [e, lh_up_s]
        by_cases k : pk n = true
        · exact absurd e.symm (w n (by omega) k (fun q => c ⟨k, q⟩))
        · rw [if_neg k]
      · rw [lh_up_o e]; exact I
theorem lh_ep_ne {n g : Nat} (ok : lh_oks h0 nl pa pt pk n) : lh_ep (fun _ => 0) pa pt pk n g ≠ 0 ↔ ∃ i, i < n ∧ pk i = true ∧ pa i ≠ pt i ∧ pa i = g := by
  constructor
  · intro z
    by_cases w : ∃ i, i < n ∧ pk i = true ∧ pa i ≠ pt i ∧ pa i = g
    · exact w
    · exact (z (lh_ep_0 rfl (fun i hi a b e => w ⟨i, hi, a, b, e⟩))).elim
  · intro ⟨i, hi, a, b, e⟩ z
    have q := (lh_hp_at (e0 := fun _ => 0) ok hi (fun w => b w.2)).2
    rw [e, z, if_pos a] at q
    exact absurd q.symm (Nat.succ_ne_zero _)
theorem lh_ep_hp {n g : Nat} (ok : lh_oks h0 nl pa pt pk n) (z : lh_ep (fun _ => 0) pa pt pk n g ≠ 0) : lh_hp h0 pa pt pk n g = lh_ep (fun _ => 0) pa pt pk n g ∧ g ≠ nl := by
  obtain ⟨i, hi, a, b, e⟩ := (lh_ep_ne ok).mp z
  have q := lh_hp_at (e0 := fun _ => 0) ok hi (fun w => b w.2)
  rw [e, if_pos a] at q
  refine ⟨by rw [q.1, q.2], fun w => ?_⟩
  exact (ok i hi (fun w => b w.2)).1 (by rw [e]; exact w)
theorem lh_hp_nl {n : Nat} (ok : lh_oks h0 nl pa pt pk n) (z : h0 nl = 0) : lh_hp h0 pa pt pk n nl = 0 :=
  lh_hp_0.mpr ⟨z, fun i hi nc => (ok i hi nc).1⟩
theorem lh_hp_lt {n N : Nat} (hN : ∀ i, i < n → pa i < N) {g : Nat} (z : lh_hp (fun _ => 0) pa pt pk n g ≠ 0) : g < N := by
  obtain ⟨i, hi, _, e⟩ := lh_hp_ne.mp z
  rw [← e]; exact hN i hi
theorem lh_hp_le {n N : Nat} (hN : ∀ i, i < n → pt i < N) (h : ∀ g, h0 g ≤ N) (g : Nat) : lh_hp h0 pa pt pk n g ≤ N := by
  induction n with
  | zero => exact h g
  | succ n ih =>
    have I := ih (fun i hi => hN i (by omega))
    by_cases c : pk n = true ∧ pa n = pt n
    · rw [lh_hp_e c]; exact I
    · rw [lh_hp_n c]
      by_cases e : g = pa n
      · rw [e, lh_up_s]; exact hN n (by omega)
      · rw [lh_up_o e]; exact I
theorem lh_ep_le {n N : Nat} (hN : ∀ i, i < n → pt i < N) (h : ∀ g, e0 g ≤ N) (g : Nat) : lh_ep e0 pa pt pk n g ≤ N := by
  induction n with
  | zero => exact h g
  | succ n ih =>
    have I := ih (fun i hi => hN i (by omega))
    by_cases c : pk n = true ∧ pa n = pt n
    · rw [lh_ep_e c]; exact I
    · rw [lh_ep_n c]
      by_cases e : g = pa n
      · rw [e, lh_up_s]
        have q := hN n (by omega)
        by_cases k : pk n = true
        · rw [if_pos k]; exact q
        · rw [if_neg k]; omega
      · rw [lh_up_o e]; exact I
/-- on the heap h0, or on none: then their places have no cell in h0 -/
theorem lh_oks_on {n : Nat} : lh_oks h0 nl pa pt pk n ↔ lh_oks (fun _ => 0) nl pa pt pk n ∧ ∀ g, lh_hp (fun _ => 0) pa pt pk n g ≠ 0 → h0 g = 0 := by
  constructor
  · intro H
    refine ⟨fun i hi nc => ⟨(H i hi nc).1, lh_hp_0.mpr ⟨rfl, (lh_hp_0.mp (H i hi nc).2).2⟩⟩, fun g z => ?_⟩
    obtain ⟨i, hi, nc, e⟩ := lh_hp_ne.mp z
    rw [← e]
    exact (lh_hp_0.mp (H i hi nc).2).1
  · intro ⟨H, K⟩ i hi nc
    refine ⟨(H i hi nc).1, lh_hp_0.mpr ⟨K _ (lh_hp_ne.mpr ⟨i, hi, nc, rfl⟩), (lh_hp_0.mp (H i hi nc).2).2⟩⟩
end
/-! the way to t has no repetition -/
theorem lh_pth_mem {h : Nat → Nat} {t w : Nat} : ∀ (q : List Nat) (x : Nat), lh_pth h t x q → w ∈ q → ∃ r, lh_pth h t w r ∧ r.length ≤ q.length := by
  intro q
  induction q with
  | nil => intro x _ hw; exact absurd hw List.not_mem_nil
  | cons z zs ih =>
    intro x a hw
    obtain ⟨e, n, hx, a'⟩ := lh_pre_cons.mp a
    rcases List.mem_cons.mp hw with hw | hw
    · refine ⟨z :: zs, ?_, Nat.le_refl _⟩
      rw [hw, e]
      rw [e] at a
      exact a
    · obtain ⟨r, r1, r2⟩ := ih _ a' hw
      refine ⟨r, r1, ?_⟩
      rw [List.length_cons]; omega
theorem lh_pth_nodup {h : Nat → Nat} {t : Nat} : ∀ (q : List Nat) (x : Nat), lh_pth h t x q → q.Nodup := by
  intro q
  induction q with
  | nil => intro x _; exact List.nodup_nil
  | cons z zs ih =>
    intro x a
    obtain ⟨e, n, hx, a'⟩ := lh_pre_cons.mp a
    refine List.nodup_cons.mpr ⟨fun w => ?_, ih _ a'⟩
    obtain ⟨r, r1, r2⟩ := lh_pth_mem zs _ a' w
    rw [e] at r1 a
    have u := lh_pth_uniq a r1
    rw [← u, List.length_cons] at r2
    omega
/-- a list without repetition of numbers below N has at most N of them -/
theorem lh_fewN {q : List Nat} {N : Nat} (nd : q.Nodup) (hq : ∀ x, x ∈ q → x < N) : q.length ≤ N := by
  have s : q ⊆ List.range N := fun x hx => List.mem_range.mpr (hq x hx)
  have l := List.Nodup.length_le_of_subset nd s
  rw [List.length_range] at l
  exact l
/-- N steps from x, t not reached yet: there is no way to t -/
theorem lh_far {h : Nat → Nat} {t y x N : Nat} {q : List Nat} (hN : ∀ g, h g ≠ 0 → g < N) (B : lh_pre h t y x q) (l : N ≤ q.length) (yt : y ≠ t) : ¬ ∃ q', lh_pth h t x q' := by
  intro ⟨q', w⟩
  obtain ⟨r, e, c⟩ := lh_pre_split q x q' B w
  cases r with
  | nil => exact yt (lh_pre_nil.mp c)
  | cons z zs =>
    have k := lh_fewN (lh_pth_nodup q' x w) (fun g hg => hN g (lh_pre_cell q' x w g hg))
    rw [e, List.length_append, List.length_cons] at k
    omega
theorem lh_stop {h : Nat → Nat} {t y x : Nat} {q : List Nat} (B : lh_pre h t y x q) (yt : y ≠ t) (z : h y = 0) : ¬ ∃ q', lh_pth h t x q' := by
  intro ⟨q', w⟩
  obtain ⟨r, e, c⟩ := lh_pre_split q x q' B w
  cases r with
  | nil => exact yt (lh_pre_nil.mp c)
  | cons z' zs => exact (lh_pre_cons.mp c).2.2.1 z
end
section
/-! DIVISIONS: lists of six numbers, the group of each term -/
def lh_gf (l : List Nat) (a : Nat) : Nat := l.getD a 0
/-- how many groups the first k terms have -/
def lh_gof (l : List Nat) : Nat → Nat
  | 0 => 0
  | k + 1 => if lh_gof l k ≤ lh_gf l k then lh_gf l k + 1 else lh_gof l k
/-- the next division, looked for from term i down -/
def lh_ng : Nat → List Nat → List Nat
  | 0, l => l
  | i + 1, l => if lh_gf l (i + 1) < lh_gof l (i + 1) then l.set (i + 1) (lh_gf l (i + 1) + 1) else lh_ng i (l.set (i + 1) 0)
def lh_D : Nat → List Nat
  | 0 => [0, 0, 0, 0, 0, 0]
  | n + 1 => lh_ng 5 (lh_D n)
def lh_it : Nat → List Nat → List (List Nat)
  | 0, _ => []
  | k + 1, l => l :: lh_it k (lh_ng 5 l)
theorem lh_it_map : ∀ k s : Nat, lh_it k (lh_D s) = (List.range' s k).map lh_D := by
  intro k
  induction k with
  | zero => intro s; rfl
  | succ k ih =>
    intro s
    rw [List.range'_succ, List.map_cons]
    exact congrArg (lh_D s :: ·) (ih (s + 1))
def lh_LX : List (List Nat) := lh_it 203 [0, 0, 0, 0, 0, 0]
theorem lh_LX_eq : lh_LX = (List.range 203).map lh_D := by
  rw [List.range_eq_range']
  exact lh_it_map 203 0
/-! the other order: numbers of six digits below 6, the first term the fastest -/
def lh_pr : Nat → Nat → Nat → Bool
  | 0, _, _ => true
  | i + 1, r, ms => if r % 6 ≤ ms then lh_pr i (r / 6) (if ms ≤ r % 6 then r % 6 + 1 else ms) else false
def lh_cd : Nat → Nat → Nat
  | 0, _ => 0
  | k + 1, r => r % 6 + 8 * lh_cd k (r / 6)
def lh_LN : List Nat := [0, 6, 36, 42, 78, 216, 222, 252, 258, 294, 438, 468, 474, 510, 726, 1296, 1302, 1332, 1338, 1374,
  1512, 1518, 1548, 1554, 1590, 1734, 1764, 1770, 1806, 2022, 2598, 2628, 2634, 2670, 2808, 2814, 2844, 2850, 2886, 3030,
  3060, 3066, 3102, 3318, 3966, 4182, 4326, 4356, 4362, 4398, 4614, 5910, 7776, 7782, 7812, 7818, 7854, 7992, 7998, 8028,
  8034, 8070, 8214, 8244, 8250, 8286, 8502, 9072, 9078, 9108, 9114, 9150, 9288, 9294, 9324, 9330, 9366, 9510, 9540, 9546,
  9582, 9798, 10374, 10404, 10410, 10446, 10584, 10590, 10620, 10626, 10662, 10806, 10836, 10842, 10878, 11094, 11742, 11958, 12102, 12132,
  12138, 12174, 12390, 13686, 15558, 15588, 15594, 15630, 15768, 15774, 15804, 15810, 15846, 15990, 16020, 16026, 16062, 16278, 16848, 16854,
  16884, 16890, 16926, 17064, 17070, 17100, 17106, 17142, 17286, 17316, 17322, 17358, 17574, 18150, 18180, 18186, 18222, 18360, 18366, 18396,
  18402, 18438, 18582, 18612, 18618, 18654, 18870, 19518, 19734, 19878, 19908, 19914, 19950, 20166, 21462, 23406, 23622, 23766, 23796, 23802,
  23838, 24054, 24702, 24918, 25062, 25092, 25098, 25134, 25350, 25926, 25956, 25962, 25998, 26136, 26142, 26172, 26178, 26214, 26358, 26388,
  26394, 26430, 26646, 27294, 27510, 27654, 27684, 27690, 27726, 27942, 29238, 31830, 33126, 34422, 35070, 35286, 35430, 35460, 35466, 35502,
  35718, 37014, 44790]
set_option maxRecDepth 100000 in
theorem lh_LN_blk : (List.range 216).all (fun k => decide (lh_LN.filter (fun n => decide (n < 216 * k)) ++ (List.range' (216 * k) 216).filter (fun n => lh_pr 6 n 0) = lh_LN.filter (fun n => decide (n < 216 * k + 216)))) = true := by decide +kernel
theorem lh_LN_up : ∀ k : Nat, k ≤ 216 → (List.range (216 * k)).filter (fun n => lh_pr 6 n 0) = lh_LN.filter (fun n => decide (n < 216 * k)) := by
  intro k
  induction k with
  | zero =>
    intro _
    rw [Nat.mul_zero]
    exact (List.filter_eq_nil_iff.mpr (fun a _ => by simp)).symm
  | succ k ih =>
    intro hk
    have b := List.all_eq_true.mp lh_LN_blk k (List.mem_range.mpr (by omega))
    have b' := of_decide_eq_true b
    have e3 : 216 * (k + 1) = 216 * k + 216 := by omega
    have e : List.range (216 * k + 216) = List.range (216 * k) ++ List.range' (216 * k) 216 := by
      have q := List.range'_append_1 (s := 0) (m := 216 * k) (n := 216)
      rw [Nat.zero_add] at q
      rw [List.range_eq_range', List.range_eq_range', q]
    rw [e3, e, List.filter_append, ih (by omega)]
    exact b'
theorem lh_LN_all : lh_LN.filter (fun n => decide (n < 46656)) = lh_LN := by decide +kernel
theorem lh_LN_eq : (List.range 46656).filter (fun n => lh_pr 6 n 0) = lh_LN := (lh_LN_up 216 (Nat.le_refl _)).trans lh_LN_all
theorem lh_LN_len : lh_LN.length = 203 := by decide +kernel
/-- a number of six digits of three bits, as a division -/
def lh_un (c : Nat) : List Nat := [c % 8, c / 8 % 8, c / 64 % 8, c / 512 % 8, c / 4096 % 8, c / 32768 % 8]
theorem lh_un_gf (c a : Nat) (ha : a < 6) : lh_gf (lh_un c) a = c / 2 ^ (3 * a) % 8 := by
  match a, ha with
  | 0, _ => show c % 8 = c / 1 % 8; rw [Nat.div_one]
  | 1, _ => rfl
  | 2, _ => rfl
  | 3, _ => rfl
  | 4, _ => rfl
  | 5, _ => rfl
def lh_Ec (j : Nat) : Nat := lh_cd 6 (lh_LN.getD j 0)
def lh_E (j : Nat) : List Nat := lh_un (lh_Ec j)
/-- which place of the other order holds the n-th division -/
def lh_PI : List Nat := [0, 52, 15, 67, 118, 5, 57, 108, 20, 72, 123, 34, 86, 137, 173, 2, 54, 105, 17, 69, 120, 31, 83, 134, 170,
  7, 59, 110, 22, 74, 125, 36, 88, 139, 175, 11, 63, 114, 158, 26, 78, 129, 165, 40, 92, 143, 179, 47, 99, 150,
  186, 197, 1, 53, 104, 16, 68, 119, 30, 82, 133, 169, 6, 58, 109, 21, 73, 124, 35, 87, 138, 174, 10, 62, 113,
  157, 25, 77, 128, 164, 39, 91, 142, 178, 46, 98, 149, 185, 196, 3, 55, 106, 18, 70, 121, 32, 84, 135, 171, 8,
  60, 111, 23, 75, 126, 37, 89, 140, 176, 12, 64, 115, 159, 27, 79, 130, 166, 41, 93, 144, 180, 48, 100, 151, 187,
  198, 4, 56, 107, 155, 19, 71, 122, 162, 33, 85, 136, 172, 44, 96, 147, 183, 194, 9, 61, 112, 156, 24, 76, 127,
  163, 38, 90, 141, 177, 45, 97, 148, 184, 195, 13, 65, 116, 160, 28, 80, 131, 167, 42, 94, 145, 181, 49, 101, 152,
  188, 199, 14, 66, 117, 161, 191, 29, 81, 132, 168, 192, 43, 95, 146, 182, 193, 50, 102, 153, 189, 200, 51, 103, 154,
  190, 201, 202]
theorem lh_PI_perm : lh_PI.isPerm (List.range 203) = true := by decide +kernel
theorem lh_PI_map : lh_LX = lh_PI.map lh_E := by decide +kernel
theorem lh_perm : List.Perm ((List.range 203).map lh_D) ((List.range 203).map lh_E) := by
  rw [← lh_LX_eq, lh_PI_map]
  exact (List.isPerm_iff.mp lh_PI_perm).map lh_E
/-- what is so of all divisions in one order is so in the other -/
theorem lh_all {P : List Nat → Prop} : (∀ n, n < 203 → P (lh_D n)) ↔ ∀ n, n < 203 → P (lh_E n) := by
  constructor
  · intro H n hn
    have m : lh_E n ∈ (List.range 203).map lh_D := lh_perm.mem_iff.mpr (List.mem_map.mpr ⟨n, List.mem_range.mpr hn, rfl⟩)
    obtain ⟨k, hk, e⟩ := List.mem_map.mp m
    rw [← e]; exact H k (List.mem_range.mp hk)
  · intro H n hn
    have m : lh_D n ∈ (List.range 203).map lh_E := lh_perm.mem_iff.mp (List.mem_map.mpr ⟨n, List.mem_range.mpr hn, rfl⟩)
    obtain ⟨k, hk, e⟩ := List.mem_map.mp m
    rw [← e]; exact H k (List.mem_range.mp hk)
/-- how many of the first n -/
def lh_ct (G : Nat → List Nat) (p : List Nat → Bool) (n : Nat) : Nat := ((List.range n).map G).countP p
theorem lh_ct_0 {G : Nat → List Nat} {p : List Nat → Bool} : lh_ct G p 0 = 0 := rfl
theorem lh_ct_s {G : Nat → List Nat} {p : List Nat → Bool} {n : Nat} : lh_ct G p (n + 1) = lh_ct G p n + (if p (G n) = true then 1 else 0) := by
  unfold lh_ct
  rw [List.range_succ, List.map_append, List.countP_append, List.map_cons, List.map_nil, List.countP_singleton]
theorem lh_ct_le {G : Nat → List Nat} {p : List Nat → Bool} {n : Nat} : lh_ct G p n ≤ n := by
  have h := List.countP_le_length (p := p) (l := (List.range n).map G)
  rw [List.length_map, List.length_range] at h
  exact h
theorem lh_ct_eq {p : List Nat → Bool} : lh_ct lh_D p 203 = lh_ct lh_E p 203 := lh_perm.countP_eq p
/-- a well-formed division: six groups, each below 6; the groups that there are come first -/
def lh_wf (l : List Nat) : Prop := l.length = 6 ∧ (∀ a, lh_gf l a < 6) ∧ ∀ g, g < 6 → (g < lh_gof l 6 ↔ ∃ a, a < 6 ∧ lh_gf l a = g)
def lh_wfb (l : List Nat) : Bool := decide (l.length = 6) && l.all (fun x => decide (x < 6)) && (List.range 6).all (fun g => decide (g < lh_gof l 6) == (List.range 6).any (fun a => decide (lh_gf l a = g)))
theorem lh_wf_of {l : List Nat} (h : lh_wfb l = true) : lh_wf l := by
  unfold lh_wfb at h
  rw [Bool.and_eq_true, Bool.and_eq_true] at h
  obtain ⟨⟨h1, h2⟩, h3⟩ := h
  have l6 : l.length = 6 := of_decide_eq_true h1
  refine ⟨l6, fun a => ?_, fun g hg => ?_⟩
  · unfold lh_gf
    rw [List.getD_eq_getElem?_getD]
    by_cases c : a < l.length
    · rw [List.getElem?_eq_getElem c]
      exact of_decide_eq_true (List.all_eq_true.mp h2 _ (List.getElem_mem c))
    · rw [List.getElem?_eq_none (by omega)]
      decide
  · have q := List.all_eq_true.mp h3 g (List.mem_range.mpr hg)
    have q' : decide (g < lh_gof l 6) = (List.range 6).any (fun a => decide (lh_gf l a = g)) := by simpa using q
    constructor
    · intro z
      rw [decide_eq_true z] at q'
      obtain ⟨a, a1, a2⟩ := List.any_eq_true.mp q'.symm
      exact ⟨a, List.mem_range.mp a1, of_decide_eq_true a2⟩
    · intro ⟨a, a1, a2⟩
      have w : (List.range 6).any (fun a => decide (lh_gf l a = g)) = true := List.any_eq_true.mpr ⟨a, List.mem_range.mpr a1, decide_eq_true a2⟩
      rw [w] at q'
      exact of_decide_eq_true q'
theorem lh_LX_wf : lh_LX.all lh_wfb = true := by decide +kernel
theorem lh_D_wf {n : Nat} (hn : n < 203) : lh_wf (lh_D n) := by
  have h := lh_LX_wf
  rw [lh_LX_eq] at h
  exact lh_wf_of (List.all_eq_true.mp h _ (List.mem_map.mpr ⟨n, List.mem_range.mpr hn, rfl⟩))
theorem lh_E_wf : ∀ n, n < 203 → lh_wf (lh_E n) := lh_all.mp (fun _ hn => lh_D_wf hn)
theorem lh_gof_le {l : List Nat} (h : ∀ a, lh_gf l a < 6) : ∀ k, lh_gof l k ≤ 6 := by
  intro k
  induction k with
  | zero => exact Nat.zero_le _
  | succ k ih =>
    have a := h k
    show (if lh_gof l k ≤ lh_gf l k then lh_gf l k + 1 else lh_gof l k) ≤ 6
    by_cases c : lh_gof l k ≤ lh_gf l k
    · rw [if_pos c]; omega
    · rw [if_neg c]; exact ih
theorem lh_gf_set {l : List Nat} {k v j : Nat} (hk : k < l.length) : lh_gf (l.set k v) j = if j = k then v else lh_gf l j := by
  unfold lh_gf
  rw [List.getD_eq_getElem?_getD, List.getD_eq_getElem?_getD, List.getElem?_set]
  by_cases e : j = k
  · rw [if_pos e, if_pos e.symm, if_pos hk]; rfl
  · rw [if_neg e, if_neg (Ne.symm e)]
theorem lh_ng_len : ∀ (i : Nat) (l : List Nat), (lh_ng i l).length = l.length := by
  intro i
  induction i with
  | zero => intro l; rfl
  | succ i ih =>
    intro l
    show (if lh_gf l (i + 1) < lh_gof l (i + 1) then l.set (i + 1) (lh_gf l (i + 1) + 1) else lh_ng i (l.set (i + 1) 0)).length = l.length
    by_cases c : lh_gf l (i + 1) < lh_gof l (i + 1)
    · rw [if_pos c, List.length_set]
    · rw [if_neg c, ih, List.length_set]
theorem lh_D_len : ∀ n, (lh_D n).length = 6 := by
  intro n
  induction n with
  | zero => rfl
  | succ n ih => exact (lh_ng_len 5 (lh_D n)).trans ih
/-! the least and the greatest number of cells: none while no division has been good -/
def lh_mn (B : List Nat → Prop) (c : List Nat → Nat) (G : Nat → List Nat) (n : Nat) : Option Nat → Prop
  | none => ∀ i, i < n → ¬ B (G i)
  | some m => (∃ i, i < n ∧ B (G i) ∧ c (G i) = m) ∧ ∀ i, i < n → B (G i) → m ≤ c (G i)
def lh_mx (B : List Nat → Prop) (c : List Nat → Nat) (G : Nat → List Nat) (n : Nat) : Option Nat → Prop
  | none => ∀ i, i < n → ¬ B (G i)
  | some m => (∃ i, i < n ∧ B (G i) ∧ c (G i) = m) ∧ ∀ i, i < n → B (G i) → c (G i) ≤ m
theorem lh_any {P : List Nat → Prop} : (∃ n, n < 203 ∧ P (lh_D n)) ↔ ∃ n, n < 203 ∧ P (lh_E n) := by
  constructor
  · intro ⟨n, hn, p⟩
    by_cases w : ∃ n, n < 203 ∧ P (lh_E n)
    · exact w
    · exact absurd p ((lh_all (P := fun l => ¬ P l)).mpr (fun k hk pk => w ⟨k, hk, pk⟩) n hn)
  · intro ⟨n, hn, p⟩
    by_cases w : ∃ n, n < 203 ∧ P (lh_D n)
    · exact w
    · exact absurd p ((lh_all (P := fun l => ¬ P l)).mp (fun k hk pk => w ⟨k, hk, pk⟩) n hn)
theorem lh_mn_DE {B : List Nat → Prop} {c : List Nat → Nat} : ∀ o, lh_mn B c lh_D 203 o ↔ lh_mn B c lh_E 203 o := by
  intro o
  cases o with
  | none => exact lh_all (P := fun l => ¬ B l)
  | some m => exact and_congr (lh_any (P := fun l => B l ∧ c l = m)) (lh_all (P := fun l => B l → m ≤ c l))
theorem lh_mx_DE {B : List Nat → Prop} {c : List Nat → Nat} : ∀ o, lh_mx B c lh_D 203 o ↔ lh_mx B c lh_E 203 o := by
  intro o
  cases o with
  | none => exact lh_all (P := fun l => ¬ B l)
  | some m => exact and_congr (lh_any (P := fun l => B l ∧ c l = m)) (lh_all (P := fun l => B l → c l ≤ m))
theorem lh_mn_u {B : List Nat → Prop} {c : List Nat → Nat} {G : Nat → List Nat} {n : Nat} {o o' : Option Nat} (a : lh_mn B c G n o) (b : lh_mn B c G n o') : o = o' := by
  cases o with
  | none =>
    cases o' with
    | none => rfl
    | some m => obtain ⟨⟨i, hi, bi, _⟩, _⟩ := b; exact absurd bi (a i hi)
  | some m =>
    obtain ⟨⟨i, hi, bi, ci⟩, am⟩ := a
    cases o' with
    | none => exact absurd bi (b i hi)
    | some m' =>
      obtain ⟨⟨j, hj, bj, cj⟩, bm⟩ := b
      have x := am j hj bj
      have y := bm i hi bi
      exact congrArg some (by omega)
theorem lh_mx_u {B : List Nat → Prop} {c : List Nat → Nat} {G : Nat → List Nat} {n : Nat} {o o' : Option Nat} (a : lh_mx B c G n o) (b : lh_mx B c G n o') : o = o' := by
  cases o with
  | none =>
    cases o' with
    | none => rfl
    | some m => obtain ⟨⟨i, hi, bi, _⟩, _⟩ := b; exact absurd bi (a i hi)
  | some m =>
    obtain ⟨⟨i, hi, bi, ci⟩, am⟩ := a
    cases o' with
    | none => exact absurd bi (b i hi)
    | some m' =>
      obtain ⟨⟨j, hj, bj, cj⟩, bm⟩ := b
      have x := am j hj bj
      have y := bm i hi bi
      exact congrArg some (by omega)
theorem lh_lt_s {n i : Nat} (h : i < n + 1) : i < n ∨ i = n := by omega
theorem lh_mn_no {B : List Nat → Prop} {c : List Nat → Nat} {G : Nat → List Nat} {n : Nat} {o : Option Nat} (a : lh_mn B c G n o) (nb : ¬ B (G n)) : lh_mn B c G (n + 1) o := by
  cases o with
  | none =>
    intro i hi
    rcases lh_lt_s hi with h | h
    · exact a i h
    · rw [h]; exact nb
  | some m =>
    obtain ⟨⟨i, hi, bi, ci⟩, am⟩ := a
    refine ⟨⟨i, by omega, bi, ci⟩, fun j hj bj => ?_⟩
    rcases lh_lt_s hj with h | h
    · exact am j h bj
    · rw [h] at bj; exact absurd bj nb
theorem lh_mn_new {B : List Nat → Prop} {c : List Nat → Nat} {G : Nat → List Nat} {n : Nat} {o : Option Nat} (a : lh_mn B c G n o) (b : B (G n)) (lt : ∀ m, o = some m → c (G n) < m) : lh_mn B c G (n + 1) (some (c (G n))) := by
  refine ⟨⟨n, by omega, b, rfl⟩, fun j hj bj => ?_⟩
  rcases lh_lt_s hj with h | h
  · cases o with
    | none => exact absurd bj (a j h)
    | some m =>
      have x := lt m rfl
      have y := a.2 j h bj
      omega
  · rw [h]; exact Nat.le_refl _
theorem lh_mn_old {B : List Nat → Prop} {c : List Nat → Nat} {G : Nat → List Nat} {n m : Nat} (a : lh_mn B c G n (some m)) (le : m ≤ c (G n)) : lh_mn B c G (n + 1) (some m) := by
  obtain ⟨⟨i, hi, bi, ci⟩, am⟩ := a
  refine ⟨⟨i, by omega, bi, ci⟩, fun j hj bj => ?_⟩
  rcases lh_lt_s hj with h | h
  · exact am j h bj
  · rw [h]; exact le
theorem lh_mx_no {B : List Nat → Prop} {c : List Nat → Nat} {G : Nat → List Nat} {n : Nat} {o : Option Nat} (a : lh_mx B c G n o) (nb : ¬ B (G n)) : lh_mx B c G (n + 1) o := by
  cases o with
  | none =>
    intro i hi
    rcases lh_lt_s hi with h | h
    · exact a i h
    · rw [h]; exact nb
  | some m =>
    obtain ⟨⟨i, hi, bi, ci⟩, am⟩ := a
    refine ⟨⟨i, by omega, bi, ci⟩, fun j hj bj => ?_⟩
    rcases lh_lt_s hj with h | h
    · exact am j h bj
    · rw [h] at bj; exact absurd bj nb
theorem lh_mx_new {B : List Nat → Prop} {c : List Nat → Nat} {G : Nat → List Nat} {n : Nat} {o : Option Nat} (a : lh_mx B c G n o) (b : B (G n)) (lt : ∀ m, o = some m → m < c (G n)) : lh_mx B c G (n + 1) (some (c (G n))) := by
  refine ⟨⟨n, by omega, b, rfl⟩, fun j hj bj => ?_⟩
  rcases lh_lt_s hj with h | h
  · cases o with
    | none => exact absurd bj (a j h)
    | some m =>
      have x := lt m rfl
      have y := a.2 j h bj
      omega
  · rw [h]; exact Nat.le_refl _
theorem lh_mx_old {B : List Nat → Prop} {c : List Nat → Nat} {G : Nat → List Nat} {n m : Nat} (a : lh_mx B c G n (some m)) (le : c (G n) ≤ m) : lh_mx B c G (n + 1) (some m) := by
  obtain ⟨⟨i, hi, bi, ci⟩, am⟩ := a
  refine ⟨⟨i, by omega, bi, ci⟩, fun j hj bj => ?_⟩
  rcases lh_lt_s hj with h | h
  · exact am j h bj
  · rw [h]; exact le
end
section
theorem lh_A_up {N : Nat} {a : Nat → Int32} {f : Nat → Nat} (h : lh_A N a f) (k v : Nat) : lh_A N (upd a k (nI v)) (lh_up f k v) := by
  intro i hi
  by_cases e : i = k
  · rw [e, pk_us, lh_up_s]
  · rw [pk_un e, lh_up_o e]; exact h i hi
theorem lh_Ah_up {N : Nat} {a : Nat → Int32} {f : Nat → Nat} (h : lh_Ah N a f) (k v : Nat) : lh_Ah N (upd a k (lh_hv v)) (lh_up f k v) := by
  intro i hi
  by_cases e : i = k
  · rw [e, pk_us, lh_up_s]
  · rw [pk_un e, lh_up_o e]; exact h i hi
theorem lh_Ab_up {N : Nat} {a : Nat → Int32} {f : Nat → Bool} (h : lh_Ab N a f) (k : Nat) (v : Bool) : lh_Ab N (upd a k (lh_bI v)) (lh_upB f k v) := by
  intro i hi
  unfold lh_upB
  by_cases e : i = k
  · rw [e, pk_us, if_pos rfl]
  · rw [pk_un e, if_neg e]; exact h i hi
theorem lh_up_exact {f : Nat → Nat} (k v : Nat) : upd (fun i => nI (f i)) k (nI v) = fun i => nI (lh_up f k v i) := by
  funext i
  by_cases e : i = k
  · rw [e, pk_us, lh_up_s]
  · rw [pk_un e, lh_up_o e]
/-! THE CLAIMS: C the conditions, W the parts (36 if other or list, + 6 a + b), nc and np how many -/
def lh_pa (W : Nat → Nat) (s : Nat) (l : List Nat) (i : Nat) : Nat := lh_gf l (W (6 * s + i) % 36 / 6)
def lh_pt (W : Nat → Nat) (s : Nat) (l : List Nat) (i : Nat) : Nat := lh_gf l (W (6 * s + i) % 6)
def lh_pk (W : Nat → Nat) (s : Nat) (i : Nat) : Bool := decide (36 ≤ W (6 * s + i))
def lh_cok (C : Nat → Nat) (s : Nat) (l : List Nat) (i : Nat) : Prop := lh_gf l (C (8 * s + i) % 36 / 6) = lh_gf l (C (8 * s + i) % 6) ↔ C (8 * s + i) < 36
def lh_ch (C nc : Nat → Nat) (s : Nat) (l : List Nat) : Prop := ∀ i, i < nc s → lh_cok C s l i
def lh_ok (W np : Nat → Nat) (s : Nat) (l : List Nat) : Prop := lh_oks (fun _ => 0) (lh_gf l 5) (lh_pa W s l) (lh_pt W s l) (lh_pk W s) (np s)
def lh_B (C W nc np : Nat → Nat) (s : Nat) (l : List Nat) : Prop := lh_ch C nc s l ∧ lh_ok W np s l
def lh_H (W np : Nat → Nat) (s : Nat) (l : List Nat) : Nat → Nat := lh_hp (fun _ => 0) (lh_pa W s l) (lh_pt W s l) (lh_pk W s) (np s)
def lh_Q (W np : Nat → Nat) (s : Nat) (l : List Nat) : Nat → Nat := lh_ep (fun _ => 0) (lh_pa W s l) (lh_pt W s l) (lh_pk W s) (np s)
section
variable {C W nc np : Nat → Nat} {s : Nat} {l : List Nat}
theorem lh_pa_lt (w : lh_wf l) (i : Nat) : lh_pa W s l i < 6 := w.2.1 _
theorem lh_pt_lt (w : lh_wf l) (i : Nat) : lh_pt W s l i < 6 := w.2.1 _
theorem lh_H_lt (w : lh_wf l) {g : Nat} (z : lh_H W np s l g ≠ 0) : g < 6 := lh_hp_lt (fun i _ => lh_pa_lt w i) z
theorem lh_H_6 (w : lh_wf l) : lh_H W np s l 6 = 0 := by
  by_cases z : lh_H W np s l 6 = 0
  · exact z
  · exact absurd (lh_H_lt w z) (by decide)
theorem lh_H_le (w : lh_wf l) (g : Nat) : lh_H W np s l g ≤ 6 := lh_hp_le (fun i _ => lh_pt_lt w i) (fun _ => Nat.zero_le _) g
theorem lh_Q_le (w : lh_wf l) (g : Nat) : lh_Q W np s l g ≤ 6 := lh_ep_le (fun i _ => lh_pt_lt w i) (fun _ => Nat.zero_le _) g
theorem lh_H_nl (ok : lh_ok W np s l) : lh_H W np s l (lh_gf l 5) = 0 := lh_hp_nl ok rfl
theorem lh_Q_ne (ok : lh_ok W np s l) {g : Nat} : lh_Q W np s l g ≠ 0 ↔ ∃ i, i < np s ∧ lh_pk W s i = true ∧ lh_pa W s l i ≠ lh_pt W s l i ∧ lh_pa W s l i = g := lh_ep_ne ok
theorem lh_Q_H (ok : lh_ok W np s l) {g : Nat} (z : lh_Q W np s l g ≠ 0) : lh_H W np s l g = lh_Q W np s l g ∧ g ≠ lh_gf l 5 := lh_ep_hp ok z
theorem lh_H_at (ok : lh_ok W np s l) {i : Nat} (hi : i < np s) (k : lh_pk W s i = true) (n : lh_pa W s l i ≠ lh_pt W s l i) : lh_H W np s l (lh_pa W s l i) = lh_pt W s l i + 1 ∧ lh_Q W np s l (lh_pa W s l i) = lh_pt W s l i + 1 := by
  have q := lh_hp_at (e0 := fun _ => 0) ok hi (fun w => n w.2)
  rw [if_pos k] at q
  exact q
/-! the cells of a heap ahead of n -/
def lh_cl (h : Nat → Nat) : Nat → Nat
  | 0 => 0
  | g + 1 => if h g = 0 then lh_cl h g else lh_cl h g + 1
theorem lh_cl_le {h : Nat → Nat} : ∀ n, lh_cl h n ≤ n := by
  intro n
  induction n with
  | zero => exact Nat.le_refl _
  | succ n ih =>
    show (if h n = 0 then lh_cl h n else lh_cl h n + 1) ≤ n + 1
    by_cases c : h n = 0
    · rw [if_pos c]; omega
    · rw [if_neg c]; omega
theorem lh_cl_7 {h : Nat → Nat} (z : h 6 = 0) : lh_cl h 7 = lh_cl h 6 := by
  show (if h 6 = 0 then lh_cl h 6 else lh_cl h 6 + 1) = lh_cl h 6
  rw [if_pos z]
/-! the places with cells, as bits -/
def lh_src (h : Nat → Nat) : Nat → Nat
  | 0 => 0
  | g + 1 => if h g = 0 then lh_src h g else lh_src h g ||| 2 ^ g
theorem lh_src_bit {h : Nat → Nat} : ∀ n g, (lh_src h n).testBit g = true ↔ g < n ∧ h g ≠ 0 := by
  intro n
  induction n with
  | zero =>
    intro g
    show Nat.testBit 0 g = true ↔ _
    rw [Nat.zero_testBit]
    exact ⟨fun z => absurd z (by decide), fun z => absurd z.1 (Nat.not_lt_zero g)⟩
  | succ n ih =>
    intro g
    show (if h n = 0 then lh_src h n else lh_src h n ||| 2 ^ n).testBit g = true ↔ _
    by_cases c : h n = 0
    · rw [if_pos c, ih]
      constructor
      · intro z; exact ⟨by omega, z.2⟩
      · intro z
        refine ⟨?_, z.2⟩
        by_cases e : g = n
        · rw [e] at z; exact absurd c z.2
        · omega
    · rw [if_neg c, Nat.testBit_or, Bool.or_eq_true, ih, Nat.testBit_two_pow, decide_eq_true_eq]
      constructor
      · intro z
        rcases z with z | z
        · exact ⟨by omega, z.2⟩
        · rw [← z]; exact ⟨by omega, c⟩
      · intro z
        by_cases e : n = g
        · exact Or.inr e
        · exact Or.inl ⟨by omega, z.2⟩
theorem lh_src_lt {h : Nat → Nat} : ∀ n, lh_src h n < 2 ^ n := by
  intro n
  induction n with
  | zero => exact Nat.one_pos
  | succ n ih =>
    have e : 2 ^ (n + 1) = 2 ^ n * 2 := Nat.pow_succ ..
    show (if h n = 0 then lh_src h n else lh_src h n ||| 2 ^ n) < 2 ^ (n + 1)
    by_cases c : h n = 0
    · rw [if_pos c]; omega
    · rw [if_neg c]
      exact Nat.or_lt_two_pow (by omega) (Nat.pow_lt_pow_right (by decide) (by omega))
theorem lh_src_and {h h' : Nat → Nat} {n : Nat} : lh_src h n &&& lh_src h' n = 0 ↔ ∀ g, g < n → h g ≠ 0 → h' g = 0 := by
  constructor
  · intro z g hg a
    by_cases b : h' g = 0
    · exact b
    · have t : (lh_src h n &&& lh_src h' n).testBit g = true := by
        rw [Nat.testBit_and, (lh_src_bit n g).mpr ⟨hg, a⟩, (lh_src_bit n g).mpr ⟨hg, b⟩]; rfl
      rw [z, Nat.zero_testBit] at t
      exact absurd t (by decide)
  · intro H
    apply Nat.eq_of_testBit_eq
    intro g
    rw [Nat.zero_testBit, Nat.testBit_and]
    cases a : (lh_src h n).testBit g with
    | false => rfl
    | true =>
      cases b : (lh_src h' n).testBit g with
      | false => rfl
      | true =>
        have x := (lh_src_bit n g).mp a
        exact absurd (H g x.1 x.2) ((lh_src_bit n g).mp b).2
end
/-! FOLLOWS and CONTAINS in one division -/
def lh_any6 (e : Nat → Nat) : Prop := ∃ g, g < 6 ∧ e g ≠ 0
def lh_fl (anyL : Bool) (gr nl : Nat) (h : Nat → Nat) (n : Nat) : List Nat := (List.range n).filter (fun g => anyL && (decide (g < gr) && (decide (g ≠ nl) && decide (h g = 0))))
theorem lh_fl_mem {anyL : Bool} {gr nl : Nat} {h : Nat → Nat} {n f : Nat} : f ∈ lh_fl anyL gr nl h n ↔ f < n ∧ anyL = true ∧ f < gr ∧ f ≠ nl ∧ h f = 0 := by
  unfold lh_fl
  rw [List.mem_filter, List.mem_range]
  simp
theorem lh_fl_nd {anyL : Bool} {gr nl : Nat} {h : Nat → Nat} {n : Nat} : (lh_fl anyL gr nl h n).Nodup := List.Nodup.sublist List.filter_sublist List.nodup_range
theorem lh_fl_len {anyL : Bool} {gr nl : Nat} {h : Nat → Nat} {n : Nat} : (lh_fl anyL gr nl h n).length ≤ n := by
  have q := List.length_filter_le (fun g => anyL && (decide (g < gr) && (decide (g ≠ nl) && decide (h g = 0)))) (List.range n)
  rw [List.length_range] at q
  exact q
theorem lh_fl_s {anyL : Bool} {gr nl : Nat} {h : Nat → Nat} {n : Nat} : lh_fl anyL gr nl h (n + 1) = lh_fl anyL gr nl h n ++ (if anyL = true ∧ n < gr ∧ n ≠ nl ∧ h n = 0 then [n] else []) := by
  unfold lh_fl
  rw [List.range_succ, List.filter_append]
  congr 1
  by_cases c : anyL = true ∧ n < gr ∧ n ≠ nl ∧ h n = 0
  · rw [if_pos c]
    apply List.filter_eq_self.mpr
    intro a ha
    have e : a = n := by simpa using ha
    rw [e]
    simp [c.1, c.2.1, c.2.2.1, c.2.2.2]
  · rw [if_neg c]
    apply List.filter_eq_nil_iff.mpr
    intro a ha
    have e : a = n := by simpa using ha
    rw [e]
    intro z
    apply c
    simpa using z
theorem lh_heartK {h e : Nat → Nat} {m : Nat} {pa pt : Nat → Nat} {pk : Nat → Bool} {wh K : Prop} {nl : Nat} {Fl : List Nat}
    (he : ∀ x, e x ≠ 0 → h x = e x ∧ x < 6 ∧ x ≠ nl) (hn : nl < 6) (h6 : h 6 = 0) (hF : ∀ f, f ∈ Fl → h f = 0) (nd : Fl.Nodup) (ht : ∀ j, j < m → pt j < 6) :
    (∀ ds : List Nat, ds.length = Fl.length → (∀ d, d ∈ ds → d < 6) → ∀ h' e', lh_run nl (ds.zip Fl) h e = some (h', e') → K ∧ ∃ q, lh_fit h' (fun x => e' x = 0) m pa pt pk wh q) ↔
    ((K ∧ ∃ q, lh_fit h (fun _ => True) m pa pt pk wh q) ∧ ∀ s f, e s ≠ 0 → (f = 6 ∨ f ∈ Fl) → e s ≠ f + 1 → K ∧ ∃ q, lh_fit (lh_ins h s f) (fun _ => True) m pa pt pk wh q) := by
  by_cases k : K
  · have H := lh_heart (wh := wh) (pa := pa) (pk := pk) he hn h6 hF nd ht
    constructor
    · intro X
      have Y := H.mp (fun ds a b h' e' c => (X ds a b h' e' c).2)
      exact ⟨⟨k, Y.1⟩, fun s f a b c => ⟨k, Y.2 s f a b c⟩⟩
    · intro Y ds a b h' e' c
      exact ⟨k, H.mpr ⟨Y.1.2, fun s f a b c => (Y.2 s f a b c).2⟩ ds a b h' e' c⟩
  · constructor
    · intro X
      exact absurd (X (List.replicate Fl.length nl) (by simp) (fun d hd => by rw [List.eq_of_mem_replicate hd]; exact hn) h e (lh_run_nl _ (lh_rep Fl))).1 k
    · intro Y
      exact absurd Y.1.1 k
/-- the component: every run below 6 ^ free fits -/
def lh_XF (C W nc np : Nat → Nat) (wh : Prop) (l : List Nat) (Fl : List Nat) : Prop :=
  ∀ r, r < 6 ^ Fl.length → ∀ h' e', lh_run (lh_gf l 5) ((lh_dig r Fl.length).zip Fl) (lh_H W np 0 l) (lh_Q W np 0 l) = some (h', e') → lh_ch C nc 1 l ∧ ∃ q, lh_fit h' (fun x => e' x = 0) (np 1) (lh_pa W 1 l) (lh_pt W 1 l) (lh_pk W 1) wh q
def lh_yf (C W nc np : Nat → Nat) (wh : Prop) (l : List Nat) (h : Nat → Nat) : Prop := lh_ch C nc 1 l ∧ ∃ q, lh_fit h (fun _ => True) (np 1) (lh_pa W 1 l) (lh_pt W 1 l) (lh_pk W 1) wh q
/-- the reference: the plain heap, and each list with one place more -/
def lh_YF (C W nc np : Nat → Nat) (wh : Prop) (l : List Nat) : Prop :=
  lh_yf C W nc np wh l (lh_H W np 0 l) ∧ ∀ i, i < np 0 → lh_pk W 0 i = true → lh_pa W 0 l i ≠ lh_pt W 0 l i → ∀ f, f < 7 → (f = 6 ∨ ∃ a, a < 6 ∧ lh_gf l a = f) → f ≠ lh_gf l 5 → f ≠ lh_pt W 0 l i → lh_H W np 0 l f = 0 → lh_yf C W nc np wh l (lh_ins (lh_H W np 0 l) (lh_pa W 0 l i) f)
theorem lh_FF {C W nc np : Nat → Nat} {wh : Prop} {l : List Nat} {anyL : Bool} (w : lh_wf l) (ok : lh_ok W np 0 l) (ha : anyL = true ↔ lh_any6 (lh_Q W np 0 l)) :
    lh_XF C W nc np wh l (lh_fl anyL (lh_gof l 6) (lh_gf l 5) (lh_H W np 0 l) 6) ↔ lh_YF C W nc np wh l := by
  have he : ∀ x, lh_Q W np 0 l x ≠ 0 → lh_H W np 0 l x = lh_Q W np 0 l x ∧ x < 6 ∧ x ≠ lh_gf l 5 := by
    intro x hx
    have q := lh_Q_H ok hx
    exact ⟨q.1, lh_H_lt w (by rw [q.1]; exact hx), q.2⟩
  have HK := lh_heartK (K := lh_ch C nc 1 l) (wh := wh) (m := np 1) (pa := lh_pa W 1 l) (pt := lh_pt W 1 l) (pk := lh_pk W 1) (Fl := lh_fl anyL (lh_gof l 6) (lh_gf l 5) (lh_H W np 0 l) 6) he (w.2.1 5) (lh_H_6 w) (fun f hf => (lh_fl_mem.mp hf).2.2.2.2) lh_fl_nd (fun j _ => lh_pt_lt w j)
  constructor
  · intro X
    have Y := HK.mp (fun ds a b h' e' c => by
      obtain ⟨r, r1, r2⟩ := lh_dig_all _ ds a b
      rw [← r2] at c
      exact X r r1 h' e' c)
    refine ⟨Y.1, fun i hi k n f hf hf' fn ft f0 => ?_⟩
    have q := lh_H_at ok hi k n
    refine Y.2 (lh_pa W 0 l i) f (by rw [q.2]; exact Nat.succ_ne_zero _) ?_ (by rw [q.2]; omega)
    rcases hf' with h6 | hg
    · exact Or.inl h6
    · refine Or.inr (lh_fl_mem.mpr ?_)
      obtain ⟨a, a1, a2⟩ := hg
      have f6 : f < 6 := by rw [← a2]; exact w.2.1 a
      refine ⟨f6, ha.mpr ⟨lh_pa W 0 l i, lh_pa_lt w i, by rw [q.2]; exact Nat.succ_ne_zero _⟩, (w.2.2 f f6).mpr ⟨a, a1, a2⟩, fn, f0⟩
  · intro Y r r1 h' e' c
    refine HK.mpr ⟨Y.1, fun s f es hf ef => ?_⟩ _ (lh_dig_len _ r) (fun d hd => lh_dig_lt _ r d hd) h' e' c
    obtain ⟨i, hi, k, n, e⟩ := (lh_Q_ne ok).mp es
    have q := lh_H_at ok hi k n
    have nl6 := w.2.1 5
    have t6 : lh_pt W 0 l i < 6 := lh_pt_lt w i
    rw [← e, q.2] at ef
    rw [← e]
    rcases hf with h6 | hg
    · subst h6
      exact Y.2 i hi k n 6 (by decide) (Or.inl rfl) (by omega) (by omega) (lh_H_6 w)
    · have m := lh_fl_mem.mp hg
      exact Y.2 i hi k n f (by omega) (Or.inr ((w.2.2 f m.1).mp m.2.2.1)) m.2.2.2.1 (by omega) m.2.2.2.2
end
section
/-! the reference's table: the codes of the proper numbers, in their order -/
def lh_F (n : Nat) : List Nat := (List.range n).filter (fun n => lh_pr 6 n 0)
theorem lh_F_t {n : Nat} (h : lh_pr 6 n 0 = true) : lh_F (n + 1) = lh_F n ++ [n] := by
  unfold lh_F
  rw [List.range_succ, List.filter_append]
  congr 1
  apply List.filter_eq_self.mpr
  intro a ha
  have e : a = n := by simpa using ha
  rw [e]; exact h
theorem lh_F_f {n : Nat} (h : lh_pr 6 n 0 = false) : lh_F (n + 1) = lh_F n := by
  unfold lh_F
  rw [List.range_succ, List.filter_append]
  have q : List.filter (fun n => lh_pr 6 n 0) [n] = [] := by
    apply List.filter_eq_nil_iff.mpr
    intro a ha
    have e : a = n := by simpa using ha
    rw [e, h]; decide
  rw [q, List.append_nil]
theorem lh_F_len {n : Nat} (h : n ≤ 46656) : (lh_F n).length ≤ 203 := by
  have s : List.Sublist (lh_F n) ((List.range 46656).filter (fun n => lh_pr 6 n 0)) := List.Sublist.filter _ (List.range_sublist.mpr h)
  rw [lh_LN_eq] at s
  have l := s.length_le
  rw [lh_LN_len] at l
  exact l
theorem lh_F_lt {n : Nat} (h : n < 46656) (p : lh_pr 6 n 0 = true) : (lh_F n).length < 203 := by
  have l := lh_F_len (n := n + 1) h
  rw [lh_F_t p, List.length_append] at l
  exact l
def lh_AD (a : Nat → Int32) (L : List Nat) : Prop := ∀ j, j < L.length → a j = nI (lh_cd 6 (L.getD j 0))
theorem lh_AD_snoc {a : Nat → Int32} {L : List Nat} {n : Nat} (h : lh_AD a L) : lh_AD (upd a L.length (nI (lh_cd 6 n))) (L ++ [n]) := by
  intro j hj
  rw [List.length_append, List.length_cons, List.length_nil] at hj
  by_cases e : j = L.length
  · rw [e, pk_us, List.getD_eq_getElem?_getD, List.getElem?_append_right (Nat.le_refl _), Nat.sub_self]
    rfl
  · have l : j < L.length := by omega
    rw [pk_un e, h j l, List.getD_eq_getElem?_getD, List.getD_eq_getElem?_getD, List.getElem?_append_left l]
theorem lh_AD_end {a : Nat → Int32} (h : lh_AD a (lh_F 46656)) : ∀ j, j < 203 → a j = nI (lh_Ec j) := by
  intro j hj
  have e : lh_F 46656 = lh_LN := lh_LN_eq
  rw [e] at h
  exact h j (by rw [lh_LN_len]; exact hj)
/-! its inner steps -/
theorem lh_sh3 : ∀ i, i < 6 → ((nI (3 * i) &&& 31).toBitVec.smod 32).toNat = 3 * i := by decide +kernel
theorem lh_p3 : ∀ i, i < 6 → 2 ^ (3 * i) * 8 = 2 ^ (3 * (i + 1)) ∧ 2 ^ (3 * i) ≤ 32768 := by decide +kernel
theorem lh_cdo {c g i : Nat} (hi : i < 6) (hg : g < 6) (hc : c < 2 ^ (3 * i)) : nI c ||| (nI g <<< (nI (3 * i) &&& 31)) = nI (c + 2 ^ (3 * i) * g) := by
  have p := lh_p3 i hi
  have m : g * 2 ^ (3 * i) < 2 ^ 32 := Nat.lt_of_le_of_lt (Nat.mul_le_mul (Nat.le_of_lt hg) p.2) (by decide)
  rw [pk_shlN _ (3 * i) (lh_sh3 i hi) m, lh_or]
  congr 1
  have q := Nat.two_pow_add_eq_or_of_lt hc g
  rw [Nat.or_comm, Nat.mul_comm g, ← q, Nat.add_comm]
/-- after i digits: the code so far c, what is left of the number r, the groups so far ms, whether proper p -/
def lh_in (n i c r ms : Nat) (p : Bool) : Prop := i ≤ 6 ∧ c < 2 ^ (3 * i) ∧ r ≤ n ∧ ms ≤ 6 ∧ c + 2 ^ (3 * i) * lh_cd (6 - i) r = lh_cd 6 n ∧ (p && lh_pr (6 - i) r ms) = lh_pr 6 n 0
theorem lh_in_0 (n : Nat) : lh_in n 0 0 n 0 true := by
  refine ⟨by decide, by decide, Nat.le_refl _, by decide, ?_, ?_⟩
  · show 0 + 1 * lh_cd 6 n = lh_cd 6 n
    omega
  · rfl
theorem lh_in_s {n i c r ms : Nat} {p : Bool} (hi : i < 6) (h : lh_in n i c r ms p) : lh_in n (i + 1) (c + 2 ^ (3 * i) * (r % 6)) (r / 6) (if ms ≤ r % 6 then r % 6 + 1 else ms) (p && decide (r % 6 ≤ ms)) := by
  obtain ⟨_, h2, h3, h4, h5, h6⟩ := h
  have q := (lh_p3 i hi).1
  have m6 : r % 6 < 6 := Nat.mod_lt _ (by decide)
  have e : 6 - i = (6 - (i + 1)) + 1 := by omega
  rw [e] at h5 h6
  refine ⟨by omega, ?_, ?_, ?_, ?_, ?_⟩
  · rw [← q]
    generalize 2 ^ (3 * i) = z at *
    have : z * (r % 6) ≤ z * 5 := Nat.mul_le_mul (Nat.le_refl _) (by omega)
    omega
  · have := Nat.div_le_self r 6
    omega
  · by_cases k : ms ≤ r % 6
    · rw [if_pos k]; omega
    · rw [if_neg k]; exact h4
  · rw [← h5, ← q]
    show _ = c + 2 ^ (3 * i) * (r % 6 + 8 * lh_cd (6 - (i + 1)) (r / 6))
    rw [Nat.mul_add, Nat.mul_assoc, Nat.add_assoc]
  · rw [← h6]
    show _ = (p && (if r % 6 ≤ ms then lh_pr (6 - (i + 1)) (r / 6) (if ms ≤ r % 6 then r % 6 + 1 else ms) else false))
    by_cases k : r % 6 ≤ ms
    · rw [if_pos k, decide_eq_true k, Bool.and_true]
    · rw [if_neg k, decide_eq_false k, Bool.and_false, Bool.false_and]
theorem lh_in_6 {n c r ms : Nat} {p : Bool} (h : lh_in n 6 c r ms p) : c = lh_cd 6 n ∧ p = lh_pr 6 n 0 := by
  obtain ⟨_, _, _, _, h5, h6⟩ := h
  constructor
  · rw [← h5]
    show c = c + 2 ^ 18 * 0
    rw [Nat.mul_zero, Nat.add_zero]
  · rw [← h6]
    show p = (p && true)
    rw [Bool.and_true]
/-! a group of a code -/
theorem lh_Ec_lt : ∀ j, j < 203 → lh_Ec j < 2 ^ 18 := by decide +kernel
theorem lh_sh7 {c a : Nat} (ha : a < 6) (hc : c < 2 ^ 18) : (nI c >>> (nI (3 * a) &&& 31)) &&& 7 = nI (lh_gf (lh_un c) a) := by
  rw [lh_un_gf c a ha, pk_shrN (by omega) _ (3 * a) (lh_sh3 a ha), pk_andN (by have := Nat.div_le_self c (2 ^ (3 * a)); omega) 3 (by decide)]
end
section
/-! small helps: exact arrays, exchanges, bounds of arguments -/
theorem lh_up_ex {F : Nat → Nat} {f : Nat → Nat} (k v : Nat) {x : Int32} (e : x = nI (F v)) : upd (fun i => nI (F (f i))) k x = fun i => nI (F (lh_up f k v i)) := by
  rw [e]
  funext i
  by_cases c : i = k
  · rw [c, pk_us, lh_up_s]
  · rw [pk_un c, lh_up_o c]
def lh_sw (K : Nat) (f : Nat → Nat) (i j : Nat) : Nat := if j < i then f (K + j) else if K ≤ j ∧ j < K + i then f (j - K) else f j
theorem lh_sw_lo {K i j : Nat} {f : Nat → Nat} (h : j < i) : lh_sw K f i j = f (K + j) := if_pos h
theorem lh_sw_hi {K i j : Nat} {f : Nat → Nat} (h : ¬ j < i) (h2 : K ≤ j ∧ j < K + i) : lh_sw K f i j = f (j - K) := by
  unfold lh_sw; rw [if_neg h, if_pos h2]
theorem lh_sw_o {K i j : Nat} {f : Nat → Nat} (h : ¬ j < i) (h2 : ¬ (K ≤ j ∧ j < K + i)) : lh_sw K f i j = f j := by
  unfold lh_sw; rw [if_neg h, if_neg h2]
theorem lh_sw_0 {K : Nat} {f : Nat → Nat} : lh_sw K f 0 = f := by
  funext j
  exact lh_sw_o (Nat.not_lt_zero j) (by omega)
theorem lh_sw_s {K i : Nat} {F f : Nat → Nat} (hi : i < K) : upd (upd (fun j => nI (F (lh_sw K f i j))) i (nI (F (lh_sw K f i (K + i))))) (K + i) (nI (F (lh_sw K f i i))) = fun j => nI (F (lh_sw K f (i + 1) j)) := by
  funext j
  by_cases e1 : j = K + i
  · rw [e1, pk_us, lh_sw_o (by omega) (by omega), lh_sw_hi (i := i + 1) (by omega) (by omega), Nat.add_sub_cancel_left]
  · rw [pk_un e1]
    by_cases e2 : j = i
    · rw [e2, pk_us, lh_sw_o (by omega) (by omega), lh_sw_lo (i := i + 1) (by omega)]
    · rw [pk_un e2]
      by_cases c1 : j < i
      · rw [lh_sw_lo c1, lh_sw_lo (i := i + 1) (by omega)]
      · by_cases c2 : K ≤ j ∧ j < K + i
        · rw [lh_sw_hi c1 c2, lh_sw_hi (i := i + 1) (by omega) (by omega)]
        · rw [lh_sw_o c1 c2, lh_sw_o (i := i + 1) (by omega) (by omega)]
theorem lh_sw_lt {K i b : Nat} {f : Nat → Nat} (h : ∀ j, f j ≤ b) (j : Nat) : lh_sw K f i j ≤ b := by
  unfold lh_sw
  by_cases c1 : j < i
  · rw [if_pos c1]; exact h _
  · rw [if_neg c1]
    by_cases c2 : K ≤ j ∧ j < K + i
    · rw [if_pos c2]; exact h _
    · rw [if_neg c2]; exact h _
theorem lh_up_lt {b k v : Nat} {f : Nat → Nat} (h : ∀ j, f j ≤ b) (hv : v ≤ b) (j : Nat) : lh_up f k v j ≤ b := by
  by_cases c : j = k
  · rw [c, lh_up_s]; exact hv
  · rw [lh_up_o c]; exact h j
/-- an argument is one of the first n numbers, or below 0, or at least n -/
theorem lh_arg (x : Int32) {n : Nat} (hn : n < 2 ^ 31) : (∃ j : Nat, j < n ∧ x = nI j) ∨ x < 0 ∨ (¬ x < 0 ∧ ¬ x < nI n) := by
  by_cases h : x < 0
  · exact Or.inr (Or.inl h)
  · obtain ⟨j, hj, rfl⟩ := nI_of h
    by_cases h2 : j < n
    · exact Or.inl ⟨j, h2, rfl⟩
    · exact Or.inr (Or.inr ⟨h, nI_nlt (by omega) hj⟩)
theorem lh_rd {f : Nat → Int32} {k : Nat} (h : k < 2 ^ 31) : f (nI k).toNatClampNeg = f k := by rw [nI_clamp h]
noncomputable def lh_Bb (P : List Nat → Prop) (l : List Nat) : Bool := @decide (P l) (Classical.propDecidable _)
theorem lh_Bb_t {P : List Nat → Prop} {l : List Nat} : lh_Bb P l = true ↔ P l :=
  ⟨fun h => @of_decide_eq_true _ (Classical.propDecidable _) h, fun h => @decide_eq_true _ (Classical.propDecidable _) h⟩
theorem lh_ct_t {G : Nat → List Nat} {P : List Nat → Prop} {n : Nat} (h : P (G n)) : lh_ct G (lh_Bb P) (n + 1) = lh_ct G (lh_Bb P) n + 1 := by
  rw [lh_ct_s, if_pos (lh_Bb_t.mpr h)]
theorem lh_ct_f {G : Nat → List Nat} {P : List Nat → Prop} {n : Nat} (h : ¬ P (G n)) : lh_ct G (lh_Bb P) (n + 1) = lh_ct G (lh_Bb P) n := by
  rw [lh_ct_s, if_neg (fun z => h (lh_Bb_t.mp z)), Nat.add_zero]
theorem lh_ct_pos {G : Nat → List Nat} {P : List Nat → Prop} : ∀ n, 0 < lh_ct G (lh_Bb P) n ↔ ∃ i, i < n ∧ P (G i) := by
  intro n
  induction n with
  | zero => exact ⟨fun z => absurd z (Nat.lt_irrefl 0), fun ⟨i, z, _⟩ => absurd z (Nat.not_lt_zero i)⟩
  | succ n ih =>
    by_cases c : P (G n)
    · rw [lh_ct_t c]
      exact ⟨fun _ => ⟨n, by omega, c⟩, fun _ => by omega⟩
    · rw [lh_ct_f c, ih]
      constructor
      · intro ⟨i, a, b⟩; exact ⟨i, by omega, b⟩
      · intro ⟨i, a, b⟩
        rcases lh_lt_s a with z | z
        · exact ⟨i, z, b⟩
        · rw [z] at b; exact absurd b c
end
section
/-! RUNS against arrays -/
def lh_bd (N : Nat) (h : Nat → Nat) : Prop := (∀ x, h x ≠ 0 → x < N) ∧ ∀ x, h x ≤ N
theorem lh_bd_ins {h : Nat → Nat} {b f : Nat} {N : Nat} (H : lh_bd N h) (hb : b < N) (hf : f < N) : lh_bd N (lh_ins h b f) := by
  constructor
  · intro x hx
    by_cases e : x = f
    · rw [e]; exact hf
    · by_cases e2 : x = b
      · rw [e2]; exact hb
      · rw [lh_ins_o e e2] at hx; exact H.1 x hx
  · intro x
    by_cases e : x = f
    · rw [e, lh_ins_f]; exact H.2 b
    · by_cases e2 : x = b
      · rw [e2, lh_ins_b (by rw [← e2]; exact e)]; exact hf
      · rw [lh_ins_o e e2]; exact H.2 x
theorem lh_Ah_ins {a : Nat → Int32} {h : Nat → Nat} {b f N : Nat} (H : lh_Ah N a h) (hb : b < N) (n : b ≠ f) : lh_Ah N (upd (upd a f (a b)) b (nI f)) (lh_ins h b f) := by
  intro i hi
  by_cases e : i = b
  · rw [e, pk_us, lh_ins_b n]; rfl
  · rw [pk_un e]
    by_cases e2 : i = f
    · rw [e2, pk_us, lh_ins_f]; exact H b hb
    · rw [pk_un e2, lh_ins_o e2 e]; exact H i hi
theorem lh_Ah_cp {a : Nat → Int32} {h : Nat → Nat} {b f N : Nat} (H : lh_Ah N a h) (hb : b < N) : lh_Ah N (upd a f (a b)) (lh_up h f (h b)) := by
  intro i hi
  by_cases e : i = f
  · rw [e, pk_us, lh_up_s]; exact H b hb
  · rw [pk_un e, lh_up_o e]; exact H i hi
theorem lh_up_le {h : Nat → Nat} {k v N : Nat} (H : ∀ x, h x ≤ N) (hv : v ≤ N) : ∀ x, lh_up h k v x ≤ N := fun x => by
  by_cases e : x = k
  · rw [e, lh_up_s]; exact hv
  · rw [lh_up_o e]; exact H x
theorem lh_drop {Fl : List Nat} {i : Nat} (hi : i < Fl.length) : Fl.drop i = Fl.getD i 0 :: Fl.drop (i + 1) := by
  rw [List.drop_eq_getElem_cons hi, List.getD_eq_getElem?_getD, List.getElem?_eq_getElem hi]
  rfl
theorem lh_run_step {nl r i m : Nat} {Fl : List Nat} {h e : Nat → Nat} (hi : i < Fl.length) :
    lh_run nl ((lh_dig r (m + 1)).zip (Fl.drop i)) h e = if r % 6 = nl then lh_run nl ((lh_dig (r / 6) m).zip (Fl.drop (i + 1))) h e else if e (r % 6) = 0 ∨ e (r % 6) = Fl.getD i 0 + 1 then none else lh_run nl ((lh_dig (r / 6) m).zip (Fl.drop (i + 1))) (lh_ins h (r % 6) (Fl.getD i 0)) (lh_up e (Fl.getD i 0) (e (r % 6))) := by
  rw [lh_drop hi]
  show lh_run nl ((r % 6, Fl.getD i 0) :: (lh_dig (r / 6) m).zip (Fl.drop (i + 1))) h e = _
  rw [lh_run_c]
/-- the free groups from i on: below 6, without an end, no two alike -/
def lh_fr (Fl : List Nat) (i : Nat) (e : Nat → Nat) : Prop := (∀ x, x ∈ Fl → x < 6) ∧ Fl.Nodup ∧ ∀ x, x ∈ Fl.drop i → e x = 0
theorem lh_fr_s {Fl : List Nat} {i : Nat} {e : Nat → Nat} (hi : i < Fl.length) (H : lh_fr Fl i e) : lh_fr Fl (i + 1) e ∧ Fl.getD i 0 < 6 ∧ e (Fl.getD i 0) = 0 ∧ ∀ v, lh_fr Fl (i + 1) (lh_up e (Fl.getD i 0) v) := by
  obtain ⟨a, b, c⟩ := H
  have d := lh_drop hi
  have m : Fl.getD i 0 ∈ Fl.drop i := by rw [d]; exact List.mem_cons_self
  have s : ∀ x, x ∈ Fl.drop (i + 1) → x ∈ Fl.drop i := fun x hx => by rw [d]; exact List.mem_cons_of_mem _ hx
  have nd : (Fl.drop i).Nodup := List.Nodup.sublist (List.drop_sublist i Fl) b
  rw [d] at nd
  have nn := (List.nodup_cons.mp nd).1
  refine ⟨⟨a, b, fun x hx => c x (s x hx)⟩, a _ (List.mem_of_mem_drop m), c _ m, fun v => ⟨a, b, fun x hx => ?_⟩⟩
  rw [lh_up_o (fun z => nn (by rw [← z]; exact hx))]
  exact c x (s x hx)
/-! one step of a list's way -/
theorem lh_one_empty {h : Nat → Nat} {c : Nat → Prop} {a : Nat} {tk : Nat → Bool} : lh_one h c a a true tk [] :=
  lh_one_list.mpr ⟨lh_pre_nil.mpr rfl, List.nodup_nil, fun _ z => absurd z List.not_mem_nil⟩
theorem lh_beg_len {h : Nat → Nat} {t y a N : Nat} {tk : Nat → Bool} {q : List Nat} (B : lh_beg h t y a tk q) (hN : ∀ x, h x ≠ 0 → x < N) : q.length ≤ N :=
  lh_fewN B.2.1 (fun x hx => hN x (lh_pre_cell q a B.1 x hx))
theorem lh_beg_far {h : Nat → Nat} {t y a N : Nat} {tk : Nat → Bool} {q : List Nat} (B : lh_beg h t y a tk q) (hN : ∀ x, h x ≠ 0 → x < N) (l : N ≤ q.length) (yt : y ≠ t) : ¬ ∃ q', lh_way h t a tk q' :=
  fun ⟨q', w⟩ => lh_far hN B.1 l yt ⟨q', w.1⟩
theorem lh_no_one {h : Nat → Nat} {c : Nat → Prop} {a t : Nat} {tk : Nat → Bool} (H : ¬ ∃ q', lh_way h t a tk q') : ¬ ∃ r, lh_one h c a t true tk r :=
  fun ⟨r, w⟩ => H ⟨r, lh_one_list.mp w⟩
end
section
/-! THE COMPONENT: its small methods -/
def lh_St (C W nc np : Nat → Nat) (cc ck cl cr pc pk pf pt : Nat → Int32) : Prop :=
  ((∀ i, cc i = nI (nc i)) ∧ (∀ i, ck i = nI (C i / 36)) ∧ (∀ i, cl i = nI (C i % 36 / 6)) ∧ (∀ i, cr i = nI (C i % 6))) ∧ ((∀ i, pc i = nI (np i)) ∧ (∀ i, pk i = nI (W i / 36)) ∧ (∀ i, pf i = nI (W i % 36 / 6)) ∧ (∀ i, pt i = nI (W i % 6))) ∧ (∀ i, C i ≤ 71) ∧ (∀ i, W i ≤ 71) ∧ (∀ s, nc s ≤ 8) ∧ (∀ s, np s ≤ 6)
theorem lh_rdS {a : Nat → Int32} {F : Nat → Nat} (h : ∀ i, a i = nI (F i)) {k : Nat} (hk : k < 2 ^ 31) : a (nI k).toNatClampNeg = nI (F k) := by
  rw [nI_clamp hk]; exact h k
theorem lh_rdA {N : Nat} {a : Nat → Int32} {f : Nat → Nat} (h : lh_A N a f) {k : Nat} (hk : k < N) (hN : N < 2 ^ 31) : a (nI k).toNatClampNeg = nI (f k) := by
  rw [nI_clamp (by omega)]; exact h k hk
theorem lh_rdH {N : Nat} {a : Nat → Int32} {f : Nat → Nat} (h : lh_Ah N a f) {k : Nat} (hk : k < N) (hN : N < 2 ^ 31) : a (nI k).toNatClampNeg = lh_hv (f k) := by
  rw [nI_clamp (by omega)]; exact h k hk
theorem lh_rdB {N : Nat} {a : Nat → Int32} {f : Nat → Bool} (h : lh_Ab N a f) {k : Nat} (hk : k < N) (hN : N < 2 ^ 31) : a (nI k).toNatClampNeg = lh_bI (f k) := by
  rw [nI_clamp (by omega)]; exact h k hk
theorem lh_A_s {i : Nat} {a : Nat → Int32} {f : Nat → Nat} (h : lh_A i a f) : lh_A (i + 1) (upd a i (nI (f i))) f := by
  intro j hj
  by_cases e : j = i
  · rw [e, pk_us]
  · rw [pk_un e]; exact h j (by omega)
theorem lh_Ah_s {i : Nat} {a : Nat → Int32} {f : Nat → Nat} (h : lh_Ah i a f) : lh_Ah (i + 1) (upd a i (lh_hv (f i))) f := by
  intro j hj
  by_cases e : j = i
  · rw [e, pk_us]
  · rw [pk_un e]; exact h j (by omega)
theorem lh_Ab_s {i : Nat} {a : Nat → Int32} {f : Nat → Bool} (h : lh_Ab i a f) : lh_Ab (i + 1) (upd a i (lh_bI (f i))) f := by
  intro j hj
  by_cases e : j = i
  · rw [e, pk_us]
  · rw [pk_un e]; exact h j (by omega)
theorem lh_A_set {l : List Nat} {g : Nat → Int32} {k v : Nat} (h : lh_A 6 g (lh_gf l)) (hl : l.length = 6) (hk : k < 6) : lh_A 6 (upd g k (nI v)) (lh_gf (l.set k v)) := by
  intro i hi
  rw [lh_gf_set (by omega)]
  by_cases e : i = k
  · rw [if_pos e, e, pk_us]
  · rw [if_neg e, pk_un e]; exact h i hi
theorem lh_gf_set_lt {l : List Nat} {k v : Nat} (h : ∀ a, lh_gf l a < 6) (hk : k < l.length) (hv : v < 6) : ∀ a, lh_gf (l.set k v) a < 6 := by
  intro a
  rw [lh_gf_set hk]
  by_cases e : a = k
  · rw [if_pos e]; exact hv
  · rw [if_neg e]; exact h a
theorem lh_nar0 : vp_nar .boolean 0 = lh_bI false := by decide
theorem lh_nar1 : vp_nar .boolean 1 = lh_bI true := by decide
theorem lh_01 {r : Int32} (h : r = 0 ∨ r = 1) : narrow .boolean (.int r) = .int r := by
  rcases h with h | h
  · rw [h]; rfl
  · rw [h]; rfl
section
variable {fc : Int32} {cc ck cl cr pc pk pf pt g nx en pn pe fr tk : Nat → Int32} {C W nc np : Nat → Nat} {l : List Nat}
theorem lh_x_claim {post : Int32 → Prop} {x : Int32} (H1 : ∀ s, s < 2 → x = nI s → post 1) (H0 : (¬ ∃ s, s < 2 ∧ x = nI s) → post 0) : wpX_isClaim post x := by
  unfold wpX_isClaim
  rcases lh_arg x (n := 2) (by decide) with ⟨s, hs, e⟩ | h | ⟨h, h2⟩
  · subst e
    exact br_f (nI_pos (by omega)) (br_f (nI_ge (b := 2) hs (by decide)) (H1 s hs rfl))
  · refine br_t h (H0 ?_)
    intro ⟨s, hs, e⟩
    rw [e] at h
    exact nI_pos (by omega) h
  · refine br_f h (br_t (Int32.not_lt.mp h2) (H0 ?_))
    intro ⟨s, hs, e⟩
    rw [e] at h2
    exact h2 (nI_lt hs (by decide))
theorem lh_x_term {post : Int32 → Prop} {x : Int32} (H1 : ∀ s, s < 6 → x = nI s → post 1) (H0 : (¬ ∃ s, s < 6 ∧ x = nI s) → post 0) : wpX_isTerm post x := by
  unfold wpX_isTerm
  rcases lh_arg x (n := 6) (by decide) with ⟨s, hs, e⟩ | h | ⟨h, h2⟩
  · subst e
    exact br_f (nI_pos (by omega)) (br_f (nI_ge (b := 6) hs (by decide)) (H1 s hs rfl))
  · refine br_t h (H0 ?_)
    intro ⟨s, hs, e⟩
    rw [e] at h
    exact nI_pos (by omega) h
  · refine br_f h (br_t (Int32.not_lt.mp h2) (H0 ?_))
    intro ⟨s, hs, e⟩
    rw [e] at h2
    exact h2 (nI_lt hs (by decide))
theorem lh_x_first2 {post : SX → Prop} (H : ∀ g, lh_A 6 g (fun _ => 0) → post (fc, cc, ck, cl, cr, pc, pk, pf, pt, g, nx, en, pn, pe, fr, tk)) : ∀ (n i : Nat) (g : Nat → Int32), 6 < n + i → i ≤ 6 → lh_A i g (fun _ => 0) → wX_firstDivision_2 post fc n (nI i) cc ck cl cr pc pk pf pt g nx en pn pe fr tk := by
  intro n
  induction n with
  | zero => intro i g h1 h2; omega
  | succ n ih =>
    intro i g h1 h2 I
    rw [wX_firstDivision_2]
    refine pk_le 6 i (fun h => H g ?_) (fun h => ⟨pk_in i 6 h, nm_r (e' := upd g i (nI 0)) ?_ (nm_r (nI_1 i) (ih (i + 1) _ (by omega) (by omega) (lh_A_s I)))⟩)
    · have e : i = 6 := by omega
      rw [e] at I; exact I
    · rw [nI_clamp (by omega)]; rfl
theorem lh_D0 (a : Nat) : lh_gf (lh_D 0) a = 0 := by
  match a with
  | 0 => rfl
  | 1 => rfl
  | 2 => rfl
  | 3 => rfl
  | 4 => rfl
  | 5 => rfl
  | a + 6 => rfl
theorem lh_x_first {post : SX → Prop} (H : ∀ g, lh_A 6 g (lh_gf (lh_D 0)) → post (fc, cc, ck, cl, cr, pc, pk, pf, pt, g, nx, en, pn, pe, fr, tk)) : wpX_firstDivision post (fc, cc, ck, cl, cr, pc, pk, pf, pt, g, nx, en, pn, pe, fr, tk) :=
  Exists.intro 7 (lh_x_first2 (fun g hg => H g (fun i hi => by rw [lh_D0]; exact hg i hi)) 7 0 g (by omega) (by omega) (fun i hi => absurd hi (Nat.not_lt_zero i)))
theorem lh_x_gof4 {post : Int32 → Prop} {k : Nat} (hk : k ≤ 6) (hg : lh_A 6 g (lh_gf l)) (hl : ∀ a, lh_gf l a < 6) (H : post (nI (lh_gof l k))) : ∀ (n i : Nat), k < n + i → i ≤ k → wX_groupsOfFirst_4 post (nI k) fc cc ck cl cr pc pk pf pt g nx en pn pe fr tk n (nI (lh_gof l i)) (nI i) := by
  intro n
  induction n with
  | zero => intro i h1 h2; omega
  | succ n ih =>
    intro i h1 h2
    have b := lh_gof_le hl i
    rw [wX_groupsOfFirst_4]
    refine pk_le k i (fun h => ?_) (fun h => pk_le 6 i (fun h' => absurd h' (by omega)) (fun h' => ⟨pk_in i 6 h', ?_⟩))
    · have e : i = k := by omega
      rw [e]; exact H
    · have e : g (nI i).toNatClampNeg = nI (lh_gf l i) := lh_rdA hg (by omega) (by decide)
      have lt := hl i
      by_cases c : lh_gof l i ≤ lh_gf l i
      · have s : lh_gof l (i + 1) = lh_gf l i + 1 := if_pos c
        refine br_f ?_ ⟨pk_in i 6 h', nm_r (e' := nI (lh_gof l (i + 1))) ?_ (nm_r (nI_1 i) (ih (i + 1) (by omega) (by omega)))⟩
        · rw [e]; exact nI_nlt c (by omega)
        · rw [e, nI_1, s]
      · have s : lh_gof l (i + 1) = lh_gof l i := if_neg c
        refine br_t ?_ (nm_r (nI_1 i) ?_)
        · rw [e]; exact nI_lt (by omega) (by omega)
        · have w := ih (i + 1) (by omega) (by omega)
          rw [s] at w; exact w
theorem lh_x_gof {post : Int32 → Prop} {k : Nat} (hk : k ≤ 6) (hg : lh_A 6 g (lh_gf l)) (hl : ∀ a, lh_gf l a < 6) (H : post (nI (lh_gof l k))) : wpX_groupsOfFirst post (fc, cc, ck, cl, cr, pc, pk, pf, pt, g, nx, en, pn, pe, fr, tk) (nI k) :=
  Exists.intro (k + 1) (lh_x_gof4 hk hg hl H (k + 1) 0 (by omega) (by omega))
theorem lh_x_next2 {post : SX → Prop} : ∀ (n i : Nat) (l : List Nat) (g : Nat → Int32), i < n → i ≤ 5 → l.length = 6 → (∀ a, lh_gf l a < 6) → lh_A 6 g (lh_gf l) → (∀ g, lh_A 6 g (lh_gf (lh_ng i l)) → post (fc, cc, ck, cl, cr, pc, pk, pf, pt, g, nx, en, pn, pe, fr, tk)) → wX_nextDivision_2 post fc n (nI i) cc ck cl cr pc pk pf pt g nx en pn pe fr tk := by
  intro n
  induction n with
  | zero => intro i l g h1; omega
  | succ n ih =>
    intro i l g h1 h2 hlen hl hg K
    rw [wX_nextDivision_2]
    cases i with
    | zero => exact br_t (show nI 0 ≤ 0 from by decide) (K g hg)
    | succ i =>
      refine br_f (nI_nle (by omega) (by omega)) ⟨pk_in (i + 1) 6 (by omega), lh_x_gof (k := i + 1) (by omega) hg hl ?_⟩
      have e : g (nI (i + 1)).toNatClampNeg = nI (lh_gf l (i + 1)) := lh_rdA hg (by omega) (by decide)
      have b := lh_gof_le hl (i + 1)
      have lt := hl (i + 1)
      by_cases c : lh_gf l (i + 1) < lh_gof l (i + 1)
      · have s : lh_ng (i + 1) l = l.set (i + 1) (lh_gf l (i + 1) + 1) := if_pos c
        refine br_f ?_ ⟨pk_in (i + 1) 6 (by omega), pk_in (i + 1) 6 (by omega), nm_r (e' := upd g (i + 1) (nI (lh_gf l (i + 1) + 1))) ?_ (K _ ?_)⟩
        · rw [e]; exact nI_ge c (by omega)
        · rw [e, nI_clamp (by omega), nI_1]
        · rw [s]; exact lh_A_set hg hlen (by omega)
      · have s : lh_ng (i + 1) l = lh_ng i (l.set (i + 1) 0) := if_neg c
        refine br_t ?_ ⟨pk_in (i + 1) 6 (by omega), nm_r (e' := upd g (i + 1) (nI 0)) ?_ (nm_r (pk_m1 i) (ih i (l.set (i + 1) 0) _ (by omega) (by omega) (by rw [List.length_set]; exact hlen) (lh_gf_set_lt hl (by omega) (by omega)) (lh_A_set hg hlen (by omega)) ?_))⟩
        · rw [e]; exact nI_le (by omega) (by omega)
        · rw [nI_clamp (by omega)]; rfl
        · rw [← s]; exact K
theorem lh_x_next {post : SX → Prop} (hlen : l.length = 6) (hl : ∀ a, lh_gf l a < 6) (hg : lh_A 6 g (lh_gf l)) (H : ∀ g, lh_A 6 g (lh_gf (lh_ng 5 l)) → post (fc, cc, ck, cl, cr, pc, pk, pf, pt, g, nx, en, pn, pe, fr, tk)) : wpX_nextDivision post (fc, cc, ck, cl, cr, pc, pk, pf, pt, g, nx, en, pn, pe, fr, tk) :=
  Exists.intro 6 (lh_x_next2 6 5 l g (by omega) (by omega) hlen hl hg H)
theorem lh_x_ch2 {post : Int32 → Prop} {s : Nat} (hs : s < 2) (S : lh_St C W nc np cc ck cl cr pc pk pf pt) (hg : lh_A 6 g (lh_gf l)) (hl : ∀ a, lh_gf l a < 6) (H1 : lh_ch C nc s l → post 1) (H0 : ¬ lh_ch C nc s l → post 0) : ∀ (n i : Nat), nc s < n + i → i ≤ nc s → (∀ j, j < i → lh_cok C s l j) → wX_conditionsHold_2 post (nI s) fc cc ck cl cr pc pk pf pt g nx en pn pe fr tk n (nI i) := by
  obtain ⟨⟨s1, s2, s3, s4⟩, _, hC, _, hnc, _⟩ := S
  have h8 := hnc s
  intro n
  induction n with
  | zero => intro i h1 h2; omega
  | succ n ih =>
    intro i h1 h2 I
    have hk : C (8 * s + i) ≤ 71 := hC _
    have e0 : cc (nI s).toNatClampNeg = nI (nc s) := lh_rdS s1 (by omega)
    have e1 : cl (nI (8 * s + i)).toNatClampNeg = nI (C (8 * s + i) % 36 / 6) := lh_rdS s3 (by omega)
    have e2 : cr (nI (8 * s + i)).toNatClampNeg = nI (C (8 * s + i) % 6) := lh_rdS s4 (by omega)
    have e3 : ck (nI (8 * s + i)).toNatClampNeg = nI (C (8 * s + i) / 36) := lh_rdS s2 (by omega)
    have eL : g (cl (nI (8 * s + i)).toNatClampNeg).toNatClampNeg = nI (lh_gf l (C (8 * s + i) % 36 / 6)) := by rw [e1]; exact lh_rdA hg (by omega) (by decide)
    have eR : g (cr (nI (8 * s + i)).toNatClampNeg).toNatClampNeg = nI (lh_gf l (C (8 * s + i) % 6)) := by rw [e2]; exact lh_rdA hg (by omega) (by decide)
    have l1 := hl (C (8 * s + i) % 36 / 6)
    have l2 := hl (C (8 * s + i) % 6)
    rw [wX_conditionsHold_2]
    refine ⟨pk_in s 2 hs, pk_le (nc s) i (fun h => H1 ?_) (fun h => nm_r (lh_s8 s i) ⟨pk_in (8 * s + i) 16 (by omega), ⟨by rw [e1]; exact vp_in_nI (by omega) (by decide), ⟨pk_in (8 * s + i) 16 (by omega), ⟨by rw [e2]; exact vp_in_nI (by omega) (by decide), ?_⟩⟩⟩⟩) e0⟩
    · have e : i = nc s := by omega
      rw [e] at I; exact I
    · rw [eL, eR]
      unfold wX_conditionsHold_49 wX_conditionsHold_67
      rw [e3]
      have next : lh_cok C s l i → wX_conditionsHold_2 post (nI s) fc cc ck cl cr pc pk pf pt g nx en pn pe fr tk n (nI (i + 1)) := fun c => ih (i + 1) (by omega) (by omega) (fun j hj => by
        rcases lh_lt_s hj with z | z
        · exact I j z
        · rw [z]; exact c)
      have bad : ¬ lh_cok C s l i → post 0 := fun c => H0 (fun z => c (z i h))
      refine pk_eq (lh_gf l (C (8 * s + i) % 36 / 6)) (lh_gf l (C (8 * s + i) % 6)) (fun q => ?_) (fun q => ?_)
      · by_cases c : C (8 * s + i) < 36
        · exact ⟨pk_in (8 * s + i) 16 (by omega), br_t ((lh_k0 _ (by omega)).mpr c) (br_t rfl (nm_r (nI_1 i) (next ⟨fun _ => c, fun _ => q⟩)))⟩
        · exact ⟨pk_in (8 * s + i) 16 (by omega), br_f (fun z => c ((lh_k0 _ (by omega)).mp z)) (br_f (by decide) (bad (fun z => c (z.mp q))))⟩
      · by_cases c : C (8 * s + i) < 36
        · exact ⟨pk_in (8 * s + i) 16 (by omega), br_t ((lh_k0 _ (by omega)).mpr c) (br_f (by decide) (bad (fun z => q (z.mpr c))))⟩
        · exact ⟨pk_in (8 * s + i) 16 (by omega), br_f (fun z => c ((lh_k0 _ (by omega)).mp z)) (br_t rfl (nm_r (nI_1 i) (next ⟨fun z => absurd z q, fun z => absurd z c⟩)))⟩
theorem lh_x_ch {post : Int32 → Prop} {s : Nat} (hs : s < 2) (S : lh_St C W nc np cc ck cl cr pc pk pf pt) (hg : lh_A 6 g (lh_gf l)) (hl : ∀ a, lh_gf l a < 6) (H1 : lh_ch C nc s l → post 1) (H0 : ¬ lh_ch C nc s l → post 0) : wpX_conditionsHold post (fc, cc, ck, cl, cr, pc, pk, pf, pt, g, nx, en, pn, pe, fr, tk) (nI s) :=
  Exists.intro (nc s + 1) (lh_x_ch2 hs S hg hl H1 H0 (nc s + 1) 0 (by omega) (by omega) (fun j hj => absurd hj (Nat.not_lt_zero j)))
end
end
section
/-! THE COMPONENT: the heap methods -/
theorem lh_oks_s {h0 pa pt : Nat → Nat} {pk : Nat → Bool} {nl i : Nat} (a : lh_oks h0 nl pa pt pk i) (b : ¬ (pk i = true ∧ pa i = pt i) → pa i ≠ nl ∧ lh_hp h0 pa pt pk i (pa i) = 0) : lh_oks h0 nl pa pt pk (i + 1) := by
  intro j hj
  rcases lh_lt_s hj with z | z
  · exact a j z
  · rw [z]; exact b
theorem lh_pk_t {W : Nat → Nat} {s i : Nat} (c : 36 ≤ W (6 * s + i)) : lh_pk W s i = true := decide_eq_true c
theorem lh_pk_f {W : Nat → Nat} {s i : Nat} (c : ¬ 36 ≤ W (6 * s + i)) : lh_pk W s i = false := decide_eq_false c
section
variable {fc : Int32} {cc ck cl cr pc pk pf pt g nx en pn pe fr tk : Nat → Int32} {C W nc np : Nat → Nat} {l : List Nat}
theorem lh_x_add79 {post : Int32 → SX → Prop} {J : Int32 → (Nat → Int32) → (Nat → Int32) → (Nat → Int32) → (Nat → Int32) → (Nat → Int32) → (Nat → Int32) → (Nat → Int32) → (Nat → Int32) → (Nat → Int32) → (Nat → Int32) → (Nat → Int32) → (Nat → Int32) → (Nat → Int32) → (Nat → Int32) → (Nat → Int32) → Prop} {x1 x6 : Int32} {i a t n5 : Nat} {h e : Nat → Nat} {k : Bool} (hi : i < 6) (ha : a < 6) (ht : t < 6) (hn : n5 < 6) (g5 : g 5 = nI n5) (hh : ∀ x, h x ≤ 6) (hx : lh_Ah 6 nx h) (he : lh_Ah 6 en e) (hk : x6 = lh_bI k)
    (H1 : a ≠ n5 → h a = 0 → ∀ nx en, lh_Ah 6 nx (lh_up h a (t + 1)) → lh_Ah 6 en (lh_up e a (if k = true then t + 1 else 0)) → J (nI (i + 1)) cc ck cl cr pc pk pf pt g nx en pn pe fr tk)
    (H0 : ¬ (a ≠ n5 ∧ h a = 0) → post 0 (fc, cc, ck, cl, cr, pc, pk, pf, pt, g, nx, en, pn, pe, fr, tk)) : wX_addPartsToHeap_79 post J x1 (nI i) (nI a) (nI t) x6 1 fc cc ck cl cr pc pk pf pt g nx en pn pe fr tk := by
  have e1 : nx (nI a).toNatClampNeg = lh_hv (h a) := lh_rdH hx ha (by decide)
  have b := hh a
  have ca : (nI a).toNatClampNeg = a := nI_clamp (by omega)
  unfold wX_addPartsToHeap_79
  refine br_f (by decide) (pk_eq a n5 (fun q => H0 (fun z => z.1 q)) (fun q => ⟨pk_in a 6 ha, ?_⟩) rfl g5)
  rw [e1]
  by_cases c : h a = 0
  · refine br_t ((lh_hv_m1 _ (by omega)).mpr c) ⟨pk_in a 6 ha, nm_r (e' := upd nx a (lh_hv (t + 1))) (by rw [ca]; rfl) ?_⟩
    have A := lh_Ah_up hx a (t + 1)
    cases k with
    | true =>
      refine br_f (by rw [hk]; decide) ⟨pk_in a 6 ha, nm_r (e' := upd en a (lh_hv (t + 1))) (by rw [ca]; rfl) (nm_r (nI_1 i) (H1 q c _ _ A ?_))⟩
      exact lh_Ah_up he a (t + 1)
    | false =>
      refine br_t (by rw [hk]; decide) ⟨pk_in a 6 ha, nm_r (e' := upd en a (lh_hv 0)) (by rw [ca]; rfl) (nm_r (nI_1 i) (H1 q c _ _ A ?_))⟩
      exact lh_Ah_up he a 0
  · exact br_f (fun z => c ((lh_hv_m1 _ (by omega)).mp z)) (H0 (fun z => c z.2))
theorem lh_x_add2 {post : Int32 → SX → Prop} {s : Nat} {h0 e0 : Nat → Nat} (hs : s < 2) (S : lh_St C W nc np cc ck cl cr pc pk pf pt) (hg : lh_A 6 g (lh_gf l)) (hl : ∀ a, lh_gf l a < 6) (hh : ∀ x, h0 x ≤ 6)
    (H1 : lh_oks h0 (lh_gf l 5) (lh_pa W s l) (lh_pt W s l) (lh_pk W s) (np s) → ∀ nx en, lh_Ah 6 nx (lh_hp h0 (lh_pa W s l) (lh_pt W s l) (lh_pk W s) (np s)) → lh_Ah 6 en (lh_ep e0 (lh_pa W s l) (lh_pt W s l) (lh_pk W s) (np s)) → post 1 (fc, cc, ck, cl, cr, pc, pk, pf, pt, g, nx, en, pn, pe, fr, tk))
    (H0 : ¬ lh_oks h0 (lh_gf l 5) (lh_pa W s l) (lh_pt W s l) (lh_pk W s) (np s) → ∀ nx en, post 0 (fc, cc, ck, cl, cr, pc, pk, pf, pt, g, nx, en, pn, pe, fr, tk)) :
    ∀ (n i : Nat) (nx en : Nat → Int32), np s < n + i → i ≤ np s → lh_oks h0 (lh_gf l 5) (lh_pa W s l) (lh_pt W s l) (lh_pk W s) i → lh_Ah 6 nx (lh_hp h0 (lh_pa W s l) (lh_pt W s l) (lh_pk W s) i) → lh_Ah 6 en (lh_ep e0 (lh_pa W s l) (lh_pt W s l) (lh_pk W s) i) → wX_addPartsToHeap_2 post (nI s) fc n (nI i) cc ck cl cr pc pk pf pt g nx en pn pe fr tk := by
  obtain ⟨_, ⟨p1, p2, p3, p4⟩, _, hW, _, hnp⟩ := S
  have h6 := hnp s
  intro n
  induction n with
  | zero => intro i nx en h1 h2; omega
  | succ n ih =>
    intro i nx en h1 h2 O X E
    have hk : W (6 * s + i) ≤ 71 := hW _
    have e0' : pc (nI s).toNatClampNeg = nI (np s) := lh_rdS p1 (by omega)
    rw [wX_addPartsToHeap_2]
    refine ⟨pk_in s 2 hs, pk_le (np s) i (fun h => ?_) (fun h => ?_) e0'⟩
    · have e : i = np s := by omega
      rw [e] at O X E
      exact H1 O nx en X E
    · have e1 : pf (nI (6 * s + i)).toNatClampNeg = nI (W (6 * s + i) % 36 / 6) := lh_rdS p3 (by omega)
      have e2 : pt (nI (6 * s + i)).toNatClampNeg = nI (W (6 * s + i) % 6) := lh_rdS p4 (by omega)
      have e3 : pk (nI (6 * s + i)).toNatClampNeg = nI (W (6 * s + i) / 36) := lh_rdS p2 (by omega)
      have eL : g (pf (nI (6 * s + i)).toNatClampNeg).toNatClampNeg = nI (lh_pa W s l i) := by rw [e1]; exact lh_rdA hg (by omega) (by decide)
      have eR : g (pt (nI (6 * s + i)).toNatClampNeg).toNatClampNeg = nI (lh_pt W s l i) := by rw [e2]; exact lh_rdA hg (by omega) (by decide)
      have la : lh_pa W s l i < 6 := hl _
      have lt : lh_pt W s l i < 6 := hl _
      refine nm_r (lh_s6 s i) ⟨pk_in (6 * s + i) 12 (by omega), ⟨by rw [e1]; exact vp_in_nI (by omega) (by decide), nm_r eL ⟨pk_in (6 * s + i) 12 (by omega), ⟨by rw [e2]; exact vp_in_nI (by omega) (by decide), nm_r eR ⟨pk_in (6 * s + i) 12 (by omega), ?_⟩⟩⟩⟩⟩
      rw [e3]
      have P : ∀ (k : Bool) (x6 : Int32), lh_pk W s i = k → x6 = lh_bI k → ¬ (lh_pk W s i = true ∧ lh_pa W s l i = lh_pt W s l i) → wX_addPartsToHeap_79 post (wX_addPartsToHeap_2 post (nI s) fc n) (nI s) (nI i) (nI (lh_pa W s l i)) (nI (lh_pt W s l i)) x6 1 fc cc ck cl cr pc pk pf pt g nx en pn pe fr tk := by
        intro k x6 ek ex nc'
        refine lh_x_add79 (k := k) (by omega) la lt (hl 5) (hg 5 (by decide)) (fun x => lh_hp_le (fun j _ => hl _) hh x) X E ex (fun a1 a2 nx en X' E' => ih (i + 1) nx en (by omega) (by omega) (lh_oks_s O (fun _ => ⟨a1, a2⟩)) ?_ ?_) (fun z => H0 (fun o => z (o i h nc')) nx en)
        · rw [lh_hp_n nc']; exact X'
        · rw [lh_ep_n nc', ek]; exact E'
      by_cases c : 36 ≤ W (6 * s + i)
      · refine br_t ((lh_k1 _ (by omega)).mpr c) ?_
        unfold wX_addPartsToHeap_60 wX_addPartsToHeap_74
        refine br_f (by decide) (pk_eq (lh_pa W s l i) (lh_pt W s l i) (fun q => ?_) (fun q => P true 1 (lh_pk_t c) rfl (fun z => q z.2)))
        unfold wX_addPartsToHeap_79
        have ne : lh_pk W s i = true ∧ lh_pa W s l i = lh_pt W s l i := ⟨lh_pk_t c, q⟩
        refine br_t rfl (nm_r (nI_1 i) (ih (i + 1) nx en (by omega) (by omega) (lh_oks_s O (fun z => absurd ne z)) ?_ ?_))
        · rw [lh_hp_e ne]; exact X
        · rw [lh_ep_e ne]; exact E
      · refine br_f (fun z => c ((lh_k1 _ (by omega)).mp z)) ?_
        unfold wX_addPartsToHeap_60 wX_addPartsToHeap_74
        have kf := lh_pk_f c
        exact br_t rfl (P false 0 kf rfl (fun z => absurd (z.1.symm.trans kf) (by decide)))
theorem lh_x_add {post : Int32 → SX → Prop} {s : Nat} {h0 e0 : Nat → Nat} (hs : s < 2) (S : lh_St C W nc np cc ck cl cr pc pk pf pt) (hg : lh_A 6 g (lh_gf l)) (hl : ∀ a, lh_gf l a < 6) (hh : ∀ x, h0 x ≤ 6) (hx : lh_Ah 6 nx h0) (he : lh_Ah 6 en e0)
    (H1 : lh_oks h0 (lh_gf l 5) (lh_pa W s l) (lh_pt W s l) (lh_pk W s) (np s) → ∀ nx en, lh_Ah 6 nx (lh_hp h0 (lh_pa W s l) (lh_pt W s l) (lh_pk W s) (np s)) → lh_Ah 6 en (lh_ep e0 (lh_pa W s l) (lh_pt W s l) (lh_pk W s) (np s)) → post 1 (fc, cc, ck, cl, cr, pc, pk, pf, pt, g, nx, en, pn, pe, fr, tk))
    (H0 : ¬ lh_oks h0 (lh_gf l 5) (lh_pa W s l) (lh_pt W s l) (lh_pk W s) (np s) → ∀ nx en, post 0 (fc, cc, ck, cl, cr, pc, pk, pf, pt, g, nx, en, pn, pe, fr, tk)) : wpX_addPartsToHeap post (fc, cc, ck, cl, cr, pc, pk, pf, pt, g, nx, en, pn, pe, fr, tk) (nI s) :=
  Exists.intro (np s + 1) (lh_x_add2 hs S hg hl hh H1 H0 (np s + 1) 0 nx en (by omega) (by omega) (fun j hj => absurd hj (Nat.not_lt_zero j)) hx he)
theorem lh_x_build12 {post : Int32 → SX → Prop} {s : Nat} (hs : s < 2) (S : lh_St C W nc np cc ck cl cr pc pk pf pt) (hg : lh_A 6 g (lh_gf l)) (hl : ∀ a, lh_gf l a < 6)
    (H1 : lh_ok W np s l → ∀ nx en, lh_Ah 6 nx (lh_H W np s l) → lh_Ah 6 en (lh_Q W np s l) → post 1 (fc, cc, ck, cl, cr, pc, pk, pf, pt, g, nx, en, pn, pe, fr, tk)) (H0 : ¬ lh_ok W np s l → ∀ nx en, post 0 (fc, cc, ck, cl, cr, pc, pk, pf, pt, g, nx, en, pn, pe, fr, tk)) :
    ∀ (n i : Nat) (nx en : Nat → Int32), 6 < n + i → i ≤ 6 → lh_Ah i nx (fun _ => 0) → lh_Ah i en (fun _ => 0) → wX_buildPlainHeap_12 post (nI s) fc n (nI i) cc ck cl cr pc pk pf pt g nx en pn pe fr tk := by
  intro n
  induction n with
  | zero => intro i nx en h1 h2; omega
  | succ n ih =>
    intro i nx en h1 h2 X E
    rw [wX_buildPlainHeap_12]
    refine pk_le 6 i (fun h => ?_) (fun h => ⟨pk_in i 6 h, nm_r (e' := upd nx i (lh_hv 0)) (by rw [nI_clamp (by omega)]; rfl) ⟨pk_in i 6 h, nm_r (e' := upd en i (lh_hv 0)) (by rw [nI_clamp (by omega)]; rfl) (nm_r (nI_1 i) (ih (i + 1) _ _ (by omega) (by omega) (lh_Ah_s X) (lh_Ah_s E)))⟩⟩)
    have e : i = 6 := by omega
    rw [e] at X E
    exact lh_x_add (h0 := fun _ => 0) (e0 := fun _ => 0) hs S hg hl (fun _ => Nat.zero_le _) X E (fun o nx en X' E' => ⟨rfl, H1 o nx en X' E'⟩) (fun o nx en => ⟨rfl, H0 o nx en⟩)
theorem lh_x_build {post : Int32 → SX → Prop} {s : Nat} (hs : s < 2) (S : lh_St C W nc np cc ck cl cr pc pk pf pt) (hg : lh_A 6 g (lh_gf l)) (hl : ∀ a, lh_gf l a < 6)
    (H1 : lh_B C W nc np s l → ∀ nx en, lh_Ah 6 nx (lh_H W np s l) → lh_Ah 6 en (lh_Q W np s l) → post 1 (fc, cc, ck, cl, cr, pc, pk, pf, pt, g, nx, en, pn, pe, fr, tk)) (H0 : ¬ lh_B C W nc np s l → ∀ nx en, post 0 (fc, cc, ck, cl, cr, pc, pk, pf, pt, g, nx, en, pn, pe, fr, tk)) : wpX_buildPlainHeap post (fc, cc, ck, cl, cr, pc, pk, pf, pt, g, nx, en, pn, pe, fr, tk) (nI s) := by
  refine lh_x_ch (post := fun r_1 => (r_1 = 0 → post 0 (fc, cc, ck, cl, cr, pc, pk, pf, pt, g, nx, en, pn, pe, fr, tk)) ∧ (¬ r_1 = 0 → ∃ n12 : Nat, wX_buildPlainHeap_12 post (nI s) fc n12 0 cc ck cl cr pc pk pf pt g nx en pn pe fr tk)) hs S hg hl (fun c => br_f (by decide) ?_) (fun c => br_t rfl (H0 (fun z => c z.1) nx en))
  exact ⟨7, lh_x_build12 hs S hg hl (fun o nx en X E => H1 ⟨c, o⟩ nx en X E) (fun o nx en => H0 (fun z => o z.2) nx en) 7 0 nx en (by omega) (by omega) (fun j hj => absurd hj (Nat.not_lt_zero j)) (fun j hj => absurd hj (Nat.not_lt_zero j))⟩
theorem lh_x_leads5 {post : Int32 → Prop} {h : Nat → Nat} {a t : Nat} (ht : t < 6) (hb : lh_bd 6 h) (hx : lh_Ah 6 nx h) (H1 : (∃ q, lh_pth h t a q) → post 1) (H0 : (¬ ∃ q, lh_pth h t a q) → post 0) : ∀ (n i y : Nat) (q : List Nat), 6 < n + i → i ≤ 6 → y < 6 → q.length = i → lh_pre h t y a q → wX_leadsTo_5 post (nI t) fc cc ck cl cr pc pk pf pt g nx en pn pe fr tk n (nI y) (nI i) := by
  intro n
  induction n with
  | zero => intro i y q h1 h2; omega
  | succ n ih =>
    intro i y q h1 h2 hy ql B
    have e1 : nx (nI y).toNatClampNeg = lh_hv (h y) := lh_rdH hx hy (by decide)
    have b := hb.2 y
    have fin : (y = t ∨ 6 ≤ i) → wX_leadsTo_42 post (nI t) (nI y) fc cc ck cl cr pc pk pf pt g nx en pn pe fr tk := by
      intro z
      unfold wX_leadsTo_42
      refine pk_eq y t (fun w => H1 ⟨q, ?_⟩) (fun w => H0 ?_)
      · rw [w] at B; exact B
      · exact lh_far hb.1 B (by omega) w
    rw [wX_leadsTo_5]
    refine pk_le 6 i (fun z => fin (Or.inr z)) (fun z => pk_eq y t (fun w => fin (Or.inl w)) (fun w => ⟨pk_in y 6 hy, ?_⟩))
    rw [e1]
    by_cases c : h y = 0
    · exact br_t ((lh_hv_m1 _ (by omega)).mpr c) (H0 (lh_stop B w c))
    · refine br_f (fun z => c ((lh_hv_m1 _ (by omega)).mp z)) ⟨pk_in y 6 hy, nm_r (lh_hv_p c) (nm_r (nI_1 i) (ih (i + 1) (h y - 1) (q ++ [y]) (by omega) (by omega) (by omega) (by rw [List.length_append, ql]; rfl) (lh_pre_snoc w c q a B)))⟩
theorem lh_x_leads {post : Int32 → Prop} {h : Nat → Nat} {a t : Nat} (ha : a < 6) (ht : t < 6) (hb : lh_bd 6 h) (hx : lh_Ah 6 nx h) (H1 : (∃ q, lh_pth h t a q) → post 1) (H0 : (¬ ∃ q, lh_pth h t a q) → post 0) : wpX_leadsTo post (fc, cc, ck, cl, cr, pc, pk, pf, pt, g, nx, en, pn, pe, fr, tk) (nI a) (nI t) :=
  Exists.intro 7 (lh_x_leads5 ht hb hx H1 H0 7 0 a [] (by omega) (by omega) ha rfl (lh_pre_nil.mpr rfl))
theorem lh_x_cells4 {post : Int32 → Prop} {h : Nat → Nat} (hb : ∀ x, h x ≤ 6) (hx : lh_Ah 6 nx h) (H : post (nI (lh_cl h 6))) : ∀ (n i : Nat), 6 < n + i → i ≤ 6 → wX_countCells_4 post fc cc ck cl cr pc pk pf pt g nx en pn pe fr tk n (nI (lh_cl h i)) (nI i) := by
  intro n
  induction n with
  | zero => intro i h1 h2; omega
  | succ n ih =>
    intro i h1 h2
    rw [wX_countCells_4]
    refine pk_le 6 i (fun z => ?_) (fun z => ⟨pk_in i 6 z, ?_⟩)
    · have e : i = 6 := by omega
      rw [e]; exact H
    · have e1 : nx (nI i).toNatClampNeg = lh_hv (h i) := lh_rdH hx z (by decide)
      have b := hb i
      rw [e1]
      have w := ih (i + 1) (by omega) (by omega)
      by_cases c : h i = 0
      · have s : lh_cl h (i + 1) = lh_cl h i := if_pos c
        rw [s] at w
        exact br_t ((lh_hv_m1 _ (by omega)).mpr c) (nm_r (nI_1 i) w)
      · have s : lh_cl h (i + 1) = lh_cl h i + 1 := if_neg c
        rw [s] at w
        exact br_f (fun z => c ((lh_hv_m1 _ (by omega)).mp z)) (nm_r (nI_1 _) (nm_r (nI_1 i) w))
theorem lh_x_cells {post : Int32 → Prop} {h : Nat → Nat} (hb : ∀ x, h x ≤ 6) (hx : lh_Ah 6 nx h) (H : post (nI (lh_cl h 6))) : wpX_countCells post (fc, cc, ck, cl, cr, pc, pk, pf, pt, g, nx, en, pn, pe, fr, tk) :=
  Exists.intro 7 (lh_x_cells4 hb hx H 7 0 (by omega) (by omega))
theorem lh_x_hasl2 {post : Int32 → Prop} {e : Nat → Nat} (hb : ∀ x, e x ≤ 6) (hx : lh_Ah 6 en e) (H1 : lh_any6 e → post 1) (H0 : ¬ lh_any6 e → post 0) : ∀ (n i : Nat), 6 < n + i → i ≤ 6 → (∀ j, j < i → e j = 0) → wX_hasList_2 post fc cc ck cl cr pc pk pf pt g nx en pn pe fr tk n (nI i) := by
  intro n
  induction n with
  | zero => intro i h1 h2; omega
  | succ n ih =>
    intro i h1 h2 I
    rw [wX_hasList_2]
    refine pk_le 6 i (fun z => H0 ?_) (fun z => ⟨pk_in i 6 z, ?_⟩)
    · intro ⟨g, hg, eg⟩
      exact eg (I g (by omega))
    · have e1 : en (nI i).toNatClampNeg = lh_hv (e i) := lh_rdH hx z (by decide)
      have b := hb i
      rw [e1]
      by_cases c : e i = 0
      · refine br_t ((lh_hv_m1 _ (by omega)).mpr c) (nm_r (nI_1 i) (ih (i + 1) (by omega) (by omega) (fun j hj => ?_)))
        rcases lh_lt_s hj with y | y
        · exact I j y
        · rw [y]; exact c
      · exact br_f (fun z => c ((lh_hv_m1 _ (by omega)).mp z)) (H1 ⟨i, z, c⟩)
theorem lh_x_hasl {post : Int32 → Prop} {e : Nat → Nat} (hb : ∀ x, e x ≤ 6) (hx : lh_Ah 6 en e) (H1 : lh_any6 e → post 1) (H0 : ¬ lh_any6 e → post 0) : wpX_hasList post (fc, cc, ck, cl, cr, pc, pk, pf, pt, g, nx, en, pn, pe, fr, tk) :=
  Exists.intro 7 (lh_x_hasl2 hb hx H1 H0 7 0 (by omega) (by omega) (fun j hj => absurd hj (Nat.not_lt_zero j)))
end
end
section
/-! THE COMPONENT: runs -/
theorem lh_A_snoc {L : List Nat} {v : Nat} {a : Nat → Int32} (h : lh_A L.length a (fun j => L.getD j 0)) : lh_A (L ++ [v]).length (upd a L.length (nI v)) (fun j => (L ++ [v]).getD j 0) := by
  intro j hj
  rw [List.length_append, List.length_cons, List.length_nil] at hj
  show _ = nI ((L ++ [v]).getD j 0)
  by_cases e : j = L.length
  · rw [e, pk_us, List.getD_eq_getElem?_getD, List.getElem?_append_right (Nat.le_refl _), Nat.sub_self]
    rfl
  · have q : j < L.length := by omega
    rw [pk_un e, h j q]
    show nI (L.getD j 0) = _
    rw [List.getD_eq_getElem?_getD, List.getD_eq_getElem?_getD, List.getElem?_append_left q]
section
variable {fc : Int32} {cc ck cl cr pc pk pf pt g nx en pn pe fr tk : Nat → Int32} {C W nc np : Nat → Nat} {l : List Nat}
theorem lh_x_keep19 {post : SX → Prop} {anyL : Bool} {gr n5 : Nat} {h e : Nat → Nat} (hgr : gr ≤ 6) (h5 : n5 < 6) (g5 : g 5 = nI n5) (hh : ∀ x, h x ≤ 6) (hx : lh_Ah 6 nx h) (he : lh_Ah 6 en e)
    (H : ∀ pn pe fr, lh_Ah 6 pn h → lh_Ah 6 pe e → lh_A (lh_fl anyL gr n5 h 6).length fr (fun j => (lh_fl anyL gr n5 h 6).getD j 0) → post (nI (lh_fl anyL gr n5 h 6).length, cc, ck, cl, cr, pc, pk, pf, pt, g, nx, en, pn, pe, fr, tk)) :
    ∀ (n i : Nat) (pn pe fr : Nat → Int32), 6 < n + i → i ≤ 6 → lh_Ah i pn h → lh_Ah i pe e → lh_A (lh_fl anyL gr n5 h i).length fr (fun j => (lh_fl anyL gr n5 h i).getD j 0) → wX_keepPlainHeap_19 post (lh_bI anyL) (nI gr) n (nI i) (nI (lh_fl anyL gr n5 h i).length) cc ck cl cr pc pk pf pt g nx en pn pe fr tk := by
  intro n
  induction n with
  | zero => intro i pn pe fr h1 h2; omega
  | succ n ih =>
    intro i pn pe fr h1 h2 P E I
    rw [wX_keepPlainHeap_19]
    refine pk_le 6 i (fun z => ?_) (fun z => ?_)
    · have e' : i = 6 := by omega
      subst e'
      exact H pn pe fr P E I
    · have ci : (nI i).toNatClampNeg = i := nI_clamp (by omega)
      have e1 : nx i = lh_hv (h i) := hx i z
      have e2 : en i = lh_hv (e i) := he i z
      have b := hh i
      have len : (lh_fl anyL gr n5 h i).length ≤ i := lh_fl_len
      have P' : lh_Ah (i + 1) (upd pn i (lh_hv (h i))) h := lh_Ah_s P
      have E' : lh_Ah (i + 1) (upd pe i (lh_hv (e i))) e := lh_Ah_s E
      have skip : ¬ (anyL = true ∧ i < gr ∧ i ≠ n5 ∧ h i = 0) → wX_keepPlainHeap_19 post (lh_bI anyL) (nI gr) n (nI (i + 1)) (nI (lh_fl anyL gr n5 h i).length) cc ck cl cr pc pk pf pt g nx en (upd pn i (lh_hv (h i))) (upd pe i (lh_hv (e i))) fr tk := by
        intro c
        have s : lh_fl anyL gr n5 h (i + 1) = lh_fl anyL gr n5 h i := by rw [lh_fl_s, if_neg c, List.append_nil]
        have w := ih (i + 1) _ _ fr (by omega) (by omega) P' E' (by rw [s]; exact I)
        rw [s] at w
        exact w
      refine ⟨pk_in i 6 z, pk_in i 6 z, nm_r (e' := upd pn i (lh_hv (h i))) (by rw [ci, e1]) ⟨pk_in i 6 z, pk_in i 6 z, nm_r (e' := upd pe i (lh_hv (e i))) (by rw [ci, e2]) ?_⟩⟩
      cases anyL with
      | false => exact br_t rfl (nm_r (nI_1 i) (skip (fun c => absurd c.1 (by decide))))
      | true =>
        refine br_f (by decide) (pk_le gr i (fun c => nm_r (nI_1 i) (skip (fun d => absurd d.2.1 (by omega)))) (fun c => pk_eq i n5 (fun q => nm_r (nI_1 i) (skip (fun d => d.2.2.1 q))) (fun q => ⟨pk_in i 6 z, ?_⟩) rfl g5))
        rw [ci, e1]
        by_cases d : h i = 0
        · have s : lh_fl true gr n5 h (i + 1) = lh_fl true gr n5 h i ++ [i] := by rw [lh_fl_s, if_pos ⟨rfl, c, q, d⟩]
          have I' := lh_A_snoc (v := i) I
          rw [← s] at I'
          have w := ih (i + 1) _ _ _ (by omega) (by omega) P' E' I'
          rw [s, List.length_append] at w
          exact br_t ((lh_hv_m1 _ (by omega)).mpr d) ⟨pk_in (lh_fl true gr n5 h i).length 6 (by omega), nm_r (e' := upd fr (lh_fl true gr n5 h i).length (nI i)) (by rw [nI_clamp (by omega)]) (nm_r (nI_1 _) (nm_r (nI_1 i) w))⟩
        · exact br_f (fun y => d ((lh_hv_m1 _ (by omega)).mp y)) (nm_r (nI_1 i) (skip (fun y => d y.2.2.2)))
theorem lh_x_keep {post : SX → Prop} {h e : Nat → Nat} (w : lh_wf l) (hg : lh_A 6 g (lh_gf l)) (hh : ∀ x, h x ≤ 6) (hee : ∀ x, e x ≤ 6) (hx : lh_Ah 6 nx h) (he : lh_Ah 6 en e)
    (H : ∀ anyL, (anyL = true ↔ lh_any6 e) → ∀ pn pe fr, lh_Ah 6 pn h → lh_Ah 6 pe e → lh_A (lh_fl anyL (lh_gof l 6) (lh_gf l 5) h 6).length fr (fun j => (lh_fl anyL (lh_gof l 6) (lh_gf l 5) h 6).getD j 0) → post (nI (lh_fl anyL (lh_gof l 6) (lh_gf l 5) h 6).length, cc, ck, cl, cr, pc, pk, pf, pt, g, nx, en, pn, pe, fr, tk)) : wpX_keepPlainHeap post (fc, cc, ck, cl, cr, pc, pk, pf, pt, g, nx, en, pn, pe, fr, tk) := by
  have K : ∀ anyL, (anyL = true ↔ lh_any6 e) → ∃ n19 : Nat, wX_keepPlainHeap_19 post (lh_bI anyL) (nI (lh_gof l 6)) n19 0 0 cc ck cl cr pc pk pf pt g nx en pn pe fr tk := fun anyL ha =>
    ⟨7, lh_x_keep19 (anyL := anyL) (lh_gof_le w.2.1 6) (w.2.1 5) (hg 5 (by decide)) hh hx he (H anyL ha) 7 0 pn pe fr (by omega) (by omega) (fun j hj => absurd hj (Nat.not_lt_zero j)) (fun j hj => absurd hj (Nat.not_lt_zero j)) (fun j hj => absurd hj (Nat.not_lt_zero j))⟩
  refine lh_x_hasl (post := fun r_1 => wpX_groupsOfFirst (fun r_18 => ∃ n19 : Nat, wX_keepPlainHeap_19 post r_1 r_18 n19 0 0 cc ck cl cr pc pk pf pt g nx en pn pe fr tk) (fc, cc, ck, cl, cr, pc, pk, pf, pt, g, nx, en, pn, pe, fr, tk) 6) hee he (fun a => ?_) (fun a => ?_)
  · exact lh_x_gof (k := 6) (Nat.le_refl _) hg w.2.1 (K true ⟨fun _ => a, fun _ => rfl⟩)
  · exact lh_x_gof (k := 6) (Nat.le_refl _) hg w.2.1 (K false ⟨fun z => absurd z (by decide), fun z => absurd z a⟩)
theorem lh_x_runs4 {post : Int32 → Prop} {K : Nat} (hK : K ≤ 6) (H : post (nI (6 ^ K))) : ∀ (n i : Nat), K < n + i → i ≤ K → wX_countRuns_4 post (nI K) cc ck cl cr pc pk pf pt g nx en pn pe fr tk n (nI (6 ^ i)) (nI i) := by
  intro n
  induction n with
  | zero => intro i h1 h2; omega
  | succ n ih =>
    intro i h1 h2
    rw [wX_countRuns_4]
    refine pk_le K i (fun z => ?_) (fun z => pk_le 6 i (fun y => absurd y (by omega)) (fun y => nm_r (e' := nI (6 ^ (i + 1))) ?_ (nm_r (nI_1 i) (ih (i + 1) (by omega) (by omega)))))
    · have e : i = K := by omega
      rw [e]; exact H
    · rw [Nat.pow_succ]; exact pk_mul (6 ^ i) 6
theorem lh_x_runs {post : Int32 → Prop} {K : Nat} (hK : K ≤ 6) (H : post (nI (6 ^ K))) : wpX_countRuns post (nI K, cc, ck, cl, cr, pc, pk, pf, pt, g, nx, en, pn, pe, fr, tk) :=
  Exists.intro (K + 1) (lh_x_runs4 hK H (K + 1) 0 (by omega) (by omega))
theorem lh_x_put {post : Int32 → SX → Prop} {b f : Nat} {h e : Nat → Nat} (hb : b < 6) (hf : f < 6) (hee : ∀ x, e x ≤ 6) (hx : lh_Ah 6 nx h) (he : lh_Ah 6 en e) (nbf : e b ≠ 0 → b ≠ f)
    (H1 : e b ≠ 0 → e b ≠ f + 1 → ∀ nx en, lh_Ah 6 nx (lh_ins h b f) → lh_Ah 6 en (lh_up e f (e b)) → post 1 (fc, cc, ck, cl, cr, pc, pk, pf, pt, g, nx, en, pn, pe, fr, tk)) (H0 : (e b = 0 ∨ e b = f + 1) → post 0 (fc, cc, ck, cl, cr, pc, pk, pf, pt, g, nx, en, pn, pe, fr, tk)) : wpX_putAfter post (fc, cc, ck, cl, cr, pc, pk, pf, pt, g, nx, en, pn, pe, fr, tk) (nI b) (nI f) := by
  have cb : (nI b).toNatClampNeg = b := nI_clamp (by omega)
  have cf : (nI f).toNatClampNeg = f := nI_clamp (by omega)
  have e1 : en (nI b).toNatClampNeg = lh_hv (e b) := lh_rdH he hb (by decide)
  have bd := hee b
  refine And.intro (pk_in b 6 hb) ?_
  rw [e1]
  by_cases c : e b = 0
  · exact br_t ((lh_hv_m1 _ (by omega)).mpr c) (H0 (Or.inl c))
  · refine br_f (fun z => c ((lh_hv_m1 _ (by omega)).mp z)) ⟨pk_in b 6 hb, ?_⟩
    by_cases d : e b = f + 1
    · exact br_t ((lh_hv_eq _ (by omega) _ (by omega)).mpr d) (H0 (Or.inr d))
    · exact br_f (fun z => d ((lh_hv_eq _ (by omega) _ (by omega)).mp z)) ⟨pk_in b 6 hb, pk_in f 6 hf, nm_r (e' := upd nx f (nx b)) (by rw [cf, cb]) ⟨pk_in b 6 hb, pk_in f 6 hf, nm_r (e' := upd en f (lh_hv (e b))) (by rw [cf]) ⟨pk_in b 6 hb, nm_r (e' := upd (upd nx f (nx b)) b (nI f)) (by rw [cb]) (H1 c d _ _ (lh_Ah_ins hx hb (nbf c)) (lh_Ah_up he f (e b)))⟩⟩⟩
theorem lh_x_run42 {post : Int32 → SX → Prop} {K n5 : Nat} {Fl : List Nat} (hK : Fl.length = K) (h6 : K ≤ 6) (h5 : n5 < 6) (g5 : g 5 = nI n5) (hfr : lh_A K fr (fun j => Fl.getD j 0)) :
    ∀ (m i r : Nat) (h e : Nat → Nat) (nx en : Nat → Int32) (n : Nat), m + i = K → m < n → r < 2 ^ 31 → lh_bd 6 h → (∀ x, e x ≤ 6) → lh_fr Fl i e → lh_Ah 6 nx h → lh_Ah 6 en e →
    (∀ (h' e' : Nat → Nat) (nx en : Nat → Int32), lh_run n5 ((lh_dig r m).zip (Fl.drop i)) h e = some (h', e') → lh_bd 6 h' → (∀ x, e' x ≤ 6) → lh_Ah 6 nx h' → lh_Ah 6 en e' → post 1 (nI K, cc, ck, cl, cr, pc, pk, pf, pt, g, nx, en, pn, pe, fr, tk)) →
    (lh_run n5 ((lh_dig r m).zip (Fl.drop i)) h e = none → ∀ nx en, post 0 (nI K, cc, ck, cl, cr, pc, pk, pf, pt, g, nx, en, pn, pe, fr, tk)) → wX_buildRun_42 post n (nI r) (nI i) (nI K) cc ck cl cr pc pk pf pt g nx en pn pe fr tk := by
  intro m
  induction m with
  | zero =>
    intro i r h e nx en n hi hn hr hb he F X E H1 H0
    obtain ⟨n, rfl⟩ : ∃ m, n = m + 1 := ⟨n - 1, by omega⟩
    rw [wX_buildRun_42]
    exact br_t (nI_le (by omega) (by omega)) (H1 h e nx en rfl hb he X E)
  | succ m ih =>
    intro i r h e nx en n hi hn hr hb he F X E H1 H0
    obtain ⟨n, rfl⟩ : ∃ m, n = m + 1 := ⟨n - 1, by omega⟩
    have il : i < Fl.length := by omega
    have st := lh_run_step (nl := n5) (r := r) (m := m) (h := h) (e := e) il
    obtain ⟨F1, F2, F3, F4⟩ := lh_fr_s il F
    have ef : fr (nI i).toNatClampNeg = nI (Fl.getD i 0) := lh_rdA hfr (by omega) (by omega)
    have d6 : r / 6 < 2 ^ 31 := Nat.lt_of_le_of_lt (Nat.div_le_self r 6) hr
    have m6 : r % 6 < 6 := Nat.mod_lt _ (by decide)
    rw [wX_buildRun_42]
    refine pk_le K i (fun z => absurd z (by omega)) (fun z => pk_le 6 i (fun z => absurd z (by omega)) (fun z' => ⟨by decide, nm_r (e' := nI (r % 6)) (pk_rem (d := 6) hr (by decide) (by decide)) ⟨by decide, nm_r (e' := nI (r / 6)) (pk_div (d := 6) hr (by decide) (by decide)) (pk_eq (r % 6) n5 (fun q => nm_r (nI_1 i) ?_) (fun q => ⟨pk_in i 6 z', ?_⟩) rfl g5)⟩⟩))
    · rw [if_pos q] at st
      exact ih (i + 1) (r / 6) h e nx en n (by omega) (by omega) d6 hb he F1 X E (fun h' e' nx en z => H1 h' e' nx en (st.trans z)) (fun z => H0 (st.trans z))
    · rw [if_neg q] at st
      rw [ef]
      refine lh_x_put (b := r % 6) (f := Fl.getD i 0) m6 F2 he X E (fun z y => z (by rw [y]; exact F3)) (fun a1 a2 nx en X' E' => br_f (by decide) (nm_r (nI_1 i) ?_)) (fun z => br_t rfl ?_)
      · rw [if_neg (fun z => z.elim a1 a2)] at st
        exact ih (i + 1) (r / 6) _ _ nx en n (by omega) (by omega) d6 (lh_bd_ins hb m6 F2) (lh_up_le he (he _)) (F4 _) X' E' (fun h' e' nx en z => H1 h' e' nx en (st.trans z)) (fun z => H0 (st.trans z))
      · rw [if_pos z] at st
        exact H0 st _ _
theorem lh_x_run2 {post : Int32 → SX → Prop} {x1 : Int32} {h e : Nat → Nat} (hp : lh_Ah 6 pn h) (hq : lh_Ah 6 pe e) (H : ∀ nx en, lh_Ah 6 nx h → lh_Ah 6 en e → ∃ m, wX_buildRun_42 post m x1 0 fc cc ck cl cr pc pk pf pt g nx en pn pe fr tk) : ∀ (n i : Nat) (nx en : Nat → Int32), 6 < n + i → i ≤ 6 → lh_Ah i nx h → lh_Ah i en e → wX_buildRun_2 post x1 fc n (nI i) cc ck cl cr pc pk pf pt g nx en pn pe fr tk := by
  intro n
  induction n with
  | zero => intro i nx en h1 h2; omega
  | succ n ih =>
    intro i nx en h1 h2 X E
    rw [wX_buildRun_2]
    refine pk_le 6 i (fun z => ?_) (fun z => ?_)
    · have e' : i = 6 := by omega
      rw [e'] at X E
      exact H nx en X E
    · have ci : (nI i).toNatClampNeg = i := nI_clamp (by omega)
      exact ⟨pk_in i 6 z, pk_in i 6 z, nm_r (e' := upd nx i (lh_hv (h i))) (by rw [ci, hp i z]) ⟨pk_in i 6 z, pk_in i 6 z, nm_r (e' := upd en i (lh_hv (e i))) (by rw [ci, hq i z]) (nm_r (nI_1 i) (ih (i + 1) _ _ (by omega) (by omega) (lh_Ah_s X) (lh_Ah_s E)))⟩⟩
theorem lh_x_run {post : Int32 → SX → Prop} {r K n5 : Nat} {Fl : List Nat} {h e : Nat → Nat} (hK : Fl.length = K) (h6 : K ≤ 6) (h5 : n5 < 6) (g5 : g 5 = nI n5) (hfr : lh_A K fr (fun j => Fl.getD j 0)) (hp : lh_Ah 6 pn h) (hq : lh_Ah 6 pe e) (hr : r < 2 ^ 31) (hb : lh_bd 6 h) (he : ∀ x, e x ≤ 6) (F : lh_fr Fl 0 e)
    (H1 : ∀ (h' e' : Nat → Nat) (nx en : Nat → Int32), lh_run n5 ((lh_dig r K).zip Fl) h e = some (h', e') → lh_bd 6 h' → (∀ x, e' x ≤ 6) → lh_Ah 6 nx h' → lh_Ah 6 en e' → post 1 (nI K, cc, ck, cl, cr, pc, pk, pf, pt, g, nx, en, pn, pe, fr, tk))
    (H0 : lh_run n5 ((lh_dig r K).zip Fl) h e = none → ∀ nx en, post 0 (nI K, cc, ck, cl, cr, pc, pk, pf, pt, g, nx, en, pn, pe, fr, tk)) : wpX_buildRun post (nI K, cc, ck, cl, cr, pc, pk, pf, pt, g, nx, en, pn, pe, fr, tk) (nI r) :=
  Exists.intro 7 (lh_x_run2 hp hq (fun nx en X E => ⟨K + 1, lh_x_run42 hK h6 h5 g5 hfr K 0 r h e nx en (K + 1) rfl (by omega) hr hb he F X E H1 H0⟩) 7 0 nx en (by omega) (by omega) (fun j hj => absurd hj (Nat.not_lt_zero j)) (fun j hj => absurd hj (Nat.not_lt_zero j)))
end
end
section
/-! THE COMPONENT: does claim 1 fit -/
theorem lh_Ab_mk {N : Nat} {a : Nat → Int32} {t : Nat → Bool} {q : List Nat} {y : Nat} (h : lh_Ab N a (lh_mk t q)) : lh_Ab N (upd a y (lh_bI true)) (lh_mk t (q ++ [y])) := by
  rw [lh_mk_snoc]; exact lh_Ab_up h y true
section
variable {fc : Int32} {cc ck cl cr pc pk pf pt g nx en pn pe fr tk : Nat → Int32} {C W nc np : Nat → Nat} {l : List Nat}
theorem lh_x_tl5 {post : Int32 → SX → Prop} {h : Nat → Nat} {a t : Nat} {t0 : Nat → Bool} (ht : t < 6) (hb : lh_bd 6 h) (hx : lh_Ah 6 nx h)
    (H1 : ∀ (q : List Nat) (tk : Nat → Int32), lh_way h t a t0 q → lh_Ab 6 tk (lh_mk t0 q) → post 1 (fc, cc, ck, cl, cr, pc, pk, pf, pt, g, nx, en, pn, pe, fr, tk)) (H0 : (¬ ∃ q, lh_way h t a t0 q) → ∀ tk, post 0 (fc, cc, ck, cl, cr, pc, pk, pf, pt, g, nx, en, pn, pe, fr, tk)) :
    ∀ (n i y : Nat) (q : List Nat) (tk : Nat → Int32), 6 < n + i → i ≤ 6 → y < 6 → q.length = i → lh_beg h t y a t0 q → lh_Ab 6 tk (lh_mk t0 q) → wX_takeList_5 post (nI t) fc n (nI y) (nI i) cc ck cl cr pc pk pf pt g nx en pn pe fr tk := by
  intro n
  induction n with
  | zero => intro i y q tk h1 h2; omega
  | succ n ih =>
    intro i y q tk h1 h2 hy ql B M
    have e1 : nx (nI y).toNatClampNeg = lh_hv (h y) := lh_rdH hx hy (by decide)
    have e2 : tk (nI y).toNatClampNeg = lh_bI (lh_mk t0 q y) := lh_rdB M hy (by decide)
    have cy : (nI y).toNatClampNeg = y := nI_clamp (by omega)
    have b := hb.2 y
    have fin : (y = t ∨ 6 ≤ i) → wX_takeList_58 post (nI t) (nI y) fc cc ck cl cr pc pk pf pt g nx en pn pe fr tk := by
      intro z
      unfold wX_takeList_58
      refine pk_eq y t (fun w => H1 q tk ?_ M) (fun w => H0 ?_ tk)
      · rw [w] at B; exact lh_beg_end B
      · exact lh_beg_far B hb.1 (by omega) w
    rw [wX_takeList_5]
    refine pk_le 6 i (fun z => fin (Or.inr z)) (fun z => pk_eq y t (fun w => fin (Or.inl w)) (fun w => ⟨pk_in y 6 hy, ?_⟩))
    rw [e1, e2]
    cases d : lh_mk t0 q y with
    | true => exact br_f (by decide) (H0 (lh_beg_bad B w (Or.inr d)) tk)
    | false =>
      refine br_t rfl ⟨pk_in y 6 hy, ?_⟩
      by_cases c : h y = 0
      · exact br_t ((lh_hv_m1 _ (by omega)).mpr c) (H0 (lh_beg_bad B w (Or.inl c)) tk)
      · exact br_f (fun z => c ((lh_hv_m1 _ (by omega)).mp z)) ⟨pk_in y 6 hy, nm_r (e' := upd tk y (lh_bI true)) (by rw [cy, lh_nar1]) ⟨pk_in y 6 hy, nm_r (lh_hv_p c) (nm_r (nI_1 i) (ih (i + 1) (h y - 1) (q ++ [y]) _ (by omega) (by omega) (by omega) (by rw [List.length_append, ql]; rfl) (lh_beg_step B w c d) (lh_Ab_mk M)))⟩⟩
theorem lh_x_tl {post : Int32 → SX → Prop} {h : Nat → Nat} {a t : Nat} {t0 : Nat → Bool} (ha : a < 6) (ht : t < 6) (hb : lh_bd 6 h) (hx : lh_Ah 6 nx h) (hm : lh_Ab 6 tk t0)
    (H1 : ∀ (q : List Nat) (tk : Nat → Int32), lh_way h t a t0 q → lh_Ab 6 tk (lh_mk t0 q) → post 1 (fc, cc, ck, cl, cr, pc, pk, pf, pt, g, nx, en, pn, pe, fr, tk)) (H0 : (¬ ∃ q, lh_way h t a t0 q) → ∀ tk, post 0 (fc, cc, ck, cl, cr, pc, pk, pf, pt, g, nx, en, pn, pe, fr, tk)) : wpX_takeList post (fc, cc, ck, cl, cr, pc, pk, pf, pt, g, nx, en, pn, pe, fr, tk) (nI a) (nI t) :=
  Exists.intro 7 (lh_x_tl5 ht hb hx H1 H0 7 0 a [] tk (by omega) (by omega) ha rfl lh_beg0 (by rw [lh_mk_nil]; exact hm))
theorem lh_x_tc {post : Int32 → SX → Prop} {h e : Nat → Nat} {a t : Nat} {t0 : Nat → Bool} (ha : a < 6) (ht : t < 6) (hb : lh_bd 6 h) (he : ∀ x, e x ≤ 6) (hx : lh_Ah 6 nx h) (hn : lh_Ah 6 en e) (hm : lh_Ab 6 tk t0)
    (H1 : h a = t + 1 → e a = 0 → t0 a = false → ∀ (tk : Nat → Int32), lh_Ab 6 tk (lh_mk t0 [a]) → post 1 (fc, cc, ck, cl, cr, pc, pk, pf, pt, g, nx, en, pn, pe, fr, tk)) (H0 : ¬ (h a = t + 1 ∧ e a = 0 ∧ t0 a = false) → post 0 (fc, cc, ck, cl, cr, pc, pk, pf, pt, g, nx, en, pn, pe, fr, tk)) : wpX_takeCell post (fc, cc, ck, cl, cr, pc, pk, pf, pt, g, nx, en, pn, pe, fr, tk) (nI a) (nI t) := by
  have e1 : nx (nI a).toNatClampNeg = lh_hv (h a) := lh_rdH hx ha (by decide)
  have e2 : tk (nI a).toNatClampNeg = lh_bI (t0 a) := lh_rdB hm ha (by decide)
  have e3 : en (nI a).toNatClampNeg = lh_hv (e a) := lh_rdH hn ha (by decide)
  have ca : (nI a).toNatClampNeg = a := nI_clamp (by omega)
  have b := hb.2 a
  have b2 := he a
  refine And.intro (pk_in a 6 ha) ?_
  rw [e1, e2, e3]
  cases d : t0 a with
  | true => exact br_f (by decide) (H0 (fun z => absurd (d.symm.trans z.2.2) (by decide)))
  | false =>
    refine br_t rfl ⟨pk_in a 6 ha, ?_⟩
    by_cases c : h a = t + 1
    · refine br_t ((lh_hv_eq _ (by omega) _ (by omega)).mpr c) ⟨pk_in a 6 ha, ?_⟩
      by_cases k : e a = 0
      · refine br_t ((lh_hv_m1 _ (by omega)).mpr k) ⟨pk_in a 6 ha, nm_r (e' := upd tk a (lh_bI true)) (by rw [ca, lh_nar1]) (H1 c k d _ ?_)⟩
        have M : lh_Ab 6 tk (lh_mk t0 []) := by rw [lh_mk_nil]; exact hm
        exact lh_Ab_mk M
      · exact br_f (fun z => k ((lh_hv_m1 _ (by omega)).mp z)) (H0 (fun z => k z.2.1))
    · exact br_f (fun z => c ((lh_hv_eq _ (by omega) _ (by omega)).mp z)) (H0 (fun z => c z.1))
theorem lh_x_at2 {post : Int32 → Prop} {h : Nat → Nat} {t0 : Nat → Bool} (hb : ∀ x, h x ≤ 6) (hx : lh_Ah 6 nx h) (hm : lh_Ab 6 tk t0) (H1 : (∀ g, g < 6 → h g ≠ 0 → t0 g = true) → post 1) (H0 : ¬ (∀ g, g < 6 → h g ≠ 0 → t0 g = true) → post 0) : ∀ (n i : Nat), 6 < n + i → i ≤ 6 → (∀ g, g < i → h g ≠ 0 → t0 g = true) → wX_allTaken_2 post fc cc ck cl cr pc pk pf pt g nx en pn pe fr tk n (nI i) := by
  intro n
  induction n with
  | zero => intro i h1 h2; omega
  | succ n ih =>
    intro i h1 h2 I
    rw [wX_allTaken_2]
    refine pk_le 6 i (fun z => H1 (fun g hg => I g (by omega))) (fun z => ⟨pk_in i 6 z, ?_⟩)
    have e1 : nx (nI i).toNatClampNeg = lh_hv (h i) := lh_rdH hx z (by decide)
    have e2 : tk (nI i).toNatClampNeg = lh_bI (t0 i) := lh_rdB hm z (by decide)
    have b := hb i
    have next : (h i ≠ 0 → t0 i = true) → wX_allTaken_2 post fc cc ck cl cr pc pk pf pt g nx en pn pe fr tk n (nI (i + 1)) := fun c => ih (i + 1) (by omega) (by omega) (fun j hj => by
      rcases lh_lt_s hj with y | y
      · exact I j y
      · rw [y]; exact c)
    rw [e1, e2]
    by_cases c : h i = 0
    · exact br_t ((lh_hv_m1 _ (by omega)).mpr c) (nm_r (nI_1 i) (next (fun y => absurd c y)))
    · refine br_f (fun y => c ((lh_hv_m1 _ (by omega)).mp y)) ⟨pk_in i 6 z, ?_⟩
      cases d : t0 i with
      | true => exact br_f (by decide) (nm_r (nI_1 i) (next (fun _ => d)))
      | false => exact br_t rfl (H0 (fun y => absurd (d.symm.trans (y i z c)) (by decide)))
theorem lh_x_at {post : Int32 → Prop} {h : Nat → Nat} {t0 : Nat → Bool} (hb : ∀ x, h x ≤ 6) (hx : lh_Ah 6 nx h) (hm : lh_Ab 6 tk t0) (H1 : (∀ g, g < 6 → h g ≠ 0 → t0 g = true) → post 1) (H0 : ¬ (∀ g, g < 6 → h g ≠ 0 → t0 g = true) → post 0) : wpX_allTaken post (fc, cc, ck, cl, cr, pc, pk, pf, pt, g, nx, en, pn, pe, fr, tk) :=
  Exists.intro 7 (lh_x_at2 hb hx hm H1 H0 7 0 (by omega) (by omega) (fun j hj => absurd hj (Nat.not_lt_zero j)))
theorem lh_x_fit33 {post : Int32 → SX → Prop} {b : Bool} {h e : Nat → Nat} (S : lh_St C W nc np cc ck cl cr pc pk pf pt) (hg : lh_A 6 g (lh_gf l)) (hl : ∀ a, lh_gf l a < 6) (hb : lh_bd 6 h) (he : ∀ x, e x ≤ 6) (hx : lh_Ah 6 nx h) (hn : lh_Ah 6 en e)
    (H1 : (∃ q, lh_fit h (fun x => e x = 0) (np 1) (lh_pa W 1 l) (lh_pt W 1 l) (lh_pk W 1) (b = true) q) → ∀ tk, post 1 (fc, cc, ck, cl, cr, pc, pk, pf, pt, g, nx, en, pn, pe, fr, tk)) (H0 : (¬ ∃ q, lh_fit h (fun x => e x = 0) (np 1) (lh_pa W 1 l) (lh_pt W 1 l) (lh_pk W 1) (b = true) q) → ∀ tk, post 0 (fc, cc, ck, cl, cr, pc, pk, pf, pt, g, nx, en, pn, pe, fr, tk)) :
    ∀ (n i : Nat) (tk : Nat → Int32) (t0 : Nat → Bool) (q : Nat → List Nat), np 1 < n + i → i ≤ np 1 → lh_pf h (fun x => e x = 0) i (lh_pa W 1 l) (lh_pt W 1 l) (lh_pk W 1) t0 q → lh_Ab 6 tk t0 → wX_claimOneFits_33 post (lh_bI b) n (nI i) fc cc ck cl cr pc pk pf pt g nx en pn pe fr tk := by
  obtain ⟨_, ⟨p1, p2, p3, p4⟩, _, hW, _, hnp⟩ := S
  have h6 := hnp 1
  intro n
  induction n with
  | zero => intro i tk t0 q h1 h2; omega
  | succ n ih =>
    intro i tk t0 q h1 h2 P M
    have hk : W (6 * 1 + i) ≤ 71 := hW _
    rw [wX_claimOneFits_33]
    refine pk_le (np 1) i (fun z => ?_) (fun z => ?_) (p1 1)
    · have ei : i = np 1 := by omega
      rw [ei] at P
      have PE := lh_pf_end (wh := b = true) P
      cases b with
      | false => exact br_t rfl (H1 (PE.mpr (fun y => absurd y (by decide))) tk)
      | true =>
        refine br_f (by decide) (lh_x_at (post := fun r_22 => (r_22 = 0 → post 0 (fc, cc, ck, cl, cr, pc, pk, pf, pt, g, nx, en, pn, pe, fr, tk)) ∧ (¬ r_22 = 0 → post 1 (fc, cc, ck, cl, cr, pc, pk, pf, pt, g, nx, en, pn, pe, fr, tk))) hb.2 hx M (fun y => br_f (by decide) (H1 (PE.mpr (fun _ g hg => y g (hb.1 g hg) hg)) tk)) (fun y => br_t rfl (H0 (fun w => y (fun g _ hg => PE.mp w rfl g hg)) tk)))
    · have e1 : pf (nI (6 * 1 + i)).toNatClampNeg = nI (W (6 * 1 + i) % 36 / 6) := lh_rdS p3 (by omega)
      have e2 : pt (nI (6 * 1 + i)).toNatClampNeg = nI (W (6 * 1 + i) % 6) := lh_rdS p4 (by omega)
      have e3 : pk (nI (6 * 1 + i)).toNatClampNeg = nI (W (6 * 1 + i) / 36) := lh_rdS p2 (by omega)
      have eL : g (pf (nI (6 * 1 + i)).toNatClampNeg).toNatClampNeg = nI (lh_pa W 1 l i) := by rw [e1]; exact lh_rdA hg (by omega) (by decide)
      have eR : g (pt (nI (6 * 1 + i)).toNatClampNeg).toNatClampNeg = nI (lh_pt W 1 l i) := by rw [e2]; exact lh_rdA hg (by omega) (by decide)
      have la : lh_pa W 1 l i < 6 := hl _
      have lt : lh_pt W 1 l i < 6 := hl _
      refine nm_r (e' := nI (6 * 1 + i)) (nI_add 6 i) ⟨pk_in (6 * 1 + i) 12 (by omega), ⟨by rw [e1]; exact vp_in_nI (by omega) (by decide), nm_r eL ⟨pk_in (6 * 1 + i) 12 (by omega), ⟨by rw [e2]; exact vp_in_nI (by omega) (by decide), nm_r eR ⟨pk_in (6 * 1 + i) 12 (by omega), ?_⟩⟩⟩⟩⟩
      rw [e3]
      have ok : ∀ (r : List Nat) (tk : Nat → Int32), lh_one h (fun x => e x = 0) (lh_pa W 1 l i) (lh_pt W 1 l i) (lh_pk W 1 i) t0 r → lh_Ab 6 tk (lh_mk t0 r) → wX_claimOneFits_103 post (wX_claimOneFits_33 post (lh_bI b) n) (lh_bI b) (nI i) 1 fc cc ck cl cr pc pk pf pt g nx en pn pe fr tk := fun r tk R M' => br_f (by decide) (nm_r (nI_1 i) (ih (i + 1) tk _ _ (by omega) (by omega) (lh_pf_step P R) M'))
      have no : (¬ ∃ r, lh_one h (fun x => e x = 0) (lh_pa W 1 l i) (lh_pt W 1 l i) (lh_pk W 1 i) t0 r) → ∀ tk, wX_claimOneFits_103 post (wX_claimOneFits_33 post (lh_bI b) n) (lh_bI b) (nI i) 0 fc cc ck cl cr pc pk pf pt g nx en pn pe fr tk := fun N tk => br_t rfl (H0 (lh_pf_fail P z N) tk)
      by_cases c : 36 ≤ W (6 * 1 + i)
      · rw [lh_pk_t c] at ok no
        exact br_t ((lh_k1 _ (by omega)).mpr c) (lh_x_tl la lt hb hx M (fun r tk w M' => ok r tk (lh_one_list.mpr w) M') (fun w tk => no (lh_no_one w) tk))
      · rw [lh_pk_f c] at ok no
        exact br_f (fun y => c ((lh_k1 _ (by omega)).mp y)) (lh_x_tc la lt hb he hx hn M (fun w1 w2 w3 tk M' => ok _ tk (lh_one_cell.mpr ⟨rfl, w1, w2, w3⟩) M') (fun w => no (fun ⟨r, R⟩ => w (lh_one_cell.mp R).2) tk))
theorem lh_x_fit12 {post : Int32 → SX → Prop} {x1 : Int32} (H : ∀ tk, lh_Ab 6 tk (fun _ => false) → ∃ m, wX_claimOneFits_33 post x1 m 0 fc cc ck cl cr pc pk pf pt g nx en pn pe fr tk) : ∀ (n i : Nat) (tk : Nat → Int32), 6 < n + i → i ≤ 6 → lh_Ab i tk (fun _ => false) → wX_claimOneFits_12 post x1 fc n (nI i) cc ck cl cr pc pk pf pt g nx en pn pe fr tk := by
  intro n
  induction n with
  | zero => intro i tk h1 h2; omega
  | succ n ih =>
    intro i tk h1 h2 M
    rw [wX_claimOneFits_12]
    refine pk_le 6 i (fun z => ?_) (fun z => ⟨pk_in i 6 z, nm_r (e' := upd tk i (lh_bI false)) (by rw [nI_clamp (by omega), lh_nar0]) (nm_r (nI_1 i) (ih (i + 1) _ (by omega) (by omega) (lh_Ab_s M)))⟩)
    have e : i = 6 := by omega
    rw [e] at M
    exact H tk M
theorem lh_x_fit {post : Int32 → SX → Prop} {b : Bool} {h e : Nat → Nat} (S : lh_St C W nc np cc ck cl cr pc pk pf pt) (hg : lh_A 6 g (lh_gf l)) (hl : ∀ a, lh_gf l a < 6) (hb : lh_bd 6 h) (he : ∀ x, e x ≤ 6) (hx : lh_Ah 6 nx h) (hn : lh_Ah 6 en e)
    (H1 : (lh_ch C nc 1 l ∧ ∃ q, lh_fit h (fun x => e x = 0) (np 1) (lh_pa W 1 l) (lh_pt W 1 l) (lh_pk W 1) (b = true) q) → ∀ tk, post 1 (fc, cc, ck, cl, cr, pc, pk, pf, pt, g, nx, en, pn, pe, fr, tk)) (H0 : ¬ (lh_ch C nc 1 l ∧ ∃ q, lh_fit h (fun x => e x = 0) (np 1) (lh_pa W 1 l) (lh_pt W 1 l) (lh_pk W 1) (b = true) q) → ∀ tk, post 0 (fc, cc, ck, cl, cr, pc, pk, pf, pt, g, nx, en, pn, pe, fr, tk)) : wpX_claimOneFits post (fc, cc, ck, cl, cr, pc, pk, pf, pt, g, nx, en, pn, pe, fr, tk) (lh_bI b) := by
  refine lh_x_ch (s := 1) (post := fun r_1 => (r_1 = 0 → post 0 (fc, cc, ck, cl, cr, pc, pk, pf, pt, g, nx, en, pn, pe, fr, tk)) ∧ (¬ r_1 = 0 → ∃ n12 : Nat, wX_claimOneFits_12 post (lh_bI b) fc n12 0 cc ck cl cr pc pk pf pt g nx en pn pe fr tk)) (by decide) S hg hl (fun c => br_f (by decide) ?_) (fun c => br_t rfl (H0 (fun z => c z.1) tk))
  exact ⟨7, lh_x_fit12 (fun tk M => ⟨np 1 + 1, lh_x_fit33 S hg hl hb he hx hn (fun w tk => H1 ⟨c, w⟩ tk) (fun w tk => H0 (fun z => w z.2) tk) (np 1 + 1) 0 tk (fun _ => false) (fun _ => []) (by omega) (by omega) lh_pf_0 M⟩) 7 0 tk (by omega) (by omega) (fun j hj => absurd hj (Nat.not_lt_zero j))⟩
theorem lh_x_every11 {post : Int32 → SX → Prop} {b : Bool} {K : Nat} {Fl : List Nat} (w : lh_wf l) (S : lh_St C W nc np cc ck cl cr pc pk pf pt) (hg : lh_A 6 g (lh_gf l)) (hK : Fl.length = K) (h6 : K ≤ 6) (hfr : lh_A K fr (fun j => Fl.getD j 0)) (F : lh_fr Fl 0 (lh_Q W np 0 l)) (hp : lh_Ah 6 pn (lh_H W np 0 l)) (hq : lh_Ah 6 pe (lh_Q W np 0 l))
    (H1 : lh_XF C W nc np (b = true) l Fl → ∀ nx en tk, post 1 (nI K, cc, ck, cl, cr, pc, pk, pf, pt, g, nx, en, pn, pe, fr, tk)) (H0 : ¬ lh_XF C W nc np (b = true) l Fl → ∀ nx en tk, post 0 (nI K, cc, ck, cl, cr, pc, pk, pf, pt, g, nx, en, pn, pe, fr, tk)) :
    ∀ (n r : Nat) (nx en tk : Nat → Int32), 6 ^ K < n + r → r ≤ 6 ^ K → (∀ j, j < r → ∀ h' e', lh_run (lh_gf l 5) ((lh_dig j Fl.length).zip Fl) (lh_H W np 0 l) (lh_Q W np 0 l) = some (h', e') → lh_ch C nc 1 l ∧ ∃ q, lh_fit h' (fun x => e' x = 0) (np 1) (lh_pa W 1 l) (lh_pt W 1 l) (lh_pk W 1) (b = true) q) → wX_everyRunFits_11 post (lh_bI b) (nI (6 ^ K)) n (nI r) (nI K) cc ck cl cr pc pk pf pt g nx en pn pe fr tk := by
  have p6 : 6 ^ K ≤ 46656 := Nat.pow_le_pow_right (n := 6) (by decide) h6
  intro n
  induction n with
  | zero => intro r nx en tk h1 h2; omega
  | succ n ih =>
    intro r nx en tk h1 h2 I
    rw [wX_everyRunFits_11]
    refine pk_le (6 ^ K) r (fun z => H1 ?_ nx en tk) (fun z => ?_)
    · intro r' hr'
      rw [hK] at hr'
      exact I r' (by omega)
    · refine lh_x_run hK h6 (w.2.1 5) (hg 5 (by decide)) hfr hp hq (by omega) ⟨fun x hx => lh_H_lt w hx, fun x => lh_H_le w x⟩ (fun x => lh_Q_le w x) F (fun h' e' nx en R B E X Y => br_f (by decide) ?_) (fun R nx en => br_t rfl (nm_r (nI_1 r) (ih (r + 1) nx en tk (by omega) (by omega) ?_)))
      · refine lh_x_fit S hg w.2.1 B E X Y (fun y tk => br_f (by decide) (nm_r (nI_1 r) (ih (r + 1) nx en tk (by omega) (by omega) ?_))) (fun y tk => br_t rfl (H0 (fun v => y (v r (by rw [hK]; exact z) h' e' (by rw [hK]; exact R))) nx en tk))
        intro j hj h2' e2' R'
        rcases lh_lt_s hj with v | v
        · exact I j v h2' e2' R'
        · rw [v, hK, R] at R'
          simp only [Option.some.injEq, Prod.mk.injEq] at R'
          rw [← R'.1, ← R'.2]; exact y
      · intro j hj h2' e2' R'
        rcases lh_lt_s hj with v | v
        · exact I j v h2' e2' R'
        · rw [v, hK, R] at R'
          exact absurd R' (by simp)
theorem lh_x_every {post : Int32 → SX → Prop} {b : Bool} (w : lh_wf l) (ok : lh_ok W np 0 l) (S : lh_St C W nc np cc ck cl cr pc pk pf pt) (hg : lh_A 6 g (lh_gf l)) (hx : lh_Ah 6 nx (lh_H W np 0 l)) (hn : lh_Ah 6 en (lh_Q W np 0 l))
    (H1 : lh_YF C W nc np (b = true) l → ∀ fc nx en pn pe fr tk, post 1 (fc, cc, ck, cl, cr, pc, pk, pf, pt, g, nx, en, pn, pe, fr, tk)) (H0 : ¬ lh_YF C W nc np (b = true) l → ∀ fc nx en pn pe fr tk, post 0 (fc, cc, ck, cl, cr, pc, pk, pf, pt, g, nx, en, pn, pe, fr, tk)) : wpX_everyRunFits post (fc, cc, ck, cl, cr, pc, pk, pf, pt, g, nx, en, pn, pe, fr, tk) (lh_bI b) := by
  refine lh_x_keep w hg (fun x => lh_H_le w x) (fun x => lh_Q_le w x) hx hn (fun anyL ha pn pe fr hp hq hf => ?_)
  have FF := lh_FF (C := C) (nc := nc) (wh := b = true) w ok ha
  have k6 : (lh_fl anyL (lh_gof l 6) (lh_gf l 5) (lh_H W np 0 l) 6).length ≤ 6 := lh_fl_len
  refine lh_x_runs k6 ⟨6 ^ (lh_fl anyL (lh_gof l 6) (lh_gf l 5) (lh_H W np 0 l) 6).length + 1, lh_x_every11 w S hg rfl k6 hf ⟨fun x hx => (lh_fl_mem.mp hx).1, lh_fl_nd, fun x hx => ?_⟩ hp hq (fun y nx en tk => H1 (FF.mp y) _ nx en pn pe fr tk) (fun y nx en tk => H0 (fun v => y (FF.mpr v)) _ nx en pn pe fr tk) _ 0 nx en tk (Nat.lt_succ_self _) (Nat.zero_le _) (fun j hj => absurd hj (Nat.not_lt_zero j))⟩
  have m := (lh_fl_mem.mp hx).2.2.2.2
  by_cases z : lh_Q W np 0 l x = 0
  · exact z
  · have q := (lh_Q_H ok z).1
    rw [m] at q
    exact q.symm
end
end
section
/-! THE COMPONENT: the loops over the divisions -/
def lh_oI : Option Nat → Int32
  | none => -3
  | some m => nI m
theorem lh_oI_n : ∀ m, m < 8 → ¬ nI m = -3 := by decide +kernel
theorem lh_oI_l : ∀ m, m < 8 → ¬ nI m ≤ -3 := by decide +kernel
def lh_cc (W np : Nat → Nat) (s : Nat) (l : List Nat) : Nat := lh_cl (lh_H W np s l) 6
theorem lh_cc_le {W np : Nat → Nat} {s : Nat} {l : List Nat} : lh_cc W np s l ≤ 6 := lh_cl_le 6
def lh_tg (C W nc np : Nat → Nat) (l : List Nat) : Prop := lh_ch C nc 1 l ∧ lh_B C W nc np 0 l ∧ lh_oks (lh_H W np 0 l) (lh_gf l 5) (lh_pa W 1 l) (lh_pt W 1 l) (lh_pk W 1) (np 1)
theorem lh_ss {i : Nat} {P : List Nat → Prop} (I : ∀ j, j < i → P (lh_D j)) (p : P (lh_D i)) : ∀ j, j < i + 1 → P (lh_D j) := by
  intro j hj
  rcases lh_lt_s hj with y | y
  · exact I j y
  · rw [y]; exact p
section
variable {fc : Int32} {cc ck cl cr pc pk pf pt g nx en pn pe fr tk : Nat → Int32} {C W nc np : Nat → Nat} {l : List Nat}
theorem lh_x_div17 {post : Int32 → SX → Prop} {s : Nat} (hs : s < 2) (S : lh_St C W nc np cc ck cl cr pc pk pf pt) (H : ∀ (fc : Int32) (g nx en pn pe fr tk : Nat → Int32), post (nI (lh_ct lh_D (lh_Bb (lh_B C W nc np s)) 203)) (fc, cc, ck, cl, cr, pc, pk, pf, pt, g, nx, en, pn, pe, fr, tk)) :
    ∀ (n i : Nat) (fc : Int32) (g nx en pn pe fr tk : Nat → Int32), 203 < n + i → i ≤ 203 → lh_A 6 g (lh_gf (lh_D i)) → wX_divisions_17 post (nI s) n (nI (lh_ct lh_D (lh_Bb (lh_B C W nc np s)) i)) (nI i) fc cc ck cl cr pc pk pf pt g nx en pn pe fr tk := by
  intro n
  induction n with
  | zero => intro i fc g nx en pn pe fr tk h1 h2; omega
  | succ n ih =>
    intro i fc g nx en pn pe fr tk h1 h2 hg
    rw [wX_divisions_17]
    refine pk_le 203 i (fun z => ?_) (fun z => ?_)
    · have e : i = 203 := by omega
      rw [e]; exact H fc g nx en pn pe fr tk
    · have w := lh_D_wf z
      refine lh_x_build hs S hg w.2.1 (fun B nx en X E => br_f (by decide) (nm_r (nI_1 _) ?_)) (fun B nx en => br_t rfl ?_)
      · refine lh_x_next (lh_D_len i) w.2.1 hg (fun g hg' => nm_r (nI_1 i) ?_)
        have q := ih (i + 1) fc g nx en pn pe fr tk (by omega) (by omega) hg'
        rw [lh_ct_t B] at q
        exact q
      · refine lh_x_next (lh_D_len i) w.2.1 hg (fun g hg' => nm_r (nI_1 i) ?_)
        have q := ih (i + 1) fc g nx en pn pe fr tk (by omega) (by omega) hg'
        rw [lh_ct_f B] at q
        exact q
theorem lh_x_div {post : Int32 → SX → Prop} {x : Int32} (S : lh_St C W nc np cc ck cl cr pc pk pf pt) (H1 : ∀ s, s < 2 → x = nI s → ∀ (fc : Int32) (g nx en pn pe fr tk : Nat → Int32), post (nI (lh_ct lh_D (lh_Bb (lh_B C W nc np s)) 203)) (fc, cc, ck, cl, cr, pc, pk, pf, pt, g, nx, en, pn, pe, fr, tk)) (H0 : (¬ ∃ s, s < 2 ∧ x = nI s) → post (-1) (fc, cc, ck, cl, cr, pc, pk, pf, pt, g, nx, en, pn, pe, fr, tk)) : wpX_divisions post (fc, cc, ck, cl, cr, pc, pk, pf, pt, g, nx, en, pn, pe, fr, tk) x := by
  refine lh_x_claim (post := fun r_1 => (r_1 = 0 → post (-1) (fc, cc, ck, cl, cr, pc, pk, pf, pt, g, nx, en, pn, pe, fr, tk)) ∧ (¬ r_1 = 0 → wpX_firstDivision (fun u => match u with | (f1, c1, c2, c3, c4, c5, c6, c7, c8, c9, d1, d2, d3, d4, d5, d6) => ∃ n17 : Nat, wX_divisions_17 post x n17 0 0 f1 c1 c2 c3 c4 c5 c6 c7 c8 c9 d1 d2 d3 d4 d5 d6) (fc, cc, ck, cl, cr, pc, pk, pf, pt, g, nx, en, pn, pe, fr, tk))) (fun s hs e => br_f (by decide) ?_) (fun h => br_t rfl (H0 h))
  subst e
  exact lh_x_first (fun g hg => ⟨204, lh_x_div17 hs S (H1 s hs rfl) 204 0 fc g nx en pn pe fr tk (by omega) (by omega) hg⟩)
theorem lh_x_as30 {post : Int32 → SX → Prop} {s a b : Nat} (hs : s < 2) (ha : a < 6) (hb : b < 6) (S : lh_St C W nc np cc ck cl cr pc pk pf pt) (H1 : (∀ i, i < 203 → (fun l => lh_gf l a ≠ lh_gf l b → ¬ lh_B C W nc np s l) (lh_D i)) → ∀ (fc : Int32) (g nx en pn pe fr tk : Nat → Int32), post 1 (fc, cc, ck, cl, cr, pc, pk, pf, pt, g, nx, en, pn, pe, fr, tk)) (H0 : (¬ ∀ i, i < 203 → (fun l => lh_gf l a ≠ lh_gf l b → ¬ lh_B C W nc np s l) (lh_D i)) → ∀ (fc : Int32) (g nx en pn pe fr tk : Nat → Int32), post 0 (fc, cc, ck, cl, cr, pc, pk, pf, pt, g, nx, en, pn, pe, fr, tk)) :
    ∀ (n i : Nat) (fc : Int32) (g nx en pn pe fr tk : Nat → Int32), 203 < n + i → i ≤ 203 → lh_A 6 g (lh_gf (lh_D i)) → (∀ j, j < i → (fun l => lh_gf l a ≠ lh_gf l b → ¬ lh_B C W nc np s l) (lh_D j)) → wX_alwaysSame_30 post (nI s) (nI a) (nI b) n (nI i) fc cc ck cl cr pc pk pf pt g nx en pn pe fr tk := by
  intro n
  induction n with
  | zero => intro i fc g nx en pn pe fr tk h1 h2; omega
  | succ n ih =>
    intro i fc g nx en pn pe fr tk h1 h2 hg I
    rw [wX_alwaysSame_30]
    refine pk_le 203 i (fun z => ?_) (fun z => ?_)
    · have e : i = 203 := by omega
      rw [e] at I; exact H1 I fc g nx en pn pe fr tk
    · have w := lh_D_wf z
      have next : (fun l => lh_gf l a ≠ lh_gf l b → ¬ lh_B C W nc np s l) (lh_D i) → ∀ (fc : Int32) (g nx en pn pe fr tk : Nat → Int32), lh_A 6 g (lh_gf (lh_D i)) → wX_alwaysSame_63 post (wX_alwaysSame_30 post (nI s) (nI a) (nI b) n) (nI s) (nI a) (nI b) (nI i) fc cc ck cl cr pc pk pf pt g nx en pn pe fr tk := fun p fc g nx en pn pe fr tk hg => lh_x_next (lh_D_len i) w.2.1 hg (fun g hg' => nm_r (nI_1 i) (ih (i + 1) fc g nx en pn pe fr tk (by omega) (by omega) hg' (lh_ss (P := fun l => lh_gf l a ≠ lh_gf l b → ¬ lh_B C W nc np s l) I p)))
      have eA : g (nI a).toNatClampNeg = nI (lh_gf (lh_D i) a) := lh_rdA hg ha (by decide)
      have eB : g (nI b).toNatClampNeg = nI (lh_gf (lh_D i) b) := lh_rdA hg hb (by decide)
      have la := w.2.1 a
      have lb := w.2.1 b
      refine ⟨pk_in a 6 ha, pk_in b 6 hb, ?_⟩
      rw [eA, eB]
      refine pk_eq (lh_gf (lh_D i) a) (lh_gf (lh_D i) b) (fun q => next (fun y => absurd q y) fc g nx en pn pe fr tk hg) (fun q => ?_)
      exact lh_x_build hs S hg w.2.1 (fun B nx en X E => br_f (by decide) (H0 (fun y => y i z q B) fc g nx en pn pe fr tk)) (fun B nx en => br_t rfl (next (fun _ => B) fc g nx en pn pe fr tk hg))
theorem lh_x_ns30 {post : Int32 → SX → Prop} {s a b : Nat} (hs : s < 2) (ha : a < 6) (hb : b < 6) (S : lh_St C W nc np cc ck cl cr pc pk pf pt) (H1 : (∀ i, i < 203 → (fun l => lh_gf l a = lh_gf l b → ¬ lh_B C W nc np s l) (lh_D i)) → ∀ (fc : Int32) (g nx en pn pe fr tk : Nat → Int32), post 1 (fc, cc, ck, cl, cr, pc, pk, pf, pt, g, nx, en, pn, pe, fr, tk)) (H0 : (¬ ∀ i, i < 203 → (fun l => lh_gf l a = lh_gf l b → ¬ lh_B C W nc np s l) (lh_D i)) → ∀ (fc : Int32) (g nx en pn pe fr tk : Nat → Int32), post 0 (fc, cc, ck, cl, cr, pc, pk, pf, pt, g, nx, en, pn, pe, fr, tk)) :
    ∀ (n i : Nat) (fc : Int32) (g nx en pn pe fr tk : Nat → Int32), 203 < n + i → i ≤ 203 → lh_A 6 g (lh_gf (lh_D i)) → (∀ j, j < i → (fun l => lh_gf l a = lh_gf l b → ¬ lh_B C W nc np s l) (lh_D j)) → wX_neverSame_30 post (nI s) (nI a) (nI b) n (nI i) fc cc ck cl cr pc pk pf pt g nx en pn pe fr tk := by
  intro n
  induction n with
  | zero => intro i fc g nx en pn pe fr tk h1 h2; omega
  | succ n ih =>
    intro i fc g nx en pn pe fr tk h1 h2 hg I
    rw [wX_neverSame_30]
    refine pk_le 203 i (fun z => ?_) (fun z => ?_)
    · have e : i = 203 := by omega
      rw [e] at I; exact H1 I fc g nx en pn pe fr tk
    · have w := lh_D_wf z
      have next : (fun l => lh_gf l a = lh_gf l b → ¬ lh_B C W nc np s l) (lh_D i) → ∀ (fc : Int32) (g nx en pn pe fr tk : Nat → Int32), lh_A 6 g (lh_gf (lh_D i)) → wX_neverSame_63 post (wX_neverSame_30 post (nI s) (nI a) (nI b) n) (nI s) (nI a) (nI b) (nI i) fc cc ck cl cr pc pk pf pt g nx en pn pe fr tk := fun p fc g nx en pn pe fr tk hg => lh_x_next (lh_D_len i) w.2.1 hg (fun g hg' => nm_r (nI_1 i) (ih (i + 1) fc g nx en pn pe fr tk (by omega) (by omega) hg' (lh_ss (P := fun l => lh_gf l a = lh_gf l b → ¬ lh_B C W nc np s l) I p)))
      have eA : g (nI a).toNatClampNeg = nI (lh_gf (lh_D i) a) := lh_rdA hg ha (by decide)
      have eB : g (nI b).toNatClampNeg = nI (lh_gf (lh_D i) b) := lh_rdA hg hb (by decide)
      have la := w.2.1 a
      have lb := w.2.1 b
      refine ⟨pk_in a 6 ha, pk_in b 6 hb, ?_⟩
      rw [eA, eB]
      refine pk_eq (lh_gf (lh_D i) a) (lh_gf (lh_D i) b) (fun q => ?_) (fun q => next (fun y => absurd y q) fc g nx en pn pe fr tk hg)
      exact lh_x_build hs S hg w.2.1 (fun B nx en X E => br_f (by decide) (H0 (fun y => y i z q B) fc g nx en pn pe fr tk)) (fun B nx en => br_t rfl (next (fun _ => B) fc g nx en pn pe fr tk hg))
theorem lh_x_held22 {post : Int32 → SX → Prop} {s a : Nat} (hs : s < 2) (ha : a < 6) (S : lh_St C W nc np cc ck cl cr pc pk pf pt) (H1 : (∀ i, i < 203 → (fun l => lh_B C W nc np s l → lh_H W np s l (lh_gf l a) ≠ 0) (lh_D i)) → ∀ (fc : Int32) (g nx en pn pe fr tk : Nat → Int32), post 1 (fc, cc, ck, cl, cr, pc, pk, pf, pt, g, nx, en, pn, pe, fr, tk)) (H0 : (¬ ∀ i, i < 203 → (fun l => lh_B C W nc np s l → lh_H W np s l (lh_gf l a) ≠ 0) (lh_D i)) → ∀ (fc : Int32) (g nx en pn pe fr tk : Nat → Int32), post 0 (fc, cc, ck, cl, cr, pc, pk, pf, pt, g, nx, en, pn, pe, fr, tk)) :
    ∀ (n i : Nat) (fc : Int32) (g nx en pn pe fr tk : Nat → Int32), 203 < n + i → i ≤ 203 → lh_A 6 g (lh_gf (lh_D i)) → (∀ j, j < i → (fun l => lh_B C W nc np s l → lh_H W np s l (lh_gf l a) ≠ 0) (lh_D j)) → wX_held_22 post (nI s) (nI a) n (nI i) fc cc ck cl cr pc pk pf pt g nx en pn pe fr tk := by
  intro n
  induction n with
  | zero => intro i fc g nx en pn pe fr tk h1 h2; omega
  | succ n ih =>
    intro i fc g nx en pn pe fr tk h1 h2 hg I
    rw [wX_held_22]
    refine pk_le 203 i (fun z => ?_) (fun z => ?_)
    · have e : i = 203 := by omega
      rw [e] at I; exact H1 I fc g nx en pn pe fr tk
    · have w := lh_D_wf z
      have next : (fun l => lh_B C W nc np s l → lh_H W np s l (lh_gf l a) ≠ 0) (lh_D i) → ∀ (fc : Int32) (g nx en pn pe fr tk : Nat → Int32), lh_A 6 g (lh_gf (lh_D i)) → wX_held_54 post (wX_held_22 post (nI s) (nI a) n) (nI s) (nI a) (nI i) fc cc ck cl cr pc pk pf pt g nx en pn pe fr tk := fun p fc g nx en pn pe fr tk hg => lh_x_next (lh_D_len i) w.2.1 hg (fun g hg' => nm_r (nI_1 i) (ih (i + 1) fc g nx en pn pe fr tk (by omega) (by omega) hg' (lh_ss (P := fun l => lh_B C W nc np s l → lh_H W np s l (lh_gf l a) ≠ 0) I p)))
      have eA : g (nI a).toNatClampNeg = nI (lh_gf (lh_D i) a) := lh_rdA hg ha (by decide)
      have la := w.2.1 a
      refine lh_x_build hs S hg w.2.1 (fun B nx en X E => br_f (by decide) ⟨pk_in a 6 ha, ?_⟩) (fun B nx en => br_t rfl (next (fun y => absurd y B) fc g nx en pn pe fr tk hg))
      have e1 : nx (nI (lh_gf (lh_D i) a)).toNatClampNeg = lh_hv (lh_H W np s (lh_D i) (lh_gf (lh_D i) a)) := lh_rdH X la (by decide)
      have b := lh_H_le (W := W) (np := np) (s := s) w (lh_gf (lh_D i) a)
      rw [eA, e1]
      refine ⟨pk_in _ 6 la, ?_⟩
      by_cases c : lh_H W np s (lh_D i) (lh_gf (lh_D i) a) = 0
      · exact br_t ((lh_hv_m1 _ (by omega)).mpr c) (H0 (fun y => y i z B c) fc g nx en pn pe fr tk)
      · exact br_f (fun y => c ((lh_hv_m1 _ (by omega)).mp y)) (next (fun _ => c) fc g nx en pn pe fr tk hg)
theorem lh_x_reach30 {post : Int32 → SX → Prop} {s a b : Nat} (hs : s < 2) (ha : a < 6) (hb : b < 6) (S : lh_St C W nc np cc ck cl cr pc pk pf pt) (H1 : (∀ i, i < 203 → (fun l => lh_B C W nc np s l → ∃ q, lh_pth (lh_H W np s l) (lh_gf l b) (lh_gf l a) q) (lh_D i)) → ∀ (fc : Int32) (g nx en pn pe fr tk : Nat → Int32), post 1 (fc, cc, ck, cl, cr, pc, pk, pf, pt, g, nx, en, pn, pe, fr, tk)) (H0 : (¬ ∀ i, i < 203 → (fun l => lh_B C W nc np s l → ∃ q, lh_pth (lh_H W np s l) (lh_gf l b) (lh_gf l a) q) (lh_D i)) → ∀ (fc : Int32) (g nx en pn pe fr tk : Nat → Int32), post 0 (fc, cc, ck, cl, cr, pc, pk, pf, pt, g, nx, en, pn, pe, fr, tk)) :
    ∀ (n i : Nat) (fc : Int32) (g nx en pn pe fr tk : Nat → Int32), 203 < n + i → i ≤ 203 → lh_A 6 g (lh_gf (lh_D i)) → (∀ j, j < i → (fun l => lh_B C W nc np s l → ∃ q, lh_pth (lh_H W np s l) (lh_gf l b) (lh_gf l a) q) (lh_D j)) → wX_reaches_30 post (nI s) (nI a) (nI b) n (nI i) fc cc ck cl cr pc pk pf pt g nx en pn pe fr tk := by
  intro n
  induction n with
  | zero => intro i fc g nx en pn pe fr tk h1 h2; omega
  | succ n ih =>
    intro i fc g nx en pn pe fr tk h1 h2 hg I
    rw [wX_reaches_30]
    refine pk_le 203 i (fun z => ?_) (fun z => ?_)
    · have e : i = 203 := by omega
      rw [e] at I; exact H1 I fc g nx en pn pe fr tk
    · have w := lh_D_wf z
      have next : (fun l => lh_B C W nc np s l → ∃ q, lh_pth (lh_H W np s l) (lh_gf l b) (lh_gf l a) q) (lh_D i) → ∀ (fc : Int32) (g nx en pn pe fr tk : Nat → Int32), lh_A 6 g (lh_gf (lh_D i)) → wX_reaches_67 post (wX_reaches_30 post (nI s) (nI a) (nI b) n) (nI s) (nI a) (nI b) (nI i) fc cc ck cl cr pc pk pf pt g nx en pn pe fr tk := fun p fc g nx en pn pe fr tk hg => lh_x_next (lh_D_len i) w.2.1 hg (fun g hg' => nm_r (nI_1 i) (ih (i + 1) fc g nx en pn pe fr tk (by omega) (by omega) hg' (lh_ss (P := fun l => lh_B C W nc np s l → ∃ q, lh_pth (lh_H W np s l) (lh_gf l b) (lh_gf l a) q) I p)))
      have eA : g (nI a).toNatClampNeg = nI (lh_gf (lh_D i) a) := lh_rdA hg ha (by decide)
      have eB : g (nI b).toNatClampNeg = nI (lh_gf (lh_D i) b) := lh_rdA hg hb (by decide)
      have la := w.2.1 a
      have lb := w.2.1 b
      refine lh_x_build hs S hg w.2.1 (fun B nx en X E => br_f (by decide) ⟨pk_in a 6 ha, pk_in b 6 hb, ?_⟩) (fun B nx en => br_t rfl (next (fun y => absurd y B) fc g nx en pn pe fr tk hg))
      rw [eA, eB]
      exact lh_x_leads la lb ⟨fun x hx => lh_H_lt w hx, fun x => lh_H_le w x⟩ X (fun y => br_f (by decide) (next (fun _ => y) fc g nx en pn pe fr tk hg)) (fun y => br_t rfl (H0 (fun v => y (v i z B)) fc g nx en pn pe fr tk))
theorem lh_x_model6 {post : Int32 → SX → Prop} {b : Bool}  (S : lh_St C W nc np cc ck cl cr pc pk pf pt) (H1 : (∀ i, i < 203 → (fun l => lh_B C W nc np 0 l → lh_YF C W nc np (b = true) l) (lh_D i)) → ∀ (fc : Int32) (g nx en pn pe fr tk : Nat → Int32), post 1 (fc, cc, ck, cl, cr, pc, pk, pf, pt, g, nx, en, pn, pe, fr, tk)) (H0 : (¬ ∀ i, i < 203 → (fun l => lh_B C W nc np 0 l → lh_YF C W nc np (b = true) l) (lh_D i)) → ∀ (fc : Int32) (g nx en pn pe fr tk : Nat → Int32), post 0 (fc, cc, ck, cl, cr, pc, pk, pf, pt, g, nx, en, pn, pe, fr, tk)) :
    ∀ (n i : Nat) (fc : Int32) (g nx en pn pe fr tk : Nat → Int32), 203 < n + i → i ≤ 203 → lh_A 6 g (lh_gf (lh_D i)) → (∀ j, j < i → (fun l => lh_B C W nc np 0 l → lh_YF C W nc np (b = true) l) (lh_D j)) → wX_everyModelFits_6 post (lh_bI b) n (nI i) fc cc ck cl cr pc pk pf pt g nx en pn pe fr tk := by
  intro n
  induction n with
  | zero => intro i fc g nx en pn pe fr tk h1 h2; omega
  | succ n ih =>
    intro i fc g nx en pn pe fr tk h1 h2 hg I
    rw [wX_everyModelFits_6]
    refine pk_le 203 i (fun z => ?_) (fun z => ?_)
    · have e : i = 203 := by omega
      rw [e] at I; exact H1 I fc g nx en pn pe fr tk
    · have w := lh_D_wf z
      have next : (fun l => lh_B C W nc np 0 l → lh_YF C W nc np (b = true) l) (lh_D i) → ∀ (fc : Int32) (g nx en pn pe fr tk : Nat → Int32), lh_A 6 g (lh_gf (lh_D i)) → wX_everyModelFits_31 post (wX_everyModelFits_6 post (lh_bI b) n) (lh_bI b) (nI i) fc cc ck cl cr pc pk pf pt g nx en pn pe fr tk := fun p fc g nx en pn pe fr tk hg => lh_x_next (lh_D_len i) w.2.1 hg (fun g hg' => nm_r (nI_1 i) (ih (i + 1) fc g nx en pn pe fr tk (by omega) (by omega) hg' (lh_ss (P := fun l => lh_B C W nc np 0 l → lh_YF C W nc np (b = true) l) I p)))
      refine lh_x_build (s := 0) (by decide) S hg w.2.1 (fun B nx en X E => br_f (by decide) ?_) (fun B nx en => br_t rfl (next (fun y => absurd y B) fc g nx en pn pe fr tk hg))
      exact lh_x_every w B.2 S hg X E (fun y fc nx en pn pe fr tk => br_f (by decide) (next (fun _ => y) fc g nx en pn pe fr tk hg)) (fun y fc nx en pn pe fr tk => br_t rfl (H0 (fun v => y (v i z B)) fc g nx en pn pe fr tk))
theorem lh_x_tog6 {post : Int32 → SX → Prop}   (S : lh_St C W nc np cc ck cl cr pc pk pf pt) (H1 : (∀ i, i < 203 → (fun l => ¬ lh_tg C W nc np l) (lh_D i)) → ∀ (fc : Int32) (g nx en pn pe fr tk : Nat → Int32), post 0 (fc, cc, ck, cl, cr, pc, pk, pf, pt, g, nx, en, pn, pe, fr, tk)) (H0 : (¬ ∀ i, i < 203 → (fun l => ¬ lh_tg C W nc np l) (lh_D i)) → ∀ (fc : Int32) (g nx en pn pe fr tk : Nat → Int32), post 1 (fc, cc, ck, cl, cr, pc, pk, pf, pt, g, nx, en, pn, pe, fr, tk)) :
    ∀ (n i : Nat) (fc : Int32) (g nx en pn pe fr tk : Nat → Int32), 203 < n + i → i ≤ 203 → lh_A 6 g (lh_gf (lh_D i)) → (∀ j, j < i → (fun l => ¬ lh_tg C W nc np l) (lh_D j)) → wX_together_6 post n (nI i) fc cc ck cl cr pc pk pf pt g nx en pn pe fr tk := by
  intro n
  induction n with
  | zero => intro i fc g nx en pn pe fr tk h1 h2; omega
  | succ n ih =>
    intro i fc g nx en pn pe fr tk h1 h2 hg I
    rw [wX_together_6]
    refine pk_le 203 i (fun z => ?_) (fun z => ?_)
    · have e : i = 203 := by omega
      rw [e] at I; exact H1 I fc g nx en pn pe fr tk
    · have w := lh_D_wf z
      have next : (fun l => ¬ lh_tg C W nc np l) (lh_D i) → ∀ (fc : Int32) (g nx en pn pe fr tk : Nat → Int32), lh_A 6 g (lh_gf (lh_D i)) → wX_together_39 post (wX_together_6 post n) (nI i) fc cc ck cl cr pc pk pf pt g nx en pn pe fr tk := fun p fc g nx en pn pe fr tk hg => lh_x_next (lh_D_len i) w.2.1 hg (fun g hg' => nm_r (nI_1 i) (ih (i + 1) fc g nx en pn pe fr tk (by omega) (by omega) hg' (lh_ss (P := fun l => ¬ lh_tg C W nc np l) I p)))
      refine lh_x_ch (s := 1) (by decide) S hg w.2.1 (fun c => br_f (by decide) ?_) (fun c => br_t rfl (next (fun y => c y.1) fc g nx en pn pe fr tk hg))
      refine lh_x_build (s := 0) (by decide) S hg w.2.1 (fun B nx en X E => br_f (by decide) ?_) (fun B nx en => br_t rfl (next (fun y => B y.2.1) fc g nx en pn pe fr tk hg))
      exact lh_x_add (s := 1) (by decide) S hg w.2.1 (fun x => lh_H_le w x) X E (fun o nx en _ _ => br_f (by decide) (H0 (fun v => v i z ⟨c, B, o⟩) fc g nx en pn pe fr tk)) (fun o nx en => br_t rfl (next (fun y => o y.2.2) fc g nx en pn pe fr tk hg))
theorem lh_x_least18 {post : Int32 → SX → Prop} {s : Nat} (hs : s < 2) (S : lh_St C W nc np cc ck cl cr pc pk pf pt) (H : ∀ o, lh_mn (lh_B C W nc np s) (lh_cc W np s) lh_D 203 o → ∀ (fc : Int32) (g nx en pn pe fr tk : Nat → Int32), post (lh_oI o) (fc, cc, ck, cl, cr, pc, pk, pf, pt, g, nx, en, pn, pe, fr, tk)) :
    ∀ (n i : Nat) (o : Option Nat) (fc : Int32) (g nx en pn pe fr tk : Nat → Int32), 203 < n + i → i ≤ 203 → lh_A 6 g (lh_gf (lh_D i)) → lh_mn (lh_B C W nc np s) (lh_cc W np s) lh_D i o → (∀ m, o = some m → m ≤ 6) → wX_least_18 post (nI s) n (lh_oI o) (nI i) fc cc ck cl cr pc pk pf pt g nx en pn pe fr tk := by
  intro n
  induction n with
  | zero => intro i o fc g nx en pn pe fr tk h1 h2; omega
  | succ n ih =>
    intro i o fc g nx en pn pe fr tk h1 h2 hg I b
    rw [wX_least_18]
    refine pk_le 203 i (fun z => ?_) (fun z => ?_)
    · have e : i = 203 := by omega
      rw [e] at I; exact H o I fc g nx en pn pe fr tk
    · have w := lh_D_wf z
      have c6 : lh_cc W np s (lh_D i) ≤ 6 := lh_cc_le
      have next : ∀ o', lh_mn (lh_B C W nc np s) (lh_cc W np s) lh_D (i + 1) o' → (∀ m, o' = some m → m ≤ 6) → ∀ (fc : Int32) (g nx en pn pe fr tk : Nat → Int32), lh_A 6 g (lh_gf (lh_D i)) → wX_least_54 post (wX_least_18 post (nI s) n) (nI s) (lh_oI o') (nI i) fc cc ck cl cr pc pk pf pt g nx en pn pe fr tk := fun o' I' b' fc g nx en pn pe fr tk hg => lh_x_next (lh_D_len i) w.2.1 hg (fun g hg' => nm_r (nI_1 i) (ih (i + 1) o' fc g nx en pn pe fr tk (by omega) (by omega) hg' I' b'))
      refine lh_x_build hs S hg w.2.1 (fun B nx en X E => br_f (by decide) ?_) (fun B nx en => br_t rfl (next o (lh_mn_no I B) b fc g nx en pn pe fr tk hg))
      have nw : (∀ m, o = some m → lh_cc W np s (lh_D i) < m) → wX_least_51 post (wX_least_18 post (nI s) n) (nI s) (nI i) (nI (lh_cc W np s (lh_D i))) fc cc ck cl cr pc pk pf pt g nx en pn pe fr tk := fun lt => next (some (lh_cc W np s (lh_D i))) (lh_mn_new I B lt) (fun m e => by cases e; exact c6) fc g nx en pn pe fr tk hg
      refine lh_x_cells (h := lh_H W np s (lh_D i)) (fun x => lh_H_le w x) X ?_
      cases o with
      | none => exact br_t rfl (nw (fun m e => nomatch e))
      | some m =>
        have bm := b m rfl
        exact br_f (lh_oI_n m (by omega)) (pk_le m (lh_cc W np s (lh_D i)) (fun q => next (some m) (lh_mn_old I q) b fc g nx en pn pe fr tk hg) (fun q => nw (fun m' e => by cases e; exact q)))
theorem lh_x_most18 {post : Int32 → SX → Prop} {s : Nat} (hs : s < 2) (S : lh_St C W nc np cc ck cl cr pc pk pf pt) (H : (∀ i, i < 203 → (fun l => lh_B C W nc np s l → ¬ lh_any6 (lh_Q W np s l)) (lh_D i)) → ∀ o, lh_mx (lh_B C W nc np s) (lh_cc W np s) lh_D 203 o → ∀ (fc : Int32) (g nx en pn pe fr tk : Nat → Int32), post (lh_oI o) (fc, cc, ck, cl, cr, pc, pk, pf, pt, g, nx, en, pn, pe, fr, tk)) (H0 : (¬ ∀ i, i < 203 → (fun l => lh_B C W nc np s l → ¬ lh_any6 (lh_Q W np s l)) (lh_D i)) → ∀ (fc : Int32) (g nx en pn pe fr tk : Nat → Int32), post (-3) (fc, cc, ck, cl, cr, pc, pk, pf, pt, g, nx, en, pn, pe, fr, tk)) :
    ∀ (n i : Nat) (o : Option Nat) (fc : Int32) (g nx en pn pe fr tk : Nat → Int32), 203 < n + i → i ≤ 203 → lh_A 6 g (lh_gf (lh_D i)) → (∀ j, j < i → (fun l => lh_B C W nc np s l → ¬ lh_any6 (lh_Q W np s l)) (lh_D j)) → lh_mx (lh_B C W nc np s) (lh_cc W np s) lh_D i o → (∀ m, o = some m → m ≤ 6) → wX_most_18 post (nI s) n (lh_oI o) (nI i) fc cc ck cl cr pc pk pf pt g nx en pn pe fr tk := by
  intro n
  induction n with
  | zero => intro i o fc g nx en pn pe fr tk h1 h2; omega
  | succ n ih =>
    intro i o fc g nx en pn pe fr tk h1 h2 hg N I b
    rw [wX_most_18]
    refine pk_le 203 i (fun z => ?_) (fun z => ?_)
    · have e : i = 203 := by omega
      rw [e] at I N; exact H N o I fc g nx en pn pe fr tk
    · have w := lh_D_wf z
      have c6 : lh_cc W np s (lh_D i) ≤ 6 := lh_cc_le
      have next : (lh_B C W nc np s (lh_D i) → ¬ lh_any6 (lh_Q W np s (lh_D i))) → ∀ o', lh_mx (lh_B C W nc np s) (lh_cc W np s) lh_D (i + 1) o' → (∀ m, o' = some m → m ≤ 6) → ∀ (fc : Int32) (g nx en pn pe fr tk : Nat → Int32), lh_A 6 g (lh_gf (lh_D i)) → wX_most_58 post (wX_most_18 post (nI s) n) (nI s) (lh_oI o') (nI i) fc cc ck cl cr pc pk pf pt g nx en pn pe fr tk := fun p o' I' b' fc g nx en pn pe fr tk hg => lh_x_next (lh_D_len i) w.2.1 hg (fun g hg' => nm_r (nI_1 i) (ih (i + 1) o' fc g nx en pn pe fr tk (by omega) (by omega) hg' (lh_ss (P := fun l => lh_B C W nc np s l → ¬ lh_any6 (lh_Q W np s l)) N p) I' b'))
      refine lh_x_build hs S hg w.2.1 (fun B nx en X E => br_f (by decide) ?_) (fun B nx en => br_t rfl (next (fun y => absurd y B) o (lh_mx_no I B) b fc g nx en pn pe fr tk hg))
      refine lh_x_hasl (fun x => lh_Q_le w x) E (fun a => br_f (by decide) (H0 (fun y => y i z B a) fc g nx en pn pe fr tk)) (fun a => br_t rfl ?_)
      have nw : (∀ m, o = some m → m < lh_cc W np s (lh_D i)) → wX_most_58 post (wX_most_18 post (nI s) n) (nI s) (nI (lh_cc W np s (lh_D i))) (nI i) fc cc ck cl cr pc pk pf pt g nx en pn pe fr tk := fun lt => next (fun _ => a) (some (lh_cc W np s (lh_D i))) (lh_mx_new I B lt) (fun m e => by cases e; exact c6) fc g nx en pn pe fr tk hg
      refine lh_x_cells (h := lh_H W np s (lh_D i)) (fun x => lh_H_le w x) X ?_
      cases o with
      | none => exact br_f (lh_oI_l _ (Nat.lt_of_le_of_lt c6 (by decide))) (nw (fun m e => nomatch e))
      | some m =>
        have bm := b m rfl
        exact pk_le (lh_cc W np s (lh_D i)) m (fun q => next (fun _ => a) (some m) (lh_mx_old I q) b fc g nx en pn pe fr tk hg) (fun q => nw (fun m' e => by cases e; exact q))
end
end
section
/-! THE REFERENCE: its small methods -/
def lh_Sy (C W nc np : Nat → Nat) (cs ns ps ms dv : Nat → Int32) : Prop :=
  (∀ i, cs i = nI (C i)) ∧ (∀ i, ns i = nI (nc i)) ∧ (∀ i, ps i = nI (W i)) ∧ (∀ i, ms i = nI (np i)) ∧ (∀ j, j < 203 → dv j = nI (lh_Ec j)) ∧ (∀ i, C i ≤ 71) ∧ (∀ i, W i ≤ 71) ∧ (∀ s, nc s ≤ 8) ∧ (∀ s, np s ≤ 6)
section
variable {nl : Int32} {cs ns ps ms dv hd us : Nat → Int32} {C W nc np : Nat → Nat}
theorem lh_y_claim {post : Int32 → Prop} {x : Int32} (H1 : ∀ s, s < 2 → x = nI s → post 1) (H0 : (¬ ∃ s, s < 2 ∧ x = nI s) → post 0) : wpY_isClaim post (nl, cs, ns, ps, ms, dv, hd, us) x := by
  by_cases a : x = 0
  · exact br_t a (H1 0 (by decide) a)
  · by_cases b : x = 1
    · exact br_f a (br_t b (H1 1 (by decide) b))
    · refine br_f a (br_f b (H0 ?_))
      intro ⟨s, hs, e⟩
      have z : s = 0 ∨ s = 1 := by omega
      rcases z with z | z
      · rw [z] at e; exact a e
      · rw [z] at e; exact b e
theorem lh_y_name {post : Int32 → Prop} {x : Int32} (H1 : ∀ s, s < 6 → x = nI s → post 1) (H0 : (¬ ∃ s, s < 6 ∧ x = nI s) → post 0) : wpY_isName post (nl, cs, ns, ps, ms, dv, hd, us) x := by
  rcases lh_arg x (n := 6) (by decide) with ⟨s, hs, e⟩ | h | ⟨h, h2⟩
  · subst e
    exact br_f (nI_pos (by omega)) (br_f (nI_nlt (a := 5) (b := s) (by omega) (by decide)) (H1 s hs rfl))
  · refine br_t h (H0 ?_)
    intro ⟨s, hs, e⟩
    rw [e] at h
    exact nI_pos (by omega) h
  · have n6 : ¬ ∃ s, s < 6 ∧ x = nI s := by
      intro ⟨s, hs, e⟩
      rw [e] at h2
      exact h2 (nI_lt hs (by decide))
    obtain ⟨j, hj, e⟩ := nI_of h
    subst e
    have j6 : 6 ≤ j := by
      by_cases c : 6 ≤ j
      · exact c
      · exact absurd ⟨j, by omega, rfl⟩ n6
    exact br_f h (br_t (nI_lt (a := 5) (b := j) (by omega) hj) (H0 n6))
theorem lh_y_grp {post : Int32 → Prop} {d a : Nat} (S : lh_Sy C W nc np cs ns ps ms dv) (h2 : d < 203) (ha : a < 6) (H : post (nI (lh_gf (lh_E d) a))) : wpY_group post (nl, cs, ns, ps, ms, dv, hd, us) (nI d) (nI a) := by
  have e : ((dv (nI d).toNatClampNeg) >>> ((3 * nI a) &&& 31)) &&& 7 = nI (lh_gf (lh_E d) a) := by
    rw [nI_clamp (by omega), S.2.2.2.2.1 d h2, show (3 : Int32) * nI a = nI (3 * a) from pk_mul 3 a]
    exact lh_sh7 ha (lh_Ec_lt d h2)
  refine And.intro (pk_in d 203 h2) ?_
  rw [e]; exact H
theorem lh_y_al2 {post : Int32 → Prop} {s d : Nat} (hs : s < 2) (h2 : d < 203) (S : lh_Sy C W nc np cs ns ps ms dv) (H1 : lh_ch C nc s (lh_E d) → post 1) (H0 : ¬ lh_ch C nc s (lh_E d) → post 0) : ∀ (n i : Nat), nc s < n + i → i ≤ nc s → (∀ j, j < i → lh_cok C s (lh_E d) j) → wY_allows_2 post (nI s) (nI d) nl cs ns ps ms dv hd us n (nI i) := by
  have h8 := S.2.2.2.2.2.2.2.1 s
  intro n
  induction n with
  | zero => intro i h1 h2; omega
  | succ n ih =>
    intro i h1 h2' I
    have hk : C (8 * s + i) ≤ 71 := S.2.2.2.2.2.1 _
    have e0 : ns (nI s).toNatClampNeg = nI (nc s) := lh_rdS S.2.1 (by omega)
    have e1 : cs (nI (8 * s + i)).toNatClampNeg = nI (C (8 * s + i)) := lh_rdS S.1 (by omega)
    have l1 := (lh_E_wf d h2).2.1 (C (8 * s + i) % 36 / 6)
    have l2 := (lh_E_wf d h2).2.1 (C (8 * s + i) % 6)
    rw [wY_allows_2]
    refine ⟨pk_in s 2 hs, pk_le (nc s) i (fun z => H1 ?_) (fun z => ?_) e0⟩
    · have e : i = nc s := by omega
      rw [e] at I; exact I
    · have next : lh_cok C s (lh_E d) i → wY_allows_2 post (nI s) (nI d) nl cs ns ps ms dv hd us n (nI (i + 1)) := fun c => ih (i + 1) (by omega) (by omega) (fun j hj => by
        rcases lh_lt_s hj with z | z
        · exact I j z
        · rw [z]; exact c)
      have bad : ¬ lh_cok C s (lh_E d) i → post 0 := fun c => H0 (fun y => c (y i z))
      rw [lh_8s]
      refine ⟨pk_in (8 * s + i) 16 (by omega), nm_r e1 ?_⟩
      rw [lh_w36 _ (by omega), lh_w6 _ (by omega)]
      refine ⟨by decide, by decide, lh_y_grp S h2 (by omega) ⟨by decide, lh_y_grp S h2 (by omega) ?_⟩⟩
      refine pk_eq (lh_gf (lh_E d) (C (8 * s + i) % 36 / 6)) (lh_gf (lh_E d) (C (8 * s + i) % 6)) (fun q => ?_) (fun q => ?_)
      · by_cases c : C (8 * s + i) < 36
        · exact br_t ((lh_lt36 _ (by omega)).mpr c) (br_f (by decide) (nm_r (nI_1 i) (next ⟨fun _ => c, fun _ => q⟩)))
        · exact br_f (fun y => c ((lh_lt36 _ (by omega)).mp y)) (br_t rfl (bad (fun y => c (y.mp q))))
      · by_cases c : C (8 * s + i) < 36
        · exact br_t ((lh_lt36 _ (by omega)).mpr c) (br_t rfl (bad (fun y => q (y.mpr c))))
        · exact br_f (fun y => c ((lh_lt36 _ (by omega)).mp y)) (br_f (by decide) (nm_r (nI_1 i) (next ⟨fun y => absurd y q, fun y => absurd y c⟩)))
theorem lh_y_al {post : Int32 → Prop} {s d : Nat} (hs : s < 2) (h2 : d < 203) (S : lh_Sy C W nc np cs ns ps ms dv) (H1 : lh_ch C nc s (lh_E d) → post 1) (H0 : ¬ lh_ch C nc s (lh_E d) → post 0) : wpY_allows post (nl, cs, ns, ps, ms, dv, hd, us) (nI s) (nI d) :=
  Exists.intro (nc s + 1) (lh_y_al2 hs h2 S H1 H0 (nc s + 1) 0 (by omega) (by omega) (fun j hj => absurd hj (Nat.not_lt_zero j)))
theorem lh_y_from {post : Int32 → Prop} {s d i : Nat} (hs : s < 2) (h2 : d < 203) (hi : i < 6) (S : lh_Sy C W nc np cs ns ps ms dv) (H : post (nI (lh_pa W s (lh_E d) i))) : wpY_from post (nl, cs, ns, ps, ms, dv, hd, us) (nI s) (nI d) (nI i) := by
  have hk : W (6 * s + i) ≤ 71 := S.2.2.2.2.2.2.1 _
  have e1 : ps (nI (6 * s + i)).toNatClampNeg = nI (W (6 * s + i)) := lh_rdS S.2.2.1 (by omega)
  unfold wpY_from
  dsimp only
  rw [lh_6s, e1, lh_w36 _ (by omega)]
  exact ⟨pk_in (6 * s + i) 12 (by omega), by decide, by decide, lh_y_grp S h2 (by omega) H⟩
theorem lh_y_to {post : Int32 → Prop} {s d i : Nat} (hs : s < 2) (h2 : d < 203) (hi : i < 6) (S : lh_Sy C W nc np cs ns ps ms dv) (H : post (nI (lh_pt W s (lh_E d) i))) : wpY_to post (nl, cs, ns, ps, ms, dv, hd, us) (nI s) (nI d) (nI i) := by
  have hk : W (6 * s + i) ≤ 71 := S.2.2.2.2.2.2.1 _
  have e1 : ps (nI (6 * s + i)).toNatClampNeg = nI (W (6 * s + i)) := lh_rdS S.2.2.1 (by omega)
  unfold wpY_to
  dsimp only
  rw [lh_6s, e1, lh_w6 _ (by omega)]
  exact ⟨pk_in (6 * s + i) 12 (by omega), by decide, lh_y_grp S h2 (by omega) H⟩
theorem lh_y_emp {post : Int32 → Prop} {s d i : Nat} (hs : s < 2) (h2 : d < 203) (hi : i < 6) (S : lh_Sy C W nc np cs ns ps ms dv) (H1 : (lh_pk W s i = true ∧ lh_pa W s (lh_E d) i = lh_pt W s (lh_E d) i) → post 1) (H0 : ¬ (lh_pk W s i = true ∧ lh_pa W s (lh_E d) i = lh_pt W s (lh_E d) i) → post 0) : wpY_isEmpty post (nl, cs, ns, ps, ms, dv, hd, us) (nI s) (nI d) (nI i) := by
  have hk : W (6 * s + i) ≤ 71 := S.2.2.2.2.2.2.1 _
  have e1 : ps (nI (6 * s + i)).toNatClampNeg = nI (W (6 * s + i)) := lh_rdS S.2.2.1 (by omega)
  have l1 : lh_pa W s (lh_E d) i < 6 := (lh_E_wf d h2).2.1 _
  have l2 : lh_pt W s (lh_E d) i < 6 := (lh_E_wf d h2).2.1 _
  unfold wpY_isEmpty
  dsimp only
  rw [lh_6s, e1]
  refine ⟨pk_in (6 * s + i) 12 (by omega), ?_⟩
  by_cases c : W (6 * s + i) < 36
  · exact br_t ((lh_lt36 _ (by omega)).mpr c) (H0 (fun z => absurd (of_decide_eq_true z.1) (by omega)))
  · exact br_f (fun y => c ((lh_lt36 _ (by omega)).mp y)) (lh_y_from hs h2 hi S (lh_y_to hs h2 hi S (pk_eq (lh_pa W s (lh_E d) i) (lh_pt W s (lh_E d) i) (fun q => H1 ⟨lh_pk_t (by omega), q⟩) (fun q => H0 (fun z => q z.2)))))
theorem lh_y_b44 {post : Int32 → SY → Prop} {s d : Nat} (hs : s < 2) (h2 : d < 203) (S : lh_Sy C W nc np cs ns ps ms dv)
    (H1 : lh_ok W np s (lh_E d) → ∀ hd, lh_Ah 7 hd (lh_H W np s (lh_E d)) → post 1 (nI (lh_gf (lh_E d) 5), cs, ns, ps, ms, dv, hd, us)) (H0 : ¬ lh_ok W np s (lh_E d) → ∀ hd, post 0 (nI (lh_gf (lh_E d) 5), cs, ns, ps, ms, dv, hd, us)) :
    ∀ (n i : Nat) (hd : Nat → Int32), np s < n + i → i ≤ np s → lh_oks (fun _ => 0) (lh_gf (lh_E d) 5) (lh_pa W s (lh_E d)) (lh_pt W s (lh_E d)) (lh_pk W s) i → lh_Ah 7 hd (lh_hp (fun _ => 0) (lh_pa W s (lh_E d)) (lh_pt W s (lh_E d)) (lh_pk W s) i) → wY_build_44 post (nI s) (nI d) (nI (lh_gf (lh_E d) 5)) n (nI i) cs ns ps ms dv hd us := by
  have h6 := S.2.2.2.2.2.2.2.2 s
  intro n
  induction n with
  | zero => intro i hd h1 h2; omega
  | succ n ih =>
    intro i hd h1 h2' O X
    have e0 : ms (nI s).toNatClampNeg = nI (np s) := lh_rdS S.2.2.2.1 (by omega)
    have l1 : lh_pa W s (lh_E d) i < 6 := (lh_E_wf d h2).2.1 _
    have l2 : lh_pt W s (lh_E d) i < 6 := (lh_E_wf d h2).2.1 _
    have l3 : lh_gf (lh_E d) 5 < 6 := (lh_E_wf d h2).2.1 _
    rw [wY_build_44]
    refine ⟨pk_in s 2 hs, pk_le (np s) i (fun z => ?_) (fun z => lh_y_from hs h2 (by omega) S (lh_y_emp hs h2 (by omega) S (fun e => br_f (by decide) (nm_r (nI_1 i) (ih (i + 1) hd (by omega) (by omega) (lh_oks_s O (fun y => absurd e y)) ?_))) (fun e => br_t rfl (pk_eq (lh_pa W s (lh_E d) i) (lh_gf (lh_E d) 5) (fun q => H0 (fun o => (o i z e).1 q) hd) (fun q => ⟨pk_in (lh_pa W s (lh_E d) i) 7 (by omega), ?_⟩))))) e0⟩
    · have e : i = np s := by omega
      rw [e] at O X
      exact H1 O hd X
    · rw [lh_hp_e e]; exact X
    · have e1 : hd (nI (lh_pa W s (lh_E d) i)).toNatClampNeg = lh_hv (lh_hp (fun _ => 0) (lh_pa W s (lh_E d)) (lh_pt W s (lh_E d)) (lh_pk W s) i (lh_pa W s (lh_E d) i)) := lh_rdH X (by omega) (by decide)
      have b : lh_hp (fun _ => 0) (lh_pa W s (lh_E d)) (lh_pt W s (lh_E d)) (lh_pk W s) i (lh_pa W s (lh_E d) i) ≤ 6 := lh_hp_le (fun j _ => (lh_E_wf d h2).2.1 _) (fun _ => Nat.zero_le _) _
      rw [e1]
      by_cases c : lh_hp (fun _ => 0) (lh_pa W s (lh_E d)) (lh_pt W s (lh_E d)) (lh_pk W s) i (lh_pa W s (lh_E d) i) = 0
      · refine br_t ((lh_hv_neg _ (by omega)).mpr c) (lh_y_to hs h2 (by omega) S ⟨pk_in (lh_pa W s (lh_E d) i) 7 (by omega), nm_r (e' := upd hd (lh_pa W s (lh_E d) i) (lh_hv (lh_pt W s (lh_E d) i + 1))) (by rw [nI_clamp (by omega)]; rfl) (nm_r (nI_1 i) (ih (i + 1) _ (by omega) (by omega) (lh_oks_s O (fun _ => ⟨q, c⟩)) ?_))⟩)
        rw [lh_hp_n e]; exact lh_Ah_up X _ _
      · exact br_f (fun y => c ((lh_hv_neg _ (by omega)).mp y)) (H0 (fun o => c (o i z e).2) hd)
theorem lh_y_b12 {post : Int32 → SY → Prop} {s d : Nat} (hs : s < 2) (h2 : d < 203) (S : lh_Sy C W nc np cs ns ps ms dv)
    (H1 : lh_B C W nc np s (lh_E d) → ∀ hd, lh_Ah 7 hd (lh_H W np s (lh_E d)) → post 1 (nI (lh_gf (lh_E d) 5), cs, ns, ps, ms, dv, hd, us)) (H0 : ¬ lh_B C W nc np s (lh_E d) → ∀ (hd : Nat → Int32), post 0 (nI (lh_gf (lh_E d) 5), cs, ns, ps, ms, dv, hd, us)) :
    ∀ (n i : Nat) (hd : Nat → Int32), 7 < n + i → i ≤ 7 → lh_Ah i hd (fun _ => 0) → wY_build_12 post (nI s) (nI d) (nI (lh_gf (lh_E d) 5)) n (nI i) cs ns ps ms dv hd us := by
  intro n
  induction n with
  | zero => intro i hd h1 h2; omega
  | succ n ih =>
    intro i hd h1 h2' X
    rw [wY_build_12]
    refine pk_le 7 i (fun z => ?_) (fun z => ⟨pk_in i 7 z, nm_r (e' := upd hd i (lh_hv 0)) (by rw [nI_clamp (by omega)]; rfl) (nm_r (nI_1 i) (ih (i + 1) _ (by omega) (by omega) (lh_Ah_s X)))⟩)
    have e : i = 7 := by omega
    rw [e] at X
    exact lh_y_al (post := fun r_11 => (r_11 = 0 → post 0 (nI (lh_gf (lh_E d) 5), cs, ns, ps, ms, dv, hd, us)) ∧ (¬ r_11 = 0 → ∃ n44 : Nat, wY_build_44 post (nI s) (nI d) (nI (lh_gf (lh_E d) 5)) n44 0 cs ns ps ms dv hd us)) hs h2 S (fun c => br_f (by decide) ⟨np s + 1, lh_y_b44 hs h2 S (fun o hd X' => H1 ⟨c, o⟩ hd X') (fun o hd => H0 (fun y => o y.2) hd) (np s + 1) 0 hd (by omega) (by omega) (fun j hj => absurd hj (Nat.not_lt_zero j)) X⟩) (fun c => br_t rfl (H0 (fun y => c y.1) hd))
theorem lh_y_build {post : Int32 → SY → Prop} {s d : Nat} (hs : s < 2) (h2 : d < 203) (S : lh_Sy C W nc np cs ns ps ms dv)
    (H1 : lh_B C W nc np s (lh_E d) → ∀ hd, lh_Ah 7 hd (lh_H W np s (lh_E d)) → post 1 (nI (lh_gf (lh_E d) 5), cs, ns, ps, ms, dv, hd, us)) (H0 : ¬ lh_B C W nc np s (lh_E d) → ∀ (hd : Nat → Int32), post 0 (nI (lh_gf (lh_E d) 5), cs, ns, ps, ms, dv, hd, us)) : wpY_build post (nl, cs, ns, ps, ms, dv, hd, us) (nI s) (nI d) :=
  lh_y_grp (a := 5) (nl := nl) (hd := hd) (us := us) (post := fun r_1 => ∃ n12 : Nat, wY_build_12 post (nI s) (nI d) r_1 n12 0 cs ns ps ms dv hd us) S h2 (by decide) ⟨8, lh_y_b12 hs h2 S H1 H0 8 0 hd (by omega) (by omega) (fun j hj => absurd hj (Nat.not_lt_zero j))⟩
theorem lh_y_cells4 {post : Int32 → Prop} {h : Nat → Nat} (hb : ∀ x, h x ≤ 6) (hx : lh_Ah 7 hd h) (H : post (nI (lh_cl h 7))) : ∀ (n i : Nat), 7 < n + i → i ≤ 7 → wY_cells_4 post nl cs ns ps ms dv hd us n (nI (lh_cl h i)) (nI i) := by
  intro n
  induction n with
  | zero => intro i h1 h2; omega
  | succ n ih =>
    intro i h1 h2
    rw [wY_cells_4]
    refine pk_le 7 i (fun z => ?_) (fun z => ⟨pk_in i 7 z, ?_⟩)
    · have e : i = 7 := by omega
      rw [e]; exact H
    · have e1 : hd (nI i).toNatClampNeg = lh_hv (h i) := lh_rdH hx z (by decide)
      have b := hb i
      rw [e1]
      have w := ih (i + 1) (by omega) (by omega)
      by_cases c : h i = 0
      · have s : lh_cl h (i + 1) = lh_cl h i := if_pos c
        rw [s] at w
        exact br_t ((lh_hv_neg _ (by omega)).mpr c) (nm_r (nI_1 i) w)
      · have s : lh_cl h (i + 1) = lh_cl h i + 1 := if_neg c
        rw [s] at w
        exact br_f (fun z => c ((lh_hv_neg _ (by omega)).mp z)) (nm_r (nI_1 _) (nm_r (nI_1 i) w))
theorem lh_y_cells {post : Int32 → Prop} {h : Nat → Nat} (hb : ∀ x, h x ≤ 6) (h6 : h 6 = 0) (hx : lh_Ah 7 hd h) (H : post (nI (lh_cl h 6))) : wpY_cells post (nl, cs, ns, ps, ms, dv, hd, us) :=
  Exists.intro 8 (lh_y_cells4 hb hx (by rw [lh_cl_7 h6]; exact H) 8 0 (by omega) (by omega))
theorem lh_y_cells4' {post : Int32 → Prop} (H : ∀ r, post r) : ∀ (n i : Nat) (x : Int32), 7 < n + i → i ≤ 7 → wY_cells_4 post nl cs ns ps ms dv hd us n x (nI i) := by
  intro n
  induction n with
  | zero => intro i x h1 h2; omega
  | succ n ih =>
    intro i x h1 h2
    rw [wY_cells_4]
    exact pk_le 7 i (fun z => H x) (fun z => ⟨pk_in i 7 z, br_c (fun _ => nm_r (nI_1 i) (ih (i + 1) _ (by omega) (by omega))) (fun _ => nm_e (nm_r (nI_1 i) (ih (i + 1) _ (by omega) (by omega))))⟩)
theorem lh_y_cells' {post : Int32 → Prop} (H : ∀ r, post r) : wpY_cells post (nl, cs, ns, ps, ms, dv, hd, us) := Exists.intro 8 (lh_y_cells4' H 8 0 0 (by omega) (by omega))
theorem lh_y_src4 {post : Int32 → Prop} {h : Nat → Nat} (hb : ∀ x, h x ≤ 6) (hx : lh_Ah 7 hd h) (H : post (nI (lh_src h 7))) : ∀ (n i : Nat), 7 < n + i → i ≤ 7 → wY_sources_4 post nl cs ns ps ms dv hd us n (nI (lh_src h i)) (nI i) := by
  intro n
  induction n with
  | zero => intro i h1 h2; omega
  | succ n ih =>
    intro i h1 h2
    rw [wY_sources_4]
    refine pk_le 7 i (fun z => ?_) (fun z => ⟨pk_in i 7 z, ?_⟩)
    · have e : i = 7 := by omega
      rw [e]; exact H
    · have e1 : hd (nI i).toNatClampNeg = lh_hv (h i) := lh_rdH hx z (by decide)
      have b := hb i
      rw [e1]
      have w := ih (i + 1) (by omega) (by omega)
      by_cases c : h i = 0
      · have s : lh_src h (i + 1) = lh_src h i := if_pos c
        rw [s] at w
        exact br_t ((lh_hv_neg _ (by omega)).mpr c) (nm_r (nI_1 i) w)
      · have s : lh_src h (i + 1) = lh_src h i ||| 2 ^ i := if_neg c
        rw [s] at w
        exact br_f (fun z => c ((lh_hv_neg _ (by omega)).mp z)) (nm_r (by rw [lh_1sh i z, lh_or]) (nm_r (nI_1 i) w))
theorem lh_y_src {post : Int32 → Prop} {h : Nat → Nat} (hb : ∀ x, h x ≤ 6) (hx : lh_Ah 7 hd h) (H : post (nI (lh_src h 7))) : wpY_sources post (nl, cs, ns, ps, ms, dv, hd, us) :=
  Exists.intro 8 (lh_y_src4 hb hx H 8 0 (by omega) (by omega))
theorem lh_y_comes5 {post : Int32 → Prop} {h : Nat → Nat} {a t n5 : Nat} (ht : t < 6) (h5 : n5 < 6) (h50 : h n5 = 0) (hb : lh_bd 6 h) (hx : lh_Ah 7 hd h) (H1 : (∃ q, lh_pth h t a q) → post 1) (H0 : (¬ ∃ q, lh_pth h t a q) → post 0) : ∀ (n i y : Nat) (q : List Nat), 8 < n + i → i ≤ 8 → y < 6 → q.length = i → lh_pre h t y a q → wY_comes_5 post (nI t) (nI n5) cs ns ps ms dv hd us n (nI y) (nI i) := by
  intro n
  induction n with
  | zero => intro i y q h1 h2; omega
  | succ n ih =>
    intro i y q h1 h2 hy ql B
    have e1 : hd (nI y).toNatClampNeg = lh_hv (h y) := lh_rdH hx (by omega) (by decide)
    have b := hb.2 y
    rw [wY_comes_5]
    refine pk_le 8 i (fun z => ?_) (fun z => pk_eq y t (fun w => H1 ⟨q, ?_⟩) (fun w => pk_eq y n5 (fun v => H0 (lh_stop B w (by rw [v]; exact h50))) (fun v => ⟨pk_in y 7 (by omega), ?_⟩)))
    · by_cases w : y = t
      · rw [w] at B
        have k := lh_fewN (lh_pth_nodup q a B) (fun g hg => hb.1 g (lh_pre_cell q a B g hg))
        omega
      · exact H0 (lh_far hb.1 B (by omega) w)
    · rw [w] at B; exact B
    · rw [e1]
      by_cases c : h y = 0
      · exact br_f (fun v => absurd c ((lh_hv_pos _ (by omega)).mp v)) (H0 (lh_stop B w c))
      · exact br_t ((lh_hv_pos _ (by omega)).mpr c) ⟨pk_in y 7 (by omega), nm_r (lh_hv_p c) (nm_r (nI_1 i) (ih (i + 1) (h y - 1) (q ++ [y]) (by omega) (by omega) (by omega) (by rw [List.length_append, ql]; rfl) (lh_pre_snoc w c q a B)))⟩
theorem lh_y_comes {post : Int32 → Prop} {h : Nat → Nat} {a t n5 : Nat} (ha : a < 6) (ht : t < 6) (h5 : n5 < 6) (h50 : h n5 = 0) (hb : lh_bd 6 h) (hx : lh_Ah 7 hd h) (H1 : (∃ q, lh_pth h t a q) → post 1) (H0 : (¬ ∃ q, lh_pth h t a q) → post 0) : wpY_comes post (nI n5, cs, ns, ps, ms, dv, hd, us) (nI a) (nI t) :=
  Exists.intro 9 (lh_y_comes5 ht h5 h50 hb hx H1 H0 9 0 a [] (by omega) (by omega) ha rfl (lh_pre_nil.mpr rfl))
theorem lh_y_hl2 {post : Int32 → Prop} {s d : Nat} (hs : s < 2) (h2 : d < 203) (S : lh_Sy C W nc np cs ns ps ms dv) (H1 : (∃ i, i < np s ∧ lh_pk W s i = true ∧ lh_pa W s (lh_E d) i ≠ lh_pt W s (lh_E d) i) → post 1) (H0 : (¬ ∃ i, i < np s ∧ lh_pk W s i = true ∧ lh_pa W s (lh_E d) i ≠ lh_pt W s (lh_E d) i) → post 0) : ∀ (n i : Nat), np s < n + i → i ≤ np s → (∀ j, j < i → ¬ (lh_pk W s j = true ∧ lh_pa W s (lh_E d) j ≠ lh_pt W s (lh_E d) j)) → wY_hasLists_2 post (nI s) (nI d) nl cs ns ps ms dv hd us n (nI i) := by
  have h6 := S.2.2.2.2.2.2.2.2 s
  intro n
  induction n with
  | zero => intro i h1 h2; omega
  | succ n ih =>
    intro i h1 h2' I
    have hk : W (6 * s + i) ≤ 71 := S.2.2.2.2.2.2.1 _
    have e0 : ms (nI s).toNatClampNeg = nI (np s) := lh_rdS S.2.2.2.1 (by omega)
    have e1 : ps (nI (6 * s + i)).toNatClampNeg = nI (W (6 * s + i)) := lh_rdS S.2.2.1 (by omega)
    rw [wY_hasLists_2]
    refine ⟨pk_in s 2 hs, pk_le (np s) i (fun z => H0 ?_) (fun z => ?_) e0⟩
    · intro ⟨j, hj, a, b⟩
      exact I j (by omega) ⟨a, b⟩
    · have next : ¬ (lh_pk W s i = true ∧ lh_pa W s (lh_E d) i ≠ lh_pt W s (lh_E d) i) → wY_hasLists_2 post (nI s) (nI d) nl cs ns ps ms dv hd us n (nI (i + 1)) := fun c => ih (i + 1) (by omega) (by omega) (fun j hj => by
        rcases lh_lt_s hj with y | y
        · exact I j y
        · rw [y]; exact c)
      rw [lh_6s, e1]
      refine ⟨pk_in (6 * s + i) 12 (by omega), ?_⟩
      by_cases c : W (6 * s + i) < 36
      · exact br_t ((lh_lt36 _ (by omega)).mpr c) (nm_r (nI_1 i) (next (fun y => absurd (of_decide_eq_true y.1) (by omega))))
      · exact br_f (fun y => c ((lh_lt36 _ (by omega)).mp y)) (lh_y_emp hs h2 (by omega) S (fun y => br_f (by decide) (nm_r (nI_1 i) (next (fun v => v.2 y.2)))) (fun y => br_t rfl (H1 ⟨i, z, lh_pk_t (by omega), fun v => y ⟨lh_pk_t (by omega), v⟩⟩)))
theorem lh_y_hl {post : Int32 → Prop} {s d : Nat} (hs : s < 2) (h2 : d < 203) (S : lh_Sy C W nc np cs ns ps ms dv) (ok : lh_ok W np s (lh_E d)) (H1 : lh_any6 (lh_Q W np s (lh_E d)) → post 1) (H0 : ¬ lh_any6 (lh_Q W np s (lh_E d)) → post 0) : wpY_hasLists post (nl, cs, ns, ps, ms, dv, hd, us) (nI s) (nI d) := by
  have w := lh_E_wf d h2
  have q : (∃ i, i < np s ∧ lh_pk W s i = true ∧ lh_pa W s (lh_E d) i ≠ lh_pt W s (lh_E d) i) ↔ lh_any6 (lh_Q W np s (lh_E d)) := by
    constructor
    · intro ⟨i, a, b, c⟩
      exact ⟨lh_pa W s (lh_E d) i, w.2.1 _, (lh_Q_ne ok).mpr ⟨i, a, b, c, rfl⟩⟩
    · intro ⟨g, _, z⟩
      obtain ⟨i, a, b, c, _⟩ := (lh_Q_ne ok).mp z
      exact ⟨i, a, b, c⟩
  exact Exists.intro (np s + 1) (lh_y_hl2 hs h2 S (fun y => H1 (q.mp y)) (fun y => H0 (fun v => y (q.mpr v))) (np s + 1) 0 (by omega) (by omega) (fun j hj => absurd hj (Nat.not_lt_zero j)))
end
end
section
/-! THE REFERENCE: does claim 1 fit -/
section
variable {nl : Int32} {cs ns ps ms dv hd us : Nat → Int32} {C W nc np : Nat → Nat}
theorem lh_y_wc {post : Int32 → SY → Prop} {h : Nat → Nat} {a t n5 m : Nat} {t0 : Nat → Bool} (ha : a < 7) (ht : t < 7) (h5 : n5 < 7) (h50 : h n5 = 0) (hb : lh_bd 7 h) (hx : lh_Ah 7 hd h) (hm : lh_Ab 7 us t0)
    (H1 : h a = t + 1 → t0 a = false → ∀ us, lh_Ab 7 us (lh_mk t0 [a]) → post 1 (nI n5, cs, ns, ps, ms, dv, hd, us)) (H0 : ¬ (h a = t + 1 ∧ t0 a = false) → ∀ us, post 0 (nI n5, cs, ns, ps, ms, dv, hd, us)) : wY_walk_53 post (nI t) 0 (nI n5) (m + 1 + 1) (nI a) 1 cs ns ps ms dv hd us := by
  have e1 : hd (nI a).toNatClampNeg = lh_hv (h a) := lh_rdH hx ha (by decide)
  have e2 : us (nI a).toNatClampNeg = lh_bI (t0 a) := lh_rdB hm ha (by decide)
  have ca : (nI a).toNatClampNeg = a := nI_clamp (by omega)
  have b := hb.2 a
  rw [wY_walk_53]
  refine br_f (by decide) (pk_eq a n5 (fun v => H0 (fun z => ?_) us) (fun v => ⟨pk_in a 7 ha, ?_⟩))
  · rw [v, h50] at z; exact absurd z.1 (by omega)
  · rw [e1, e2]
    by_cases c : h a = 0
    · exact br_t ((lh_hv_neg _ (by omega)).mpr c) (H0 (fun z => by rw [c] at z; exact absurd z.1 (by omega)) us)
    · refine br_f (fun z => c ((lh_hv_neg _ (by omega)).mp z)) ⟨pk_in a 7 ha, ?_⟩
      cases d : t0 a with
      | true => exact br_f (by decide) (H0 (fun z => absurd (d.symm.trans z.2) (by decide)) us)
      | false =>
        refine br_t rfl ⟨pk_in a 7 ha, nm_r (e' := upd us a (lh_bI true)) (by rw [ca, lh_nar1]) ⟨pk_in a 7 ha, nm_r (lh_hv_p c) (br_t rfl ?_)⟩⟩
        have M : lh_Ab 7 us (lh_mk t0 []) := by rw [lh_mk_nil]; exact hm
        rw [wY_walk_53]
        exact br_t rfl (pk_eq (h a - 1) t (fun q => H1 (by omega) d _ (lh_Ab_mk M)) (fun q => H0 (fun z => q (by omega)) _))
theorem lh_y_wl {post : Int32 → SY → Prop} {h : Nat → Nat} {a t n5 : Nat} {t0 : Nat → Bool} (ht : t < 7) (h5 : n5 < 7) (h50 : h n5 = 0) (hb : lh_bd 7 h) (hx : lh_Ah 7 hd h)
    (H1 : ∀ (q : List Nat) (us : Nat → Int32), lh_way h t a t0 q → lh_Ab 7 us (lh_mk t0 q) → post 1 (nI n5, cs, ns, ps, ms, dv, hd, us)) (H0 : (¬ ∃ q, lh_way h t a t0 q) → ∀ us, post 0 (nI n5, cs, ns, ps, ms, dv, hd, us)) :
    ∀ (n y : Nat) (q : List Nat) (us : Nat → Int32), 8 < n + q.length → y ≠ t → y < 7 → lh_beg h t y a t0 q → lh_Ab 7 us (lh_mk t0 q) → wY_walk_53 post (nI t) 1 (nI n5) n (nI y) 1 cs ns ps ms dv hd us := by
  intro n
  induction n with
  | zero =>
    intro y q us h1 _ _ B
    have := lh_beg_len B hb.1
    omega
  | succ n ih =>
    intro y q us h1 yt hy B M
    have ql := lh_beg_len B hb.1
    have e1 : hd (nI y).toNatClampNeg = lh_hv (h y) := lh_rdH hx hy (by decide)
    have e2 : us (nI y).toNatClampNeg = lh_bI (lh_mk t0 q y) := lh_rdB M hy (by decide)
    have cy : (nI y).toNatClampNeg = y := nI_clamp (by omega)
    have b := hb.2 y
    rw [wY_walk_53]
    refine br_f (by decide) (pk_eq y n5 (fun v => H0 (lh_beg_bad B yt (Or.inl (by rw [v]; exact h50))) us) (fun v => ⟨pk_in y 7 hy, ?_⟩))
    rw [e1, e2]
    by_cases c : h y = 0
    · exact br_t ((lh_hv_neg _ (by omega)).mpr c) (H0 (lh_beg_bad B yt (Or.inl c)) us)
    · refine br_f (fun z => c ((lh_hv_neg _ (by omega)).mp z)) ⟨pk_in y 7 hy, ?_⟩
      cases d : lh_mk t0 q y with
      | true => exact br_f (by decide) (H0 (lh_beg_bad B yt (Or.inr d)) us)
      | false =>
        have B' := lh_beg_step B yt c d
        refine br_t rfl ⟨pk_in y 7 hy, nm_r (e' := upd us y (lh_bI true)) (by rw [cy, lh_nar1]) ⟨pk_in y 7 hy, nm_r (lh_hv_p c) (br_f (by decide) (pk_eq (h y - 1) t (fun w => ?_) (fun w => ?_)))⟩⟩
        · obtain ⟨m, rfl⟩ : ∃ m, n = m + 1 := ⟨n - 1, by omega⟩
          rw [wY_walk_53]
          rw [w] at B'
          exact br_t rfl (pk_eq (h y - 1) t (fun _ => H1 (q ++ [y]) _ (lh_beg_end B') (lh_Ab_mk M)) (fun z => absurd w z))
        · refine ih (h y - 1) (q ++ [y]) _ ?_ w (by omega) B' (lh_Ab_mk M)
          rw [List.length_append, List.length_cons, List.length_nil]; omega
theorem lh_y_walk {post : Int32 → SY → Prop} {h : Nat → Nat} {n5 d i : Nat} {t0 : Nat → Bool} (h2 : d < 203) (hi : i < 6) (h5 : n5 < 7) (h50 : h n5 = 0) (hb : lh_bd 7 h) (hx : lh_Ah 7 hd h) (hm : lh_Ab 7 us t0) (S : lh_Sy C W nc np cs ns ps ms dv)
    (H1 : ∀ (r : List Nat) (us : Nat → Int32), lh_one h (fun _ => True) (lh_pa W 1 (lh_E d) i) (lh_pt W 1 (lh_E d) i) (lh_pk W 1 i) t0 r → lh_Ab 7 us (lh_mk t0 r) → post 1 (nI n5, cs, ns, ps, ms, dv, hd, us)) (H0 : (¬ ∃ r, lh_one h (fun _ => True) (lh_pa W 1 (lh_E d) i) (lh_pt W 1 (lh_E d) i) (lh_pk W 1 i) t0 r) → ∀ us, post 0 (nI n5, cs, ns, ps, ms, dv, hd, us)) : wpY_walk post (nI n5, cs, ns, ps, ms, dv, hd, us) (nI d) (nI i) := by
  have hk : W (6 * 1 + i) ≤ 71 := S.2.2.2.2.2.2.1 _
  have e1 : ps (nI (6 * 1 + i)).toNatClampNeg = nI (W (6 * 1 + i)) := lh_rdS S.2.2.1 (by omega)
  have e6 : (6 : Int32) + nI i = nI (6 * 1 + i) := nI_add 6 i
  have l1 : lh_pa W 1 (lh_E d) i < 6 := (lh_E_wf d h2).2.1 _
  have l2 : lh_pt W 1 (lh_E d) i < 6 := (lh_E_wf d h2).2.1 _
  refine lh_y_from (s := 1) (by decide) h2 hi S (lh_y_to (s := 1) (by decide) h2 hi S (lh_y_emp (s := 1) (by decide) h2 hi S (fun y => br_f (by decide) ?_) (fun y => br_t rfl ?_)))
  · refine H1 [] us ?_ (by rw [lh_mk_nil]; exact hm)
    rw [y.1, y.2]
    exact lh_one_empty
  · rw [e6, e1]
    refine ⟨pk_in (6 * 1 + i) 12 (by omega), ?_⟩
    by_cases c : W (6 * 1 + i) < 36
    · have kf : lh_pk W 1 i = false := lh_pk_f (by omega)
      rw [kf] at H1 H0
      exact br_t ((lh_lt36 _ (by omega)).mpr c) ⟨0 + 1 + 1, lh_y_wc (by omega) (by omega) h5 h50 hb hx hm (fun a1 a2 us M => H1 _ us (lh_one_cell.mpr ⟨rfl, a1, trivial, a2⟩) M) (fun z us => H0 (fun ⟨r, R⟩ => z ⟨(lh_one_cell.mp R).2.1, (lh_one_cell.mp R).2.2.2⟩) us)⟩
    · have kt : lh_pk W 1 i = true := lh_pk_t (by omega)
      rw [kt] at H1 H0 y
      exact br_f (fun z => c ((lh_lt36 _ (by omega)).mp z)) ⟨9, lh_y_wl (by omega) h5 h50 hb hx (fun q us w M => H1 q us (lh_one_list.mpr w) M) (fun z us => H0 (lh_no_one z) us) 9 _ [] us (by decide) (fun z => y ⟨rfl, z⟩) (by omega) lh_beg0 (by rw [lh_mk_nil]; exact hm)⟩
theorem lh_y_f63 {post : Int32 → SY → Prop} {b : Bool} {h : Nat → Nat} {t0 : Nat → Bool} (hb : lh_bd 7 h) (hx : lh_Ah 7 hd h) (hm : lh_Ab 7 us t0) (H1 : (b = true → ∀ g, h g ≠ 0 → t0 g = true) → post 1 (nl, cs, ns, ps, ms, dv, hd, us)) (H0 : ¬ (b = true → ∀ g, h g ≠ 0 → t0 g = true) → post 0 (nl, cs, ns, ps, ms, dv, hd, us)) : ∀ (n i : Nat), 7 < n + i → i ≤ 7 → (b = true → ∀ g, g < i → h g ≠ 0 → t0 g = true) → wY_fits_63 post (lh_bI (!b)) nl cs ns ps ms dv hd us n (nI i) := by
  intro n
  induction n with
  | zero => intro i h1 h2; omega
  | succ n ih =>
    intro i h1 h2 I
    rw [wY_fits_63]
    refine pk_le 7 i (fun z => H1 (fun y g hg => I y g (by have := hb.1 g hg; omega) hg)) (fun z => ⟨pk_in i 7 z, ?_⟩)
    have e1 : hd (nI i).toNatClampNeg = lh_hv (h i) := lh_rdH hx z (by decide)
    have e2 : us (nI i).toNatClampNeg = lh_bI (t0 i) := lh_rdB hm z (by decide)
    have b7 := hb.2 i
    have next : (b = true → h i ≠ 0 → t0 i = true) → wY_fits_63 post (lh_bI (!b)) nl cs ns ps ms dv hd us n (nI (i + 1)) := fun c => ih (i + 1) (by omega) (by omega) (fun y j hj => by
      rcases lh_lt_s hj with v | v
      · exact I y j v
      · rw [v]; exact c y)
    rw [e1, e2]
    by_cases c : h i = 0
    · exact br_t ((lh_hv_neg _ (by omega)).mpr c) (nm_r (nI_1 i) (next (fun _ y => absurd c y)))
    · refine br_f (fun y => c ((lh_hv_neg _ (by omega)).mp y)) ⟨pk_in i 7 z, ?_⟩
      cases d : t0 i with
      | true => exact br_f (by decide) (nm_r (nI_1 i) (next (fun _ _ => d)))
      | false =>
        cases b with
        | true => exact br_t rfl (br_t rfl (H0 (fun y => absurd (d.symm.trans (y rfl i c)) (by decide))))
        | false => exact br_t rfl (br_f (by decide) (nm_r (nI_1 i) (next (fun y => absurd y (by decide)))))
theorem lh_y_f34 {post : Int32 → SY → Prop} {b : Bool} {h : Nat → Nat} {n5 d : Nat} (h2 : d < 203) (h5 : n5 < 7) (h50 : h n5 = 0) (hb : lh_bd 7 h) (hx : lh_Ah 7 hd h) (S : lh_Sy C W nc np cs ns ps ms dv)
    (H1 : (∃ q, lh_fit h (fun _ => True) (np 1) (lh_pa W 1 (lh_E d)) (lh_pt W 1 (lh_E d)) (lh_pk W 1) (b = true) q) → ∀ us, post 1 (nI n5, cs, ns, ps, ms, dv, hd, us)) (H0 : (¬ ∃ q, lh_fit h (fun _ => True) (np 1) (lh_pa W 1 (lh_E d)) (lh_pt W 1 (lh_E d)) (lh_pk W 1) (b = true) q) → ∀ us, post 0 (nI n5, cs, ns, ps, ms, dv, hd, us)) :
    ∀ (n i : Nat) (us : Nat → Int32) (t0 : Nat → Bool) (q : Nat → List Nat), np 1 < n + i → i ≤ np 1 → lh_pf h (fun _ => True) i (lh_pa W 1 (lh_E d)) (lh_pt W 1 (lh_E d)) (lh_pk W 1) t0 q → lh_Ab 7 us t0 → wY_fits_34 post (nI d) (lh_bI (!b)) n (nI i) (nI n5) cs ns ps ms dv hd us := by
  have h6 := S.2.2.2.2.2.2.2.2 1
  intro n
  induction n with
  | zero => intro i us t0 q h1 h2; omega
  | succ n ih =>
    intro i us t0 q h1 h2' P M
    rw [wY_fits_34]
    refine pk_le (np 1) i (fun z => ?_) (fun z => ?_) (S.2.2.2.1 1)
    · have ei : i = np 1 := by omega
      rw [ei] at P
      have PE := lh_pf_end (wh := b = true) P
      exact ⟨8, lh_y_f63 hb hx M (fun y => H1 (PE.mpr y) us) (fun y => H0 (fun v => y (PE.mp v)) us) 8 0 (by omega) (by omega) (fun _ j hj => absurd hj (Nat.not_lt_zero j))⟩
    · exact lh_y_walk h2 (by omega) h5 h50 hb hx M S (fun r us R M' => br_f (by decide) (nm_r (nI_1 i) (ih (i + 1) us _ _ (by omega) (by omega) (lh_pf_step P R) M'))) (fun N us => br_t rfl (H0 (lh_pf_fail P z N) us))
theorem lh_y_f13 {post : Int32 → SY → Prop} {x1 x2 : Int32} (H : ∀ us, lh_Ab 7 us (fun _ => false) → ∃ m, wY_fits_34 post x1 x2 m 0 nl cs ns ps ms dv hd us) : ∀ (n i : Nat) (us : Nat → Int32), 7 < n + i → i ≤ 7 → lh_Ab i us (fun _ => false) → wY_fits_13 post x1 x2 nl n (nI i) cs ns ps ms dv hd us := by
  intro n
  induction n with
  | zero => intro i us h1 h2; omega
  | succ n ih =>
    intro i us h1 h2 M
    rw [wY_fits_13]
    refine pk_le 7 i (fun z => ?_) (fun z => ⟨pk_in i 7 z, nm_r (e' := upd us i (lh_bI false)) (by rw [nI_clamp (by omega), lh_nar0]) (nm_r (nI_1 i) (ih (i + 1) _ (by omega) (by omega) (lh_Ab_s M)))⟩)
    have e : i = 7 := by omega
    rw [e] at M
    exact H us M
theorem lh_y_fits {post : Int32 → SY → Prop} {b : Bool} {h : Nat → Nat} {n5 d : Nat} (h2 : d < 203) (h5 : n5 < 7) (h50 : h n5 = 0) (hb : lh_bd 7 h) (hx : lh_Ah 7 hd h) (S : lh_Sy C W nc np cs ns ps ms dv)
    (H1 : lh_yf C W nc np (b = true) (lh_E d) h → ∀ us, post 1 (nI n5, cs, ns, ps, ms, dv, hd, us)) (H0 : ¬ lh_yf C W nc np (b = true) (lh_E d) h → ∀ us, post 0 (nI n5, cs, ns, ps, ms, dv, hd, us)) : wpY_fits post (nI n5, cs, ns, ps, ms, dv, hd, us) (nI d) (lh_bI (!b)) :=
  lh_y_al (s := 1) (nl := nI n5) (hd := hd) (us := us) (post := fun r_1 => (r_1 = 0 → post 0 (nI n5, cs, ns, ps, ms, dv, hd, us)) ∧ (¬ r_1 = 0 → ∃ n13 : Nat, wY_fits_13 post (nI d) (lh_bI (!b)) (nI n5) n13 0 cs ns ps ms dv hd us)) (by decide) h2 S (fun c => br_f (by decide) ⟨8, lh_y_f13 (fun us M => ⟨np 1 + 1, lh_y_f34 h2 h5 h50 hb hx S (fun w us => H1 ⟨c, w⟩ us) (fun w us => H0 (fun z => w z.2) us) (np 1 + 1) 0 us (fun _ => false) (fun _ => []) (by omega) (by omega) lh_pf_0 M⟩) 8 0 us (by omega) (by omega) (fun j hj => absurd hj (Nat.not_lt_zero j))⟩) (fun c => br_t rfl (H0 (fun z => c z.1) us))
theorem lh_y_there2 {post : Int32 → Prop} {d f : Nat} (h2 : d < 203) (hf : f < 7) (S : lh_Sy C W nc np cs ns ps ms dv) (H1 : (∃ a, a < 6 ∧ lh_gf (lh_E d) a = f) → post 1) (H0 : (¬ ∃ a, a < 6 ∧ lh_gf (lh_E d) a = f) → post 0) : ∀ (n i : Nat), 6 < n + i → i ≤ 6 → (∀ a, a < i → lh_gf (lh_E d) a ≠ f) → wY_isThere_2 post (nI d) (nI f) nl cs ns ps ms dv hd us n (nI i) := by
  intro n
  induction n with
  | zero => intro i h1 h2; omega
  | succ n ih =>
    intro i h1 h2' I
    have l1 := (lh_E_wf d h2).2.1 i
    rw [wY_isThere_2]
    refine pk_le 6 i (fun z => H0 ?_) (fun z => lh_y_grp S h2 z (pk_eq (lh_gf (lh_E d) i) f (fun q => H1 ⟨i, z, q⟩) (fun q => nm_r (nI_1 i) (ih (i + 1) (by omega) (by omega) (fun j hj => ?_)))))
    · intro ⟨a, ha, e⟩
      exact I a (by omega) e
    · rcases lh_lt_s hj with v | v
      · exact I j v
      · rw [v]; exact q
theorem lh_y_there {post : Int32 → Prop} {d f : Nat} (h2 : d < 203) (hf : f < 7) (S : lh_Sy C W nc np cs ns ps ms dv) (H1 : (∃ a, a < 6 ∧ lh_gf (lh_E d) a = f) → post 1) (H0 : (¬ ∃ a, a < 6 ∧ lh_gf (lh_E d) a = f) → post 0) : wpY_isThere post (nl, cs, ns, ps, ms, dv, hd, us) (nI d) (nI f) :=
  Exists.intro 7 (lh_y_there2 h2 hf S H1 H0 7 0 (by omega) (by omega) (fun j hj => absurd hj (Nat.not_lt_zero j)))
end
end
section
/-! THE REFERENCE: the longer lists -/
theorem lh_up_ins {h : Nat → Nat} {a t f : Nat} {x : Nat → Int32} (H : lh_Ah 7 x h) (n : a ≠ f) (ha : h a = t + 1) : lh_Ah 7 (upd (upd x a (nI f)) f (nI t)) (lh_ins h a f) := by
  intro i hi
  by_cases e : i = f
  · rw [e, pk_us, lh_ins_f, ha]; rfl
  · rw [pk_un e]
    by_cases e2 : i = a
    · rw [e2, pk_us, lh_ins_b n]; rfl
    · rw [pk_un e2, lh_ins_o e e2]; exact H i hi
theorem lh_back {h : Nat → Nat} {a t f : Nat} {x : Nat → Int32} (H : lh_Ah 7 x h) (ha : h a = t + 1) (hf : h f = 0) : lh_Ah 7 (upd (upd (upd (upd x a (nI f)) f (nI t)) a (nI t)) f (-1)) h := by
  intro i hi
  by_cases e : i = f
  · rw [e, pk_us, hf]; rfl
  · rw [pk_un e]
    by_cases e2 : i = a
    · rw [e2, pk_us, ha]; rfl
    · rw [pk_un e2, pk_un e, pk_un e2]; exact H i hi
def lh_PF (C W nc np : Nat → Nat) (wh : Prop) (l : List Nat) (i f : Nat) : Prop := (f = 6 ∨ ∃ a, a < 6 ∧ lh_gf l a = f) → f ≠ lh_gf l 5 → f ≠ lh_pt W 0 l i → lh_H W np 0 l f = 0 → lh_yf C W nc np wh l (lh_ins (lh_H W np 0 l) (lh_pa W 0 l i) f)
section
variable {nl : Int32} {cs ns ps ms dv hd us : Nat → Int32} {C W nc np : Nat → Nat}
theorem lh_y_lg50 {post : Int32 → SY → Prop} {J : Int32 → Int32 → (Nat → Int32) → (Nat → Int32) → (Nat → Int32) → (Nat → Int32) → (Nat → Int32) → (Nat → Int32) → (Nat → Int32) → Prop} {b : Bool} {d i f : Nat} (h2 : d < 203) (hf : f < 7) (S : lh_Sy C W nc np cs ns ps ms dv) (ok : lh_ok W np 0 (lh_E d)) (hi : i < np 0) (k : lh_pk W 0 i = true) (ne : lh_pa W 0 (lh_E d) i ≠ lh_pt W 0 (lh_E d) i) (hx : lh_Ah 7 hd (lh_H W np 0 (lh_E d))) (there : f = 6 ∨ ∃ a, a < 6 ∧ lh_gf (lh_E d) a = f)
    (H1 : lh_PF C W nc np (b = true) (lh_E d) i f → ∀ hd us, lh_Ah 7 hd (lh_H W np 0 (lh_E d)) → J (nI (f + 1)) (nI (lh_gf (lh_E d) 5)) cs ns ps ms dv hd us) (H0 : ¬ lh_PF C W nc np (b = true) (lh_E d) i f → ∀ hd us, post 0 (nI (lh_gf (lh_E d) 5), cs, ns, ps, ms, dv, hd, us)) :
    wY_fitLonger_50 post J (nI d) (lh_bI (!b)) (nI (lh_pa W 0 (lh_E d) i)) (nI (lh_pt W 0 (lh_E d) i)) (nI f) 1 (nI (lh_gf (lh_E d) 5)) cs ns ps ms dv hd us := by
  have w := lh_E_wf d h2
  have l1 : lh_pa W 0 (lh_E d) i < 6 := w.2.1 _
  have l2 : lh_pt W 0 (lh_E d) i < 6 := w.2.1 _
  have l3 : lh_gf (lh_E d) 5 < 6 := w.2.1 _
  have cf : (nI f).toNatClampNeg = f := nI_clamp (by omega)
  have ca : (nI (lh_pa W 0 (lh_E d) i)).toNatClampNeg = lh_pa W 0 (lh_E d) i := nI_clamp (by omega)
  have e1 : hd (nI f).toNatClampNeg = lh_hv (lh_H W np 0 (lh_E d) f) := lh_rdH hx hf (by decide)
  have bf := lh_H_le (W := W) (np := np) (s := 0) w f
  have Ha := (lh_H_at ok hi k ne).1
  have skip : ¬ (f ≠ lh_gf (lh_E d) 5 ∧ f ≠ lh_pt W 0 (lh_E d) i ∧ lh_H W np 0 (lh_E d) f = 0) → J (nI (f + 1)) (nI (lh_gf (lh_E d) 5)) cs ns ps ms dv hd us := fun c => H1 (fun _ a1 a2 a3 => absurd ⟨a1, a2, a3⟩ c) hd us hx
  unfold wY_fitLonger_50
  refine br_f (by decide) (pk_eq f (lh_gf (lh_E d) 5) (fun q => nm_r (nI_1 f) (skip (fun y => y.1 q))) (fun q => pk_eq f (lh_pt W 0 (lh_E d) i) (fun r => nm_r (nI_1 f) (skip (fun y => y.2.1 r))) (fun r => ⟨pk_in f 7 hf, ?_⟩)))
  rw [e1]
  by_cases c : lh_H W np 0 (lh_E d) f = 0
  · have af : lh_pa W 0 (lh_E d) i ≠ f := by
      intro z
      rw [z, c] at Ha
      exact absurd Ha (by omega)
    have n5 : lh_ins (lh_H W np 0 (lh_E d)) (lh_pa W 0 (lh_E d) i) f (lh_gf (lh_E d) 5) = 0 := by
      have z := lh_H_nl ok
      rw [lh_ins_o (Ne.symm q) (fun y => by rw [← y, z] at Ha; exact absurd Ha (by omega))]
      exact z
    refine br_f (fun v => absurd c ((lh_hv_pos _ (by omega)).mp v)) ⟨pk_in (lh_pa W 0 (lh_E d) i) 7 (by omega), nm_r (e' := upd hd (lh_pa W 0 (lh_E d) i) (nI f)) (by rw [ca]) ⟨pk_in f 7 hf, nm_r (e' := upd (upd hd (lh_pa W 0 (lh_E d) i) (nI f)) f (nI (lh_pt W 0 (lh_E d) i))) (by rw [cf]) ?_⟩⟩
    have B7 : lh_bd 7 (lh_ins (lh_H W np 0 (lh_E d)) (lh_pa W 0 (lh_E d) i) f) := lh_bd_ins ⟨fun x hx => Nat.lt_succ_of_lt (lh_H_lt w hx), fun x => Nat.le_succ_of_le (lh_H_le w x)⟩ (by omega) hf
    have fin := lh_back hx Ha c
    refine lh_y_fits (b := b) h2 (by omega) n5 B7 (lh_up_ins hx af Ha) S (fun y us => ⟨pk_in (lh_pa W 0 (lh_E d) i) 7 (by omega), nm_r (e' := upd (upd (upd hd (lh_pa W 0 (lh_E d) i) (nI f)) f (nI (lh_pt W 0 (lh_E d) i))) (lh_pa W 0 (lh_E d) i) (nI (lh_pt W 0 (lh_E d) i))) (by rw [ca]) ⟨pk_in f 7 hf, nm_r (e' := upd (upd (upd (upd hd (lh_pa W 0 (lh_E d) i) (nI f)) f (nI (lh_pt W 0 (lh_E d) i))) (lh_pa W 0 (lh_E d) i) (nI (lh_pt W 0 (lh_E d) i))) f (-1)) (by rw [cf]) (br_f (by decide) (nm_r (nI_1 f) (H1 (fun _ _ _ _ => y) _ us fin)))⟩⟩) (fun y us => ⟨pk_in (lh_pa W 0 (lh_E d) i) 7 (by omega), nm_r (e' := upd (upd (upd hd (lh_pa W 0 (lh_E d) i) (nI f)) f (nI (lh_pt W 0 (lh_E d) i))) (lh_pa W 0 (lh_E d) i) (nI (lh_pt W 0 (lh_E d) i))) (by rw [ca]) ⟨pk_in f 7 hf, nm_r (e' := upd (upd (upd (upd hd (lh_pa W 0 (lh_E d) i) (nI f)) f (nI (lh_pt W 0 (lh_E d) i))) (lh_pa W 0 (lh_E d) i) (nI (lh_pt W 0 (lh_E d) i))) f (-1)) (by rw [cf]) (br_t rfl (H0 (fun v => y (v there q r c)) _ us))⟩⟩)
  · exact br_t ((lh_hv_pos _ (by omega)).mpr c) (nm_r (nI_1 f) (skip (fun y => c y.2.2)))
theorem lh_y_lg21 {post : Int32 → SY → Prop} {b : Bool} {d i : Nat} (h2 : d < 203) (S : lh_Sy C W nc np cs ns ps ms dv) (ok : lh_ok W np 0 (lh_E d)) (hi : i < np 0) (k : lh_pk W 0 i = true) (ne : lh_pa W 0 (lh_E d) i ≠ lh_pt W 0 (lh_E d) i)
    (H1 : (∀ f, f < 7 → lh_PF C W nc np (b = true) (lh_E d) i f) → ∀ hd us, lh_Ah 7 hd (lh_H W np 0 (lh_E d)) → post 1 (nI (lh_gf (lh_E d) 5), cs, ns, ps, ms, dv, hd, us)) (H0 : (¬ ∀ f, f < 7 → lh_PF C W nc np (b = true) (lh_E d) i f) → ∀ hd us, post 0 (nI (lh_gf (lh_E d) 5), cs, ns, ps, ms, dv, hd, us)) :
    ∀ (n f : Nat) (hd us : Nat → Int32), 7 < n + f → f ≤ 7 → lh_Ah 7 hd (lh_H W np 0 (lh_E d)) → (∀ j, j < f → lh_PF C W nc np (b = true) (lh_E d) i j) → wY_fitLonger_21 post (nI d) (lh_bI (!b)) (nI (lh_pa W 0 (lh_E d) i)) (nI (lh_pt W 0 (lh_E d) i)) n (nI f) (nI (lh_gf (lh_E d) 5)) cs ns ps ms dv hd us := by
  intro n
  induction n with
  | zero => intro f hd us h1 h2; omega
  | succ n ih =>
    intro f hd us h1 h2' hx I
    rw [wY_fitLonger_21]
    refine pk_le 7 f (fun z => ?_) (fun z => ?_)
    · have e : f = 7 := by omega
      rw [e] at I
      exact H1 I hd us hx
    · have next : lh_PF C W nc np (b = true) (lh_E d) i f → ∀ hd us, lh_Ah 7 hd (lh_H W np 0 (lh_E d)) → wY_fitLonger_21 post (nI d) (lh_bI (!b)) (nI (lh_pa W 0 (lh_E d) i)) (nI (lh_pt W 0 (lh_E d) i)) n (nI (f + 1)) (nI (lh_gf (lh_E d) 5)) cs ns ps ms dv hd us := fun p hd us hx => ih (f + 1) hd us (by omega) (by omega) hx (fun j hj => by
        rcases lh_lt_s hj with v | v
        · exact I j v
        · rw [v]; exact p)
      have go : (f = 6 ∨ ∃ a, a < 6 ∧ lh_gf (lh_E d) a = f) → wY_fitLonger_45 post (wY_fitLonger_21 post (nI d) (lh_bI (!b)) (nI (lh_pa W 0 (lh_E d) i)) (nI (lh_pt W 0 (lh_E d) i)) n) (nI d) (lh_bI (!b)) (nI (lh_pa W 0 (lh_E d) i)) (nI (lh_pt W 0 (lh_E d) i)) (nI f) (nI (lh_gf (lh_E d) 5)) cs ns ps ms dv hd us := fun t => lh_y_lg50 h2 z S ok hi k ne hx t next (fun y => H0 (fun v => y (v f z)))
      refine pk_eq f 6 (fun q => go (Or.inl q)) (fun q => lh_y_there h2 z S (fun t => br_f (by decide) (go (Or.inr t))) (fun t => br_t rfl ?_))
      unfold wY_fitLonger_50
      exact br_t rfl (nm_r (nI_1 f) (next (fun y => absurd (y.resolve_left q) t) hd us hx))
theorem lh_y_lg {post : Int32 → SY → Prop} {b : Bool} {d i : Nat} (h2 : d < 203) (S : lh_Sy C W nc np cs ns ps ms dv) (ok : lh_ok W np 0 (lh_E d)) (hi : i < np 0) (k : lh_pk W 0 i = true) (ne : lh_pa W 0 (lh_E d) i ≠ lh_pt W 0 (lh_E d) i) (hx : lh_Ah 7 hd (lh_H W np 0 (lh_E d)))
    (H1 : (∀ f, f < 7 → lh_PF C W nc np (b = true) (lh_E d) i f) → ∀ hd us, lh_Ah 7 hd (lh_H W np 0 (lh_E d)) → post 1 (nI (lh_gf (lh_E d) 5), cs, ns, ps, ms, dv, hd, us)) (H0 : (¬ ∀ f, f < 7 → lh_PF C W nc np (b = true) (lh_E d) i f) → ∀ hd us, post 0 (nI (lh_gf (lh_E d) 5), cs, ns, ps, ms, dv, hd, us)) : wpY_fitLonger post (nI (lh_gf (lh_E d) 5), cs, ns, ps, ms, dv, hd, us) (nI d) (nI i) (lh_bI (!b)) := by
  have h6 := S.2.2.2.2.2.2.2.2 0
  exact lh_y_from (s := 0) (by decide) h2 (by omega) S (lh_y_to (s := 0) (by decide) h2 (by omega) S ⟨8, lh_y_lg21 h2 S ok hi k ne H1 H0 8 0 hd us (by omega) (by omega) hx (fun j hj => absurd hj (Nat.not_lt_zero j))⟩)
theorem lh_y_af0 {post : Int32 → SY → Prop} {J : Int32 → Int32 → (Nat → Int32) → (Nat → Int32) → (Nat → Int32) → (Nat → Int32) → (Nat → Int32) → (Nat → Int32) → (Nat → Int32) → Prop} {x1 x2 x4 : Int32} {n : Nat} (H : post 0 (nl, cs, ns, ps, ms, dv, hd, us)) : wY_allFit_28 post J x1 x2 (n + 1) 0 x4 nl cs ns ps ms dv hd us := by
  rw [wY_allFit_28]
  exact br_c (fun _ => br_t rfl H) (fun _ => br_t rfl (br_t rfl H))
theorem lh_y_af28 {post : Int32 → SY → Prop} {J : Int32 → Int32 → (Nat → Int32) → (Nat → Int32) → (Nat → Int32) → (Nat → Int32) → (Nat → Int32) → (Nat → Int32) → (Nat → Int32) → Prop} {b : Bool} {d : Nat} (h2 : d < 203) (S : lh_Sy C W nc np cs ns ps ms dv) (ok : lh_ok W np 0 (lh_E d)) (Y0 : lh_yf C W nc np (b = true) (lh_E d) (lh_H W np 0 (lh_E d)))
    (H1 : lh_YF C W nc np (b = true) (lh_E d) → ∀ hd us, J (nI (d + 1)) (nI (lh_gf (lh_E d) 5)) cs ns ps ms dv hd us) (H0 : ¬ lh_YF C W nc np (b = true) (lh_E d) → ∀ hd us, post 0 (nI (lh_gf (lh_E d) 5), cs, ns, ps, ms, dv, hd, us)) :
    ∀ (n i : Nat) (hd us : Nat → Int32), np 0 < n + i → i ≤ np 0 → lh_Ah 7 hd (lh_H W np 0 (lh_E d)) → (∀ j, j < i → lh_pk W 0 j = true → lh_pa W 0 (lh_E d) j ≠ lh_pt W 0 (lh_E d) j → ∀ f, f < 7 → lh_PF C W nc np (b = true) (lh_E d) j f) → wY_allFit_28 post J (lh_bI (!b)) (nI d) (n + 1) 1 (nI i) (nI (lh_gf (lh_E d) 5)) cs ns ps ms dv hd us := by
  have h6 := S.2.2.2.2.2.2.2.2 0
  intro n
  induction n with
  | zero => intro i hd us h1 h2; omega
  | succ n ih =>
    intro i hd us h1 h2' hx I
    rw [wY_allFit_28]
    refine pk_le (np 0) i (fun z => ?_) (fun z => br_f (by decide) ?_) (S.2.2.2.1 0)
    · refine br_f (by decide) (nm_r (nI_1 d) (H1 ⟨Y0, fun j hj => I j (by omega)⟩ hd us))
    · have hk : W (6 * 0 + i) ≤ 71 := S.2.2.2.2.2.2.1 _
      have e0 : 6 * 0 + i = i := by omega
      have e1 : ps (nI i).toNatClampNeg = nI (W (6 * 0 + i)) := by rw [e0]; exact lh_rdS S.2.2.1 (by omega)
      have next : (lh_pk W 0 i = true → lh_pa W 0 (lh_E d) i ≠ lh_pt W 0 (lh_E d) i → ∀ f, f < 7 → lh_PF C W nc np (b = true) (lh_E d) i f) → ∀ hd us, lh_Ah 7 hd (lh_H W np 0 (lh_E d)) → wY_allFit_28 post J (lh_bI (!b)) (nI d) (n + 1) 1 (nI (i + 1)) (nI (lh_gf (lh_E d) 5)) cs ns ps ms dv hd us := fun p hd us hx => ih (i + 1) hd us (by omega) (by omega) hx (fun j hj => by
        rcases lh_lt_s hj with v | v
        · exact I j v
        · rw [v]; exact p)
      rw [e1]
      refine ⟨pk_in i 12 (by omega), ?_⟩
      by_cases c : W (6 * 0 + i) < 36
      · refine br_t ((lh_lt36 _ (by omega)).mpr c) ?_
        unfold wY_allFit_70 wY_allFit_71
        exact br_t rfl (nm_r (nI_1 i) (next (fun y => absurd (of_decide_eq_true y) (by omega)) hd us hx))
      · refine br_f (fun y => c ((lh_lt36 _ (by omega)).mp y)) (lh_y_emp (s := 0) (by decide) h2 (by omega) S (fun y => br_f (by decide) ?_) (fun y => br_t rfl ?_))
        · unfold wY_allFit_70 wY_allFit_71
          exact br_t rfl (nm_r (nI_1 i) (next (fun _ v => absurd y.2 v) hd us hx))
        · have kt : lh_pk W 0 i = true := lh_pk_t (by omega)
          have ne : lh_pa W 0 (lh_E d) i ≠ lh_pt W 0 (lh_E d) i := fun v => y ⟨kt, v⟩
          unfold wY_allFit_71
          exact br_f (by decide) (lh_y_lg h2 S ok z kt ne hx (fun v hd us hx => br_f (by decide) (nm_r (nI_1 i) (next (fun _ _ => v) hd us hx))) (fun v hd us => br_t rfl (nm_r (nI_1 i) (lh_y_af0 (H0 (fun u => v (u.2 i z kt ne)) hd us)))))
end
end
section
/-! THE REFERENCE: the loops over the divisions -/
def lh_oJ : Option Nat → Int32
  | none => 100
  | some m => nI m
theorem lh_oJ_n : ∀ m, m < 8 → ¬ nI m = 100 := by decide +kernel
theorem lh_oJ_l : ∀ m, m < 8 → ¬ 100 ≤ nI m := by decide +kernel
theorem lh_se {i : Nat} {P : List Nat → Prop} (I : ∀ j, j < i → P (lh_E j)) (p : P (lh_E i)) : ∀ j, j < i + 1 → P (lh_E j) := by
  intro j hj
  rcases lh_lt_s hj with y | y
  · exact I j y
  · rw [y]; exact p
theorem lh_tg_iff {C W nc np : Nat → Nat} {l : List Nat} (w : lh_wf l) : lh_tg C W nc np l ↔ lh_B C W nc np 0 l ∧ lh_B C W nc np 1 l ∧ lh_src (lh_H W np 0 l) 7 &&& lh_src (lh_H W np 1 l) 7 = 0 := by
  unfold lh_tg
  rw [lh_oks_on, lh_src_and]
  constructor
  · intro ⟨a, b, c, d⟩
    refine ⟨b, ⟨a, c⟩, fun g _ h0 => ?_⟩
    by_cases z : lh_H W np 1 l g = 0
    · exact z
    · exact absurd (d g z) h0
  · intro ⟨b, ⟨a, c⟩, d⟩
    refine ⟨a, b, c, fun g h1 => ?_⟩
    by_cases z : lh_H W np 0 l g = 0
    · exact z
    · exact absurd (d g (Nat.lt_succ_of_lt (lh_H_lt w z)) z) h1
section
variable {nl : Int32} {cs ns ps ms dv hd us : Nat → Int32} {C W nc np : Nat → Nat}
theorem lh_y_poss12 {post : Int32 → SY → Prop} {s : Nat} (hs : s < 2) (S : lh_Sy C W nc np cs ns ps ms dv) (H1 : (∀ i, i < 203 → (fun l => ¬ lh_B C W nc np s l) (lh_E i)) → ∀ (nl : Int32) (hd us : Nat → Int32), post 0 (nl, cs, ns, ps, ms, dv, hd, us)) (H0 : (¬ ∀ i, i < 203 → (fun l => ¬ lh_B C W nc np s l) (lh_E i)) → ∀ (nl : Int32) (hd us : Nat → Int32), post 1 (nl, cs, ns, ps, ms, dv, hd, us)) :
    ∀ (n i : Nat) (nl : Int32) (hd us : Nat → Int32), 203 < n + i → i ≤ 203 → (∀ j, j < i → (fun l => ¬ lh_B C W nc np s l) (lh_E j)) → wY_possible_12 post (nI s) n (nI i) nl cs ns ps ms dv hd us := by
  intro n
  induction n with
  | zero => intro i nl hd us h1 h2; omega
  | succ n ih =>
    intro i nl hd us h1 h2 I
    rw [wY_possible_12]
    refine pk_le 203 i (fun z => ?_) (fun z => ?_)
    · have e : i = 203 := by omega
      rw [e] at I; exact H1 I nl hd us
    · have w := lh_E_wf i z
      have next : (fun l => ¬ lh_B C W nc np s l) (lh_E i) → ∀ (nl : Int32) (hd us : Nat → Int32), wY_possible_12 post (nI s) n (nI (i + 1)) nl cs ns ps ms dv hd us := fun p nl hd us => ih (i + 1) nl hd us (by omega) (by omega) (lh_se (P := fun l => ¬ lh_B C W nc np s l) I p)
      exact lh_y_build hs z S (fun B hd X => br_f (by decide) (H0 (fun y => y i z B) _ hd us)) (fun B hd => br_t rfl (nm_r (nI_1 i) (next B _ hd us)))
theorem lh_y_alw3 {post : Int32 → SY → Prop} {s a b : Nat} {wt : Bool} (hs : s < 2) (ha : a < 6) (hb : b < 6) (S : lh_Sy C W nc np cs ns ps ms dv) (H1 : (∀ i, i < 203 → (fun l => ¬ (lh_gf l a = lh_gf l b ↔ wt = true) → ¬ lh_B C W nc np s l) (lh_E i)) → ∀ (nl : Int32) (hd us : Nat → Int32), post 1 (nl, cs, ns, ps, ms, dv, hd, us)) (H0 : (¬ ∀ i, i < 203 → (fun l => ¬ (lh_gf l a = lh_gf l b ↔ wt = true) → ¬ lh_B C W nc np s l) (lh_E i)) → ∀ (nl : Int32) (hd us : Nat → Int32), post 0 (nl, cs, ns, ps, ms, dv, hd, us)) :
    ∀ (n i : Nat) (nl : Int32) (hd us : Nat → Int32), 203 < n + i → i ≤ 203 → (∀ j, j < i → (fun l => ¬ (lh_gf l a = lh_gf l b ↔ wt = true) → ¬ lh_B C W nc np s l) (lh_E j)) → wY_always_3 post (nI s) (nI a) (nI b) (lh_bI wt) n (nI i) nl cs ns ps ms dv hd us := by
  intro n
  induction n with
  | zero => intro i nl hd us h1 h2; omega
  | succ n ih =>
    intro i nl hd us h1 h2 I
    rw [wY_always_3]
    refine pk_le 203 i (fun z => ?_) (fun z => ?_)
    · have e : i = 203 := by omega
      rw [e] at I; exact H1 I nl hd us
    · have w := lh_E_wf i z
      have next : (fun l => ¬ (lh_gf l a = lh_gf l b ↔ wt = true) → ¬ lh_B C W nc np s l) (lh_E i) → ∀ (nl : Int32) (hd us : Nat → Int32), wY_always_3 post (nI s) (nI a) (nI b) (lh_bI wt) n (nI (i + 1)) nl cs ns ps ms dv hd us := fun p nl hd us => ih (i + 1) nl hd us (by omega) (by omega) (lh_se (P := fun l => ¬ (lh_gf l a = lh_gf l b ↔ wt = true) → ¬ lh_B C W nc np s l) I p)
      have la := w.2.1 a
      have lb := w.2.1 b
      have fin : ∀ zf : Bool, (lh_gf (lh_E i) a = lh_gf (lh_E i) b ↔ zf = true) → wY_always_33 post (wY_always_3 post (nI s) (nI a) (nI b) (lh_bI wt) n) (nI s) (nI a) (nI b) (lh_bI wt) (nI i) (lh_bI zf) nl cs ns ps ms dv hd us := by
        intro zf hz
        unfold wY_always_33
        refine lh_y_build hs z S (fun B hd X => br_f (by decide) ?_) (fun B hd => br_t rfl (nm_r (nI_1 i) (next (fun _ => B) _ hd us)))
        by_cases c : zf = wt
        · exact br_t (by rw [c]) (nm_r (nI_1 i) (next (fun y => absurd (by rw [hz, c]) y) _ hd us))
        · refine br_f (fun y => c ?_) (H0 (fun y => y i z (fun v => c ?_) B) _ hd us)
          · cases zf <;> cases wt <;> first | rfl | exact absurd y (by decide)
          · rw [hz] at v
            cases zf <;> cases wt <;> simp at v <;> rfl
      exact lh_y_grp S z ha (lh_y_grp S z hb (pk_eq (lh_gf (lh_E i) a) (lh_gf (lh_E i) b) (fun q => fin true ⟨fun _ => rfl, fun _ => q⟩) (fun q => fin false ⟨fun y => absurd y q, fun y => absurd y (by decide)⟩)))
theorem lh_y_held20 {post : Int32 → SY → Prop} {s a : Nat} (hs : s < 2) (ha : a < 6) (S : lh_Sy C W nc np cs ns ps ms dv) (H1 : (∀ i, i < 203 → (fun l => lh_B C W nc np s l → lh_H W np s l (lh_gf l a) ≠ 0) (lh_E i)) → ∀ (nl : Int32) (hd us : Nat → Int32), post 1 (nl, cs, ns, ps, ms, dv, hd, us)) (H0 : (¬ ∀ i, i < 203 → (fun l => lh_B C W nc np s l → lh_H W np s l (lh_gf l a) ≠ 0) (lh_E i)) → ∀ (nl : Int32) (hd us : Nat → Int32), post 0 (nl, cs, ns, ps, ms, dv, hd, us)) :
    ∀ (n i : Nat) (nl : Int32) (hd us : Nat → Int32), 203 < n + i → i ≤ 203 → (∀ j, j < i → (fun l => lh_B C W nc np s l → lh_H W np s l (lh_gf l a) ≠ 0) (lh_E j)) → wY_held_20 post (nI s) (nI a) n (nI i) nl cs ns ps ms dv hd us := by
  intro n
  induction n with
  | zero => intro i nl hd us h1 h2; omega
  | succ n ih =>
    intro i nl hd us h1 h2 I
    rw [wY_held_20]
    refine pk_le 203 i (fun z => ?_) (fun z => ?_)
    · have e : i = 203 := by omega
      rw [e] at I; exact H1 I nl hd us
    · have w := lh_E_wf i z
      have next : (fun l => lh_B C W nc np s l → lh_H W np s l (lh_gf l a) ≠ 0) (lh_E i) → ∀ (nl : Int32) (hd us : Nat → Int32), wY_held_20 post (nI s) (nI a) n (nI (i + 1)) nl cs ns ps ms dv hd us := fun p nl hd us => ih (i + 1) nl hd us (by omega) (by omega) (lh_se (P := fun l => lh_B C W nc np s l → lh_H W np s l (lh_gf l a) ≠ 0) I p)
      have la := w.2.1 a
      have b := lh_H_le (W := W) (np := np) (s := s) w (lh_gf (lh_E i) a)
      refine lh_y_build hs z S (fun B hd X => br_f (by decide) (lh_y_grp S z ha ⟨pk_in (lh_gf (lh_E i) a) 7 (by omega), ?_⟩)) (fun B hd => br_t rfl (nm_r (nI_1 i) (next (fun y => absurd y B) _ hd us)))
      have e1 : hd (nI (lh_gf (lh_E i) a)).toNatClampNeg = lh_hv (lh_H W np s (lh_E i) (lh_gf (lh_E i) a)) := lh_rdH X (by omega) (by decide)
      rw [e1]
      by_cases c : lh_H W np s (lh_E i) (lh_gf (lh_E i) a) = 0
      · exact br_f (fun y => absurd c ((lh_hv_pos _ (by omega)).mp y)) (H0 (fun y => y i z B c) _ hd us)
      · exact br_t ((lh_hv_pos _ (by omega)).mpr c) (nm_r (nI_1 i) (next (fun _ => c) _ hd us))
theorem lh_y_reach29 {post : Int32 → SY → Prop} {s a b : Nat} (hs : s < 2) (ha : a < 6) (hb : b < 6) (S : lh_Sy C W nc np cs ns ps ms dv) (H1 : (∀ i, i < 203 → (fun l => lh_B C W nc np s l → ∃ q, lh_pth (lh_H W np s l) (lh_gf l b) (lh_gf l a) q) (lh_E i)) → ∀ (nl : Int32) (hd us : Nat → Int32), post 1 (nl, cs, ns, ps, ms, dv, hd, us)) (H0 : (¬ ∀ i, i < 203 → (fun l => lh_B C W nc np s l → ∃ q, lh_pth (lh_H W np s l) (lh_gf l b) (lh_gf l a) q) (lh_E i)) → ∀ (nl : Int32) (hd us : Nat → Int32), post 0 (nl, cs, ns, ps, ms, dv, hd, us)) :
    ∀ (n i : Nat) (nl : Int32) (hd us : Nat → Int32), 203 < n + i → i ≤ 203 → (∀ j, j < i → (fun l => lh_B C W nc np s l → ∃ q, lh_pth (lh_H W np s l) (lh_gf l b) (lh_gf l a) q) (lh_E j)) → wY_reaches_29 post (nI s) (nI a) (nI b) n (nI i) nl cs ns ps ms dv hd us := by
  intro n
  induction n with
  | zero => intro i nl hd us h1 h2; omega
  | succ n ih =>
    intro i nl hd us h1 h2 I
    rw [wY_reaches_29]
    refine pk_le 203 i (fun z => ?_) (fun z => ?_)
    · have e : i = 203 := by omega
      rw [e] at I; exact H1 I nl hd us
    · have w := lh_E_wf i z
      have next : (fun l => lh_B C W nc np s l → ∃ q, lh_pth (lh_H W np s l) (lh_gf l b) (lh_gf l a) q) (lh_E i) → ∀ (nl : Int32) (hd us : Nat → Int32), wY_reaches_29 post (nI s) (nI a) (nI b) n (nI (i + 1)) nl cs ns ps ms dv hd us := fun p nl hd us => ih (i + 1) nl hd us (by omega) (by omega) (lh_se (P := fun l => lh_B C W nc np s l → ∃ q, lh_pth (lh_H W np s l) (lh_gf l b) (lh_gf l a) q) I p)
      exact lh_y_build hs z S (fun B hd X => br_f (by decide) (lh_y_grp S z ha (lh_y_grp S z hb (lh_y_comes (w.2.1 a) (w.2.1 b) (w.2.1 5) (lh_H_nl B.2) ⟨fun x hx => lh_H_lt w hx, fun x => lh_H_le w x⟩ X (fun y => br_f (by decide) (nm_r (nI_1 i) (next (fun _ => y) _ hd us))) (fun y => br_t rfl (H0 (fun v => y (v i z B)) _ hd us)))))) (fun B hd => br_t rfl (nm_r (nI_1 i) (next (fun y => absurd y B) _ hd us)))
theorem lh_y_all2 {post : Int32 → SY → Prop} {b : Bool}  (S : lh_Sy C W nc np cs ns ps ms dv) (H1 : (∀ i, i < 203 → (fun l => lh_B C W nc np 0 l → lh_YF C W nc np (b = true) l) (lh_E i)) → ∀ (nl : Int32) (hd us : Nat → Int32), post 1 (nl, cs, ns, ps, ms, dv, hd, us)) (H0 : (¬ ∀ i, i < 203 → (fun l => lh_B C W nc np 0 l → lh_YF C W nc np (b = true) l) (lh_E i)) → ∀ (nl : Int32) (hd us : Nat → Int32), post 0 (nl, cs, ns, ps, ms, dv, hd, us)) :
    ∀ (n i : Nat) (nl : Int32) (hd us : Nat → Int32), 203 < n + i → i ≤ 203 → (∀ j, j < i → (fun l => lh_B C W nc np 0 l → lh_YF C W nc np (b = true) l) (lh_E j)) → wY_allFit_2 post (lh_bI (!b)) n (nI i) nl cs ns ps ms dv hd us := by
  intro n
  induction n with
  | zero => intro i nl hd us h1 h2; omega
  | succ n ih =>
    intro i nl hd us h1 h2 I
    rw [wY_allFit_2]
    refine pk_le 203 i (fun z => ?_) (fun z => ?_)
    · have e : i = 203 := by omega
      rw [e] at I; exact H1 I nl hd us
    · have w := lh_E_wf i z
      have next : (fun l => lh_B C W nc np 0 l → lh_YF C W nc np (b = true) l) (lh_E i) → ∀ (nl : Int32) (hd us : Nat → Int32), wY_allFit_2 post (lh_bI (!b)) n (nI (i + 1)) nl cs ns ps ms dv hd us := fun p nl hd us => ih (i + 1) nl hd us (by omega) (by omega) (lh_se (P := fun l => lh_B C W nc np 0 l → lh_YF C W nc np (b = true) l) I p)
      refine lh_y_build (s := 0) (by decide) z S (fun B hd X => br_f (by decide) ?_) (fun B hd => br_t rfl (nm_r (nI_1 i) (next (fun y => absurd y B) _ hd us)))
      refine lh_y_fits (b := b) z (Nat.lt_succ_of_lt (w.2.1 5)) (lh_H_nl B.2) ⟨fun x hx => Nat.lt_succ_of_lt (lh_H_lt w hx), fun x => Nat.le_succ_of_le (lh_H_le w x)⟩ X S (fun y us => ⟨np 0 + 1 + 1, lh_y_af28 z S B.2 y (fun v hd us => next (fun _ => v) _ hd us) (fun v hd us => H0 (fun u => v (u i z B)) _ hd us) (np 0 + 1) 0 hd us (by omega) (by omega) X (fun j hj => absurd hj (Nat.not_lt_zero j))⟩) (fun y us => ⟨0 + 1, lh_y_af0 (H0 (fun u => y (u i z B).1) _ hd us)⟩)
theorem lh_y_tog2 {post : Int32 → SY → Prop}   (S : lh_Sy C W nc np cs ns ps ms dv) (H1 : (∀ i, i < 203 → (fun l => ¬ lh_tg C W nc np l) (lh_E i)) → ∀ (nl : Int32) (hd us : Nat → Int32), post 0 (nl, cs, ns, ps, ms, dv, hd, us)) (H0 : (¬ ∀ i, i < 203 → (fun l => ¬ lh_tg C W nc np l) (lh_E i)) → ∀ (nl : Int32) (hd us : Nat → Int32), post 1 (nl, cs, ns, ps, ms, dv, hd, us)) :
    ∀ (n i : Nat) (nl : Int32) (hd us : Nat → Int32), 203 < n + i → i ≤ 203 → (∀ j, j < i → (fun l => ¬ lh_tg C W nc np l) (lh_E j)) → wY_together_2 post n (nI i) nl cs ns ps ms dv hd us := by
  intro n
  induction n with
  | zero => intro i nl hd us h1 h2; omega
  | succ n ih =>
    intro i nl hd us h1 h2 I
    rw [wY_together_2]
    refine pk_le 203 i (fun z => ?_) (fun z => ?_)
    · have e : i = 203 := by omega
      rw [e] at I; exact H1 I nl hd us
    · have w := lh_E_wf i z
      have next : (fun l => ¬ lh_tg C W nc np l) (lh_E i) → ∀ (nl : Int32) (hd us : Nat → Int32), wY_together_2 post n (nI (i + 1)) nl cs ns ps ms dv hd us := fun p nl hd us => ih (i + 1) nl hd us (by omega) (by omega) (lh_se (P := fun l => ¬ lh_tg C W nc np l) I p)
      have tg := lh_tg_iff (C := C) (W := W) (nc := nc) (np := np) w
      have s0 := lh_src_lt (h := lh_H W np 0 (lh_E i)) 7
      have s1 := lh_src_lt (h := lh_H W np 1 (lh_E i)) 7
      have no : ¬ lh_tg C W nc np (lh_E i) → ∀ (x2 z0 nl : Int32) (hd us : Nat → Int32), (x2 < 0 ∨ z0 < 0) → wY_together_44 post (wY_together_2 post n) (nI i) x2 z0 nl cs ns ps ms dv hd us := by
        intro p x2 z0 nl hd us h
        unfold wY_together_44
        by_cases c : x2 < 0
        · exact br_t c (nm_r (nI_1 i) (next p nl hd us))
        · exact br_f c (br_t (h.resolve_left c) (nm_r (nI_1 i) (next p nl hd us)))
      refine lh_y_build (s := 0) (by decide) z S (fun B hd X => br_f (by decide) ?_) (fun B hd => br_t rfl ?_)
      · refine lh_y_src (h := lh_H W np 0 (lh_E i)) (fun x => lh_H_le w x) X ?_
        unfold wY_together_26
        refine lh_y_build (s := 1) (by decide) z S (fun B' hd X' => br_f (by decide) ?_) (fun B' hd => br_t rfl (no (fun y => B' (tg.mp y).2.1) _ _ _ hd us (Or.inr (by decide))))
        refine lh_y_src (h := lh_H W np 1 (lh_E i)) (fun x => lh_H_le w x) X' ?_
        unfold wY_together_44
        refine br_f (nI_pos (by omega)) (br_f (nI_pos (by omega)) ?_)
        rw [nx_and]
        have le : lh_src (lh_H W np 0 (lh_E i)) 7 &&& lh_src (lh_H W np 1 (lh_E i)) 7 ≤ lh_src (lh_H W np 0 (lh_E i)) 7 := Nat.and_le_left
        exact pk_eq (lh_src (lh_H W np 0 (lh_E i)) 7 &&& lh_src (lh_H W np 1 (lh_E i)) 7) 0 (fun q => H0 (fun y => y i z (tg.mpr ⟨B, B', q⟩)) _ hd us) (fun q => nm_r (nI_1 i) (next (fun y => q (tg.mp y).2.2) _ hd us))
      · have p : ¬ lh_tg C W nc np (lh_E i) := fun y => B (tg.mp y).1
        unfold wY_together_26
        refine lh_y_build (s := 1) (by decide) z S (fun B' hd X' => br_f (by decide) ?_) (fun B' hd => br_t rfl (no p _ _ _ hd us (Or.inl (by decide))))
        exact lh_y_src (fun x => lh_H_le w x) X' (no p _ _ _ hd us (Or.inl (by decide)))
theorem lh_y_div14 {post : Int32 → SY → Prop} {s : Nat} (hs : s < 2) (S : lh_Sy C W nc np cs ns ps ms dv) (H : ∀ (nl : Int32) (hd us : Nat → Int32), post (nI (lh_ct lh_E (lh_Bb (lh_B C W nc np s)) 203)) (nl, cs, ns, ps, ms, dv, hd, us)) :
    ∀ (n i : Nat) (nl : Int32) (hd us : Nat → Int32), 203 < n + i → i ≤ 203 → wY_divisions_14 post (nI s) n (nI (lh_ct lh_E (lh_Bb (lh_B C W nc np s)) i)) (nI i) nl cs ns ps ms dv hd us := by
  intro n
  induction n with
  | zero => intro i nl hd us h1 h2; omega
  | succ n ih =>
    intro i nl hd us h1 h2
    rw [wY_divisions_14]
    refine pk_le 203 i (fun z => ?_) (fun z => ?_)
    · have e : i = 203 := by omega
      rw [e]; exact H nl hd us
    · refine lh_y_build hs z S (fun B hd X => br_f (by decide) (nm_r (nI_1 _) (nm_r (nI_1 i) ?_))) (fun B hd => br_t rfl (nm_r (nI_1 i) ?_))
      · have q := ih (i + 1) (nI (lh_gf (lh_E i) 5)) hd us (by omega) (by omega)
        rw [lh_ct_t B] at q
        exact q
      · have q := ih (i + 1) (nI (lh_gf (lh_E i) 5)) hd us (by omega) (by omega)
        rw [lh_ct_f B] at q
        exact q
theorem lh_y_least15 {post : Int32 → SY → Prop} {s : Nat} (hs : s < 2) (S : lh_Sy C W nc np cs ns ps ms dv) (H : ∀ o, lh_mn (lh_B C W nc np s) (lh_cc W np s) lh_E 203 o → ∀ (nl : Int32) (hd us : Nat → Int32), post (lh_oI o) (nl, cs, ns, ps, ms, dv, hd, us)) :
    ∀ (n i : Nat) (o : Option Nat) (nl : Int32) (hd us : Nat → Int32), 203 < n + i → i ≤ 203 → lh_mn (lh_B C W nc np s) (lh_cc W np s) lh_E i o → (∀ m, o = some m → m ≤ 6) → wY_least_15 post (nI s) n (lh_oJ o) (nI i) nl cs ns ps ms dv hd us := by
  intro n
  induction n with
  | zero => intro i o nl hd us h1 h2; omega
  | succ n ih =>
    intro i o nl hd us h1 h2 I b
    rw [wY_least_15]
    refine pk_le 203 i (fun z => ?_) (fun z => ?_)
    · have e : i = 203 := by omega
      rw [e] at I
      cases o with
      | none => exact br_t rfl (H none I nl hd us)
      | some m =>
        have bm := b m rfl
        exact br_f (lh_oJ_n m (by omega)) (H (some m) I nl hd us)
    · have w := lh_E_wf i z
      have c6 : lh_cc W np s (lh_E i) ≤ 6 := lh_cc_le
      refine lh_y_build hs z S (fun B hd X => ?_) (fun B hd => lh_y_cells' (fun r => br_t rfl (nm_r (nI_1 i) (ih (i + 1) o _ hd us (by omega) (by omega) (lh_mn_no I B) b))))
      have nw : (∀ m, o = some m → lh_cc W np s (lh_E i) < m) → wY_least_15 post (nI s) n (nI (lh_cc W np s (lh_E i))) (nI (i + 1)) (nI (lh_gf (lh_E i) 5)) cs ns ps ms dv hd us := fun lt => ih (i + 1) (some (lh_cc W np s (lh_E i))) _ hd us (by omega) (by omega) (lh_mn_new I B lt) (fun m e => by cases e; exact c6)
      refine lh_y_cells (h := lh_H W np s (lh_E i)) (fun x => lh_H_le w x) (lh_H_6 w) X (br_f (by decide) ?_)
      cases o with
      | none => exact br_f (lh_oJ_l _ (Nat.lt_of_le_of_lt c6 (by decide))) (nm_r (nI_1 i) (nw (fun m e => nomatch e)))
      | some m =>
        have bm := b m rfl
        exact pk_le m (lh_cc W np s (lh_E i)) (fun q => nm_r (nI_1 i) (ih (i + 1) (some m) _ hd us (by omega) (by omega) (lh_mn_old I q) b)) (fun q => nm_r (nI_1 i) (nw (fun m' e => by cases e; exact q)))
theorem lh_y_most15 {post : Int32 → SY → Prop} {s : Nat} (hs : s < 2) (S : lh_Sy C W nc np cs ns ps ms dv) (H : (∀ i, i < 203 → (fun l => lh_B C W nc np s l → ¬ lh_any6 (lh_Q W np s l)) (lh_E i)) → ∀ o, lh_mx (lh_B C W nc np s) (lh_cc W np s) lh_E 203 o → ∀ (nl : Int32) (hd us : Nat → Int32), post (lh_oI o) (nl, cs, ns, ps, ms, dv, hd, us)) (H0 : (¬ ∀ i, i < 203 → (fun l => lh_B C W nc np s l → ¬ lh_any6 (lh_Q W np s l)) (lh_E i)) → ∀ (nl : Int32) (hd us : Nat → Int32), post (-3) (nl, cs, ns, ps, ms, dv, hd, us)) :
    ∀ (n i : Nat) (o : Option Nat) (nl : Int32) (hd us : Nat → Int32), 203 < n + i → i ≤ 203 → (∀ j, j < i → (fun l => lh_B C W nc np s l → ¬ lh_any6 (lh_Q W np s l)) (lh_E j)) → lh_mx (lh_B C W nc np s) (lh_cc W np s) lh_E i o → (∀ m, o = some m → m ≤ 6) → wY_most_15 post (nI s) n (lh_oI o) (nI i) nl cs ns ps ms dv hd us := by
  intro n
  induction n with
  | zero => intro i o nl hd us h1 h2; omega
  | succ n ih =>
    intro i o nl hd us h1 h2 N I b
    rw [wY_most_15]
    refine pk_le 203 i (fun z => ?_) (fun z => ?_)
    · have e : i = 203 := by omega
      rw [e] at I N; exact H N o I nl hd us
    · have w := lh_E_wf i z
      have c6 : lh_cc W np s (lh_E i) ≤ 6 := lh_cc_le
      have next : (lh_B C W nc np s (lh_E i) → ¬ lh_any6 (lh_Q W np s (lh_E i))) → ∀ o', lh_mx (lh_B C W nc np s) (lh_cc W np s) lh_E (i + 1) o' → (∀ m, o' = some m → m ≤ 6) → ∀ (nl : Int32) (hd us : Nat → Int32), wY_most_15 post (nI s) n (lh_oI o') (nI (i + 1)) nl cs ns ps ms dv hd us := fun p o' I' b' nl hd us => ih (i + 1) o' nl hd us (by omega) (by omega) (lh_se (P := fun l => lh_B C W nc np s l → ¬ lh_any6 (lh_Q W np s l)) N p) I' b'
      refine lh_y_build hs z S (fun B hd X => br_f (by decide) ?_) (fun B hd => br_t rfl (nm_r (nI_1 i) (next (fun y => absurd y B) o (lh_mx_no I B) b _ hd us)))
      refine lh_y_hl hs z S B.2 (fun a => br_f (by decide) (H0 (fun y => y i z B a) _ hd us)) (fun a => br_t rfl ?_)
      have nw : (∀ m, o = some m → m < lh_cc W np s (lh_E i)) → wY_most_15 post (nI s) n (nI (lh_cc W np s (lh_E i))) (nI (i + 1)) (nI (lh_gf (lh_E i) 5)) cs ns ps ms dv hd us := fun lt => next (fun _ => a) (some (lh_cc W np s (lh_E i))) (lh_mx_new I B lt) (fun m e => by cases e; exact c6) _ hd us
      refine lh_y_cells (h := lh_H W np s (lh_E i)) (fun x => lh_H_le w x) (lh_H_6 w) X ?_
      cases o with
      | none => exact br_f (lh_oI_l _ (Nat.lt_of_le_of_lt c6 (by decide))) (nm_r (nI_1 i) (nw (fun m e => nomatch e)))
      | some m =>
        have bm := b m rfl
        exact pk_le (lh_cc W np s (lh_E i)) m (fun q => nm_r (nI_1 i) (next (fun _ => a) (some m) (lh_mx_old I q) b _ hd us)) (fun q => nm_r (nI_1 i) (nw (fun m' e => by cases e; exact q)))
end
end
section
/-! THE REFERENCE: its constructor -/
theorem lh_hv_g : ∀ ms, ms < 8 → ∀ g, g < 8 → (lh_hv ms + 1 < nI g ↔ ms < g) := by decide +kernel
theorem lh_hv_h : ∀ ms, ms < 8 → ∀ g, g < 8 → (nI g ≤ lh_hv ms ↔ g < ms) := by decide +kernel
section
variable {nl : Int32} {cs ns ps ms dv hd us : Nat → Int32}
theorem lh_y_in83 {post : SY → Prop} {J : Int32 → Int32 → (Nat → Int32) → (Nat → Int32) → (Nat → Int32) → (Nat → Int32) → (Nat → Int32) → (Nat → Int32) → (Nat → Int32) → Prop} {N cnt : Nat} (hN : N < 46656) (hc : lh_pr 6 N 0 = true → cnt < 203)
    (HF : lh_pr 6 N 0 = false → J (nI cnt) (nI (N + 1)) cs ns ps ms dv hd us) (HT : lh_pr 6 N 0 = true → J (nI (cnt + 1)) (nI (N + 1)) cs ns ps ms (upd dv cnt (nI (lh_cd 6 N))) hd us) :
    ∀ (m i c r e n : Nat) (p : Bool), i + m = 6 → m < n → lh_in N i c r e p → wY_init_83 post J (nI cnt) (nI N) nl cs ns ps ms dv hd us n (nI c) (nI r) (lh_hv e) (lh_bI p) (nI i) := by
  intro m
  induction m with
  | zero =>
    intro i c r e n p him hn I
    obtain ⟨n, rfl⟩ : ∃ m, n = m + 1 := ⟨n - 1, by omega⟩
    have e6 : i = 6 := by omega
    subst e6
    obtain ⟨e1, e2⟩ := lh_in_6 I
    rw [wY_init_83]
    refine br_t (by decide) ?_
    cases p with
    | false => exact br_t rfl (nm_r (nI_1 N) (HF e2.symm))
    | true =>
      have c3 := hc e2.symm
      exact br_f (by decide) ⟨pk_in cnt 203 c3, nm_r (e' := upd dv cnt (nI (lh_cd 6 N))) (by rw [nI_clamp (by omega), e1]) (nm_r (nI_1 cnt) (nm_r (nI_1 N) (HT e2.symm)))⟩
  | succ m ih =>
    intro i c r e n p him hn I
    obtain ⟨n, rfl⟩ : ∃ m, n = m + 1 := ⟨n - 1, by omega⟩
    have hi : i < 6 := by omega
    have I' := lh_in_s hi I
    obtain ⟨_, c2, r2, e2, _, _⟩ := I
    have m6 : r % 6 < 6 := Nat.mod_lt _ (by decide)
    have fin : ∀ p', lh_in N (i + 1) (c + 2 ^ (3 * i) * (r % 6)) (r / 6) (if e ≤ r % 6 then r % 6 + 1 else e) p' → wY_init_123 post J (wY_init_83 post J (nI cnt) (nI N) nl cs ns ps ms dv hd us n) (nI cnt) (nI N) (nI c) (nI (r / 6)) (lh_hv e) (nI i) (nI (r % 6)) (lh_bI p') nl cs ns ps ms dv hd us := by
      intro p' K
      have q := ih (i + 1) _ _ _ n p' (by omega) (by omega) K
      have sh : nI c ||| (nI (r % 6) <<< ((3 * nI i) &&& 31)) = nI (c + 2 ^ (3 * i) * (r % 6)) := by
        rw [show (3 : Int32) * nI i = nI (3 * i) from pk_mul 3 i]
        exact lh_cdo hi m6 c2
      unfold wY_init_123 wY_init_139
      by_cases k : e ≤ r % 6
      · rw [if_pos k] at q
        exact br_f (fun y => absurd ((lh_hv_h _ (by omega) _ (by omega)).mp y) (by omega)) (nm_r sh (nm_r (nI_1 i) q))
      · rw [if_neg k] at q
        exact br_t ((lh_hv_h _ (by omega) _ (by omega)).mpr (by omega)) (nm_r sh (nm_r (nI_1 i) q))
    rw [wY_init_83]
    refine br_f (nI_ge (b := 6) hi (by decide)) ⟨by decide, nm_r (e' := nI (r % 6)) (pk_rem (d := 6) (by omega) (by decide) (by decide)) ⟨by decide, nm_r (e' := nI (r / 6)) (pk_div (d := 6) (by omega) (by decide) (by decide)) ?_⟩⟩
    cases p with
    | false => exact br_t rfl (fin false I')
    | true =>
      by_cases k : r % 6 ≤ e
      · rw [decide_eq_true k] at I'
        exact br_f (by decide) (br_f (fun y => absurd ((lh_hv_g _ (by omega) _ (by omega)).mp y) (by omega)) (fin true I'))
      · rw [decide_eq_false k] at I'
        exact br_f (by decide) (br_t ((lh_hv_g _ (by omega) _ (by omega)).mpr (by omega)) (fin false I'))
theorem lh_y_in63 {post : SY → Prop} (H : ∀ dv, (∀ j, j < 203 → dv j = nI (lh_Ec j)) → post (nl, cs, ns, ps, ms, dv, hd, us)) : ∀ (n N : Nat) (dv : Nat → Int32), 46656 < n + N → N ≤ 46656 → lh_AD dv (lh_F N) → wY_init_63 post nl n (nI (lh_F N).length) (nI N) cs ns ps ms dv hd us := by
  intro n
  induction n with
  | zero => intro N dv h1 h2; omega
  | succ n ih =>
    intro N dv h1 h2 A
    rw [wY_init_63]
    refine pk_le 46656 N (fun z => ?_) (fun z => ⟨7, lh_y_in83 z (fun p => lh_F_lt z p) (fun p => ?_) (fun p => ?_) 6 0 0 N 0 7 true (by omega) (by omega) (lh_in_0 N)⟩)
    · have e : N = 46656 := by omega
      rw [e] at A
      exact H dv (lh_AD_end A)
    · have q := ih (N + 1) dv (by omega) (by omega) (by rw [lh_F_f p]; exact A)
      rw [lh_F_f p] at q
      exact q
    · have q := ih (N + 1) (upd dv (lh_F N).length (nI (lh_cd 6 N))) (by omega) (by omega) (by rw [lh_F_t p]; exact lh_AD_snoc A)
      rw [lh_F_t p, List.length_append] at q
      exact q
end
theorem lh_y_init {post : SY → Prop} (H : ∀ dv, (∀ j, j < 203 → dv j = nI (lh_Ec j)) → post (0, (fun _ => 0), (fun _ => 0), (fun _ => 0), (fun _ => 0), dv, (fun _ => 0), (fun _ => 0))) : wpY_init post :=
  Exists.intro 46657 (lh_y_in63 H 46657 0 _ (by omega) (by omega) (fun j hj => absurd hj (Nat.not_lt_zero j)))
end
section
/-! THE RELATION, and the guards of the arguments -/
def i_Rel (k : Nat) (u : SX) (v : SY) : Prop := match u, v with
  | (fc, cc, ck, cl, cr, pc, pk, pf, pt, g, nx, en, pn, pe, fr, tk), (nl, cs, ns, ps, ms, dv, hd, us) => ∃ C W nc np : Nat → Nat, lh_St C W nc np cc ck cl cr pc pk pf pt ∧ lh_Sy C W nc np cs ns ps ms dv
theorem i_up {k : Nat} {u : SX} {v : SY} (h : i_Rel k u v) : i_Rel (k + 4) u v := h
def lh_g1 (x : Int32) : Prop := ∃ s : Nat, s < 2 ∧ x = nI s
def lh_g2 (x y : Int32) : Prop := ∃ s a : Nat, s < 2 ∧ a < 6 ∧ x = nI s ∧ y = nI a
def lh_g3 (x y z : Int32) : Prop := ∃ s a b : Nat, s < 2 ∧ a < 6 ∧ b < 6 ∧ x = nI s ∧ y = nI a ∧ z = nI b
theorem lh_Pu {a : Nat → Int32} {F f : Nat → Nat} (h : ∀ i, a i = nI (F (f i))) (k v : Nat) {x : Int32} (e : x = nI (F v)) : ∀ i, upd a k x i = nI (F (lh_up f k v i)) := by
  intro i
  by_cases c : i = k
  · rw [c, pk_us, lh_up_s]; exact e
  · rw [pk_un c, lh_up_o c]; exact h i
theorem lh_sw_p {a : Nat → Int32} {F f : Nat → Nat} {K i : Nat} (hi : i < K) (h : ∀ j, a j = nI (F (lh_sw K f i j))) : ∀ j, upd (upd a i (a (K + i))) (K + i) (a i) j = nI (F (lh_sw K f (i + 1) j)) := by
  have e : a = fun j => nI (F (lh_sw K f i j)) := funext h
  intro j
  rw [e]
  exact congrFun (lh_sw_s hi) j
theorem lh_pred {n : Nat} (h : n ≠ 0) : nI n - 1 = nI (n - 1) := by
  have e : n = (n - 1) + 1 := by omega
  have q := nI_pred (n - 1)
  rw [← e] at q
  exact q
theorem lh_upd_self {a : Nat → Int32} {k : Nat} : upd a k (a k) = a := by
  funext j
  by_cases e : j = k
  · rw [e, pk_us]
  · rw [pk_un e]
section
variable {fc : Int32} {cc ck cl cr pc pk pf pt g nx en pn pe fr tk : Nat → Int32} {nl : Int32} {cs ns ps ms dv hd us : Nat → Int32} {C W nc np : Nat → Nat}
theorem lh_mkR {k : Nat} (S : lh_St C W nc np cc ck cl cr pc pk pf pt) (Y : lh_Sy C W nc np cs ns ps ms dv) : i_Rel k (fc, cc, ck, cl, cr, pc, pk, pf, pt, g, nx, en, pn, pe, fr, tk) (nl, cs, ns, ps, ms, dv, hd, us) := Exists.intro C ⟨W, nc, np, S, Y⟩
theorem lh_x_g1 {A B : Prop} {x : Int32} (HB : ∀ s, s < 2 → x = nI s → B) (HA : ¬ lh_g1 x → A) : wpX_isClaim (fun r_1 => (r_1 = 0 → A) ∧ (¬ r_1 = 0 → B)) x :=
  lh_x_claim (fun s hs e1 => br_f (by decide) (HB s hs e1)) (fun h => br_t rfl (HA h))
theorem lh_x_g2 {A B : Prop} {x y : Int32} (HB : ∀ s a, s < 2 → a < 6 → x = nI s → y = nI a → B) (HA : ¬ lh_g2 x y → A) : wpX_isClaim (fun r_1 => (r_1 = 0 → A) ∧ (¬ r_1 = 0 → wpX_isTerm (fun r_3 => (r_3 = 0 → A) ∧ (¬ r_3 = 0 → B)) y)) x :=
  lh_x_claim (fun s hs e1 => br_f (by decide) (lh_x_term (fun a ha e2 => br_f (by decide) (HB s a hs ha e1 e2)) (fun h => br_t rfl (HA (fun ⟨_, a, _, ha, _, e⟩ => h ⟨a, ha, e⟩))))) (fun h => br_t rfl (HA (fun ⟨s, _, hs, _, e, _⟩ => h ⟨s, hs, e⟩)))
theorem lh_x_g3 {A B : Prop} {x y z : Int32} (HB : ∀ s a b, s < 2 → a < 6 → b < 6 → x = nI s → y = nI a → z = nI b → B) (HA : ¬ lh_g3 x y z → A) : wpX_isClaim (fun r_1 => (r_1 = 0 → A) ∧ (¬ r_1 = 0 → wpX_isTerm (fun r_3 => (r_3 = 0 → A) ∧ (¬ r_3 = 0 → wpX_isTerm (fun r_5 => (r_5 = 0 → A) ∧ (¬ r_5 = 0 → B)) z)) y)) x :=
  lh_x_claim (fun s hs e1 => br_f (by decide) (lh_x_term (fun a ha e2 => br_f (by decide) (lh_x_term (fun b hb e3 => br_f (by decide) (HB s a b hs ha hb e1 e2 e3)) (fun h => br_t rfl (HA (fun ⟨_, _, b, _, _, hb, _, _, e⟩ => h ⟨b, hb, e⟩))))) (fun h => br_t rfl (HA (fun ⟨_, a, _, _, ha, _, _, e, _⟩ => h ⟨a, ha, e⟩))))) (fun h => br_t rfl (HA (fun ⟨s, _, _, hs, _, _, e, _, _⟩ => h ⟨s, hs, e⟩)))
theorem lh_y_g1 {A B : Prop} {x : Int32} (HB : ∀ s, s < 2 → x = nI s → B) (HA : ¬ lh_g1 x → A) : wpY_isClaim (fun r_1 => (r_1 = 0 → A) ∧ (¬ r_1 = 0 → B)) (nl, cs, ns, ps, ms, dv, hd, us) x :=
  lh_y_claim (fun s hs e1 => br_f (by decide) (HB s hs e1)) (fun h => br_t rfl (HA h))
theorem lh_y_g2 {A B : Prop} {x y : Int32} (HB : ∀ s a, s < 2 → a < 6 → x = nI s → y = nI a → B) (HA : ¬ lh_g2 x y → A) : wpY_isClaim (fun r_1 => (r_1 = 0 → A) ∧ (¬ r_1 = 0 → wpY_isName (fun r_3 => (r_3 = 0 → A) ∧ (¬ r_3 = 0 → B)) (nl, cs, ns, ps, ms, dv, hd, us) y)) (nl, cs, ns, ps, ms, dv, hd, us) x :=
  lh_y_claim (fun s hs e1 => br_f (by decide) (lh_y_name (fun a ha e2 => br_f (by decide) (HB s a hs ha e1 e2)) (fun h => br_t rfl (HA (fun ⟨_, a, _, ha, _, e⟩ => h ⟨a, ha, e⟩))))) (fun h => br_t rfl (HA (fun ⟨s, _, hs, _, e, _⟩ => h ⟨s, hs, e⟩)))
theorem lh_y_g3 {A B : Prop} {x y z : Int32} (HB : ∀ s a b, s < 2 → a < 6 → b < 6 → x = nI s → y = nI a → z = nI b → B) (HA : ¬ lh_g3 x y z → A) : wpY_isClaim (fun r_1 => (r_1 = 0 → A) ∧ (¬ r_1 = 0 → wpY_isName (fun r_3 => (r_3 = 0 → A) ∧ (¬ r_3 = 0 → wpY_isName (fun r_5 => (r_5 = 0 → A) ∧ (¬ r_5 = 0 → B)) (nl, cs, ns, ps, ms, dv, hd, us) z)) (nl, cs, ns, ps, ms, dv, hd, us) y)) (nl, cs, ns, ps, ms, dv, hd, us) x :=
  lh_y_claim (fun s hs e1 => br_f (by decide) (lh_y_name (fun a ha e2 => br_f (by decide) (lh_y_name (fun b hb e3 => br_f (by decide) (HB s a b hs ha hb e1 e2 e3)) (fun h => br_t rfl (HA (fun ⟨_, _, b, _, _, hb, _, _, e⟩ => h ⟨b, hb, e⟩))))) (fun h => br_t rfl (HA (fun ⟨_, a, _, _, ha, _, _, e, _⟩ => h ⟨a, ha, e⟩))))) (fun h => br_t rfl (HA (fun ⟨s, _, _, hs, _, _, e, _, _⟩ => h ⟨s, hs, e⟩)))
theorem lh_x_addc {post : Int32 → SX → Prop} {kd : Nat} {x y z : Int32} (hkd : kd < 2) (S : lh_St C W nc np cc ck cl cr pc pk pf pt)
    (H1 : ∀ s a b, s < 2 → a < 6 → b < 6 → x = nI s → y = nI a → z = nI b → nc s < 8 → ∀ cc ck cl cr, lh_St (lh_up C (8 * s + nc s) (36 * kd + 6 * a + b)) W (lh_up nc s (nc s + 1)) np cc ck cl cr pc pk pf pt → post (nI (nc s + 1)) (fc, cc, ck, cl, cr, pc, pk, pf, pt, g, nx, en, pn, pe, fr, tk))
    (H0 : ∀ s a b, s < 2 → a < 6 → b < 6 → x = nI s → y = nI a → z = nI b → nc s = 8 → post (-2) (fc, cc, ck, cl, cr, pc, pk, pf, pt, g, nx, en, pn, pe, fr, tk)) (HA : ¬ lh_g3 x y z → post (-1) (fc, cc, ck, cl, cr, pc, pk, pf, pt, g, nx, en, pn, pe, fr, tk)) : wpX_addCondition post (fc, cc, ck, cl, cr, pc, pk, pf, pt, g, nx, en, pn, pe, fr, tk) x (nI kd) y z := by
  refine lh_x_g3 (fun s a b hs ha hb e1 e2 e3 => ?_) HA
  subst e1; subst e2; subst e3
  obtain ⟨⟨s1, s2, s3, s4⟩, P, hC, hW, hnc, hnp⟩ := S
  have h8 := hnc s
  have e0 : cc (nI s).toNatClampNeg = nI (nc s) := lh_rdS s1 (by omega)
  refine ⟨pk_in s 2 hs, nm_r e0 (pk_lt (nc s) 8 (fun c => nm_r (lh_s8 s (nc s)) ?_) (fun c => H0 s a b hs ha hb rfl rfl rfl (by omega)))⟩
  have ck' : (nI (8 * s + nc s)).toNatClampNeg = 8 * s + nc s := nI_clamp (by omega)
  have cs' : (nI s).toNatClampNeg = s := nI_clamp (by omega)
  refine ⟨pk_in (8 * s + nc s) 16 (by omega), nm_r (e' := upd ck (8 * s + nc s) (nI kd)) (by rw [ck']) ⟨pk_in (8 * s + nc s) 16 (by omega), nm_r (e' := upd cl (8 * s + nc s) (nI a)) (by rw [ck']) ⟨pk_in (8 * s + nc s) 16 (by omega), nm_r (e' := upd cr (8 * s + nc s) (nI b)) (by rw [ck']) ⟨pk_in s 2 hs, nm_r (e' := upd cc s (nI (nc s + 1))) (by rw [cs', nI_1]) ?_⟩⟩⟩⟩
  rw [nI_1]
  exact H1 s a b hs ha hb rfl rfl rfl c _ _ _ _ ⟨⟨lh_Pu (F := fun x => x) s1 s (nc s + 1) rfl, lh_Pu (F := fun x => x / 36) s2 (8 * s + nc s) (36 * kd + 6 * a + b) (congrArg nI (by omega)), lh_Pu (F := fun x => x % 36 / 6) s3 (8 * s + nc s) (36 * kd + 6 * a + b) (congrArg nI (by omega)), lh_Pu (F := fun x => x % 6) s4 (8 * s + nc s) (36 * kd + 6 * a + b) (congrArg nI (by omega))⟩, P, lh_up_lt hC (by omega), hW, lh_up_lt hnc (by omega), hnp⟩
theorem lh_x_addp {post : Int32 → SX → Prop} {kd : Nat} {x y z : Int32} (hkd : kd < 2) (S : lh_St C W nc np cc ck cl cr pc pk pf pt)
    (H1 : ∀ s a b, s < 2 → a < 6 → b < 6 → x = nI s → y = nI a → z = nI b → np s < 6 → ∀ pc pk pf pt, lh_St C (lh_up W (6 * s + np s) (36 * kd + 6 * a + b)) nc (lh_up np s (np s + 1)) cc ck cl cr pc pk pf pt → post (nI (np s + 1)) (fc, cc, ck, cl, cr, pc, pk, pf, pt, g, nx, en, pn, pe, fr, tk))
    (H0 : ∀ s a b, s < 2 → a < 6 → b < 6 → x = nI s → y = nI a → z = nI b → np s = 6 → post (-2) (fc, cc, ck, cl, cr, pc, pk, pf, pt, g, nx, en, pn, pe, fr, tk)) (HA : ¬ lh_g3 x y z → post (-1) (fc, cc, ck, cl, cr, pc, pk, pf, pt, g, nx, en, pn, pe, fr, tk)) : wpX_addPart post (fc, cc, ck, cl, cr, pc, pk, pf, pt, g, nx, en, pn, pe, fr, tk) x (nI kd) y z := by
  refine lh_x_g3 (fun s a b hs ha hb e1 e2 e3 => ?_) HA
  subst e1; subst e2; subst e3
  obtain ⟨Q, ⟨s1, s2, s3, s4⟩, hC, hW, hnc, hnp⟩ := S
  have h8 := hnp s
  have e0 : pc (nI s).toNatClampNeg = nI (np s) := lh_rdS s1 (by omega)
  refine ⟨pk_in s 2 hs, nm_r e0 (pk_lt (np s) 6 (fun c => nm_r (lh_s6 s (np s)) ?_) (fun c => H0 s a b hs ha hb rfl rfl rfl (by omega)))⟩
  have ck' : (nI (6 * s + np s)).toNatClampNeg = 6 * s + np s := nI_clamp (by omega)
  have cs' : (nI s).toNatClampNeg = s := nI_clamp (by omega)
  refine ⟨pk_in (6 * s + np s) 12 (by omega), nm_r (e' := upd pk (6 * s + np s) (nI kd)) (by rw [ck']) ⟨pk_in (6 * s + np s) 12 (by omega), nm_r (e' := upd pf (6 * s + np s) (nI a)) (by rw [ck']) ⟨pk_in (6 * s + np s) 12 (by omega), nm_r (e' := upd pt (6 * s + np s) (nI b)) (by rw [ck']) ⟨pk_in s 2 hs, nm_r (e' := upd pc s (nI (np s + 1))) (by rw [cs', nI_1]) ?_⟩⟩⟩⟩
  rw [nI_1]
  exact H1 s a b hs ha hb rfl rfl rfl c _ _ _ _ ⟨Q, ⟨lh_Pu (F := fun x => x) s1 s (np s + 1) rfl, lh_Pu (F := fun x => x / 36) s2 (6 * s + np s) (36 * kd + 6 * a + b) (congrArg nI (by omega)), lh_Pu (F := fun x => x % 36 / 6) s3 (6 * s + np s) (36 * kd + 6 * a + b) (congrArg nI (by omega)), lh_Pu (F := fun x => x % 6) s4 (6 * s + np s) (36 * kd + 6 * a + b) (congrArg nI (by omega))⟩, hC, lh_up_lt hW (by omega), hnc, lh_up_lt hnp (by omega)⟩
theorem lh_y_addc {post : Int32 → SY → Prop} {s w : Nat} (hs : s < 2) (hw : w ≤ 71) (Y : lh_Sy C W nc np cs ns ps ms dv) (H1 : nc s < 8 → ∀ cs ns, lh_Sy (lh_up C (8 * s + nc s) w) W (lh_up nc s (nc s + 1)) np cs ns ps ms dv → post (nI (nc s + 1)) (nl, cs, ns, ps, ms, dv, hd, us)) (H0 : nc s = 8 → post (-2) (nl, cs, ns, ps, ms, dv, hd, us)) : wpY_addCondition post (nl, cs, ns, ps, ms, dv, hd, us) (nI s) (nI w) := by
  obtain ⟨y1, y2, y3, y4, y5, hC, hW, hnc, hnp⟩ := Y
  have h8 := hnc s
  have e0 : ns (nI s).toNatClampNeg = nI (nc s) := lh_rdS y2 (by omega)
  have cs' : (nI s).toNatClampNeg = s := nI_clamp (by omega)
  unfold wpY_addCondition
  dsimp only
  rw [e0, lh_8s]
  refine ⟨pk_in s 2 hs, pk_eq (nc s) 8 (fun c => H0 c) (fun c => ⟨pk_in s 2 hs, pk_in (8 * s + nc s) 16 (by omega), nm_r (e' := upd cs (8 * s + nc s) (nI w)) (by rw [nI_clamp (by omega)]) ⟨pk_in s 2 hs, pk_in s 2 hs, nm_r (e' := upd ns s (nI (nc s + 1))) (by rw [cs', nI_1]) ⟨pk_in s 2 hs, ?_⟩⟩⟩)⟩
  rw [cs', pk_us]
  exact H1 (by omega) _ _ ⟨lh_Pu (F := fun x => x) y1 (8 * s + nc s) w rfl, lh_Pu (F := fun x => x) y2 s (nc s + 1) rfl, y3, y4, y5, lh_up_lt hC hw, hW, lh_up_lt hnc (by omega), hnp⟩
theorem lh_y_addp {post : Int32 → SY → Prop} {s w : Nat} (hs : s < 2) (hw : w ≤ 71) (Y : lh_Sy C W nc np cs ns ps ms dv) (H1 : np s < 6 → ∀ ps ms, lh_Sy C (lh_up W (6 * s + np s) w) nc (lh_up np s (np s + 1)) cs ns ps ms dv → post (nI (np s + 1)) (nl, cs, ns, ps, ms, dv, hd, us)) (H0 : np s = 6 → post (-2) (nl, cs, ns, ps, ms, dv, hd, us)) : wpY_addPart post (nl, cs, ns, ps, ms, dv, hd, us) (nI s) (nI w) := by
  obtain ⟨y1, y2, y3, y4, y5, hC, hW, hnc, hnp⟩ := Y
  have h8 := hnp s
  have e0 : ms (nI s).toNatClampNeg = nI (np s) := lh_rdS y4 (by omega)
  have cs' : (nI s).toNatClampNeg = s := nI_clamp (by omega)
  unfold wpY_addPart
  dsimp only
  rw [e0, lh_6s]
  refine ⟨pk_in s 2 hs, pk_eq (np s) 6 (fun c => H0 c) (fun c => ⟨pk_in s 2 hs, pk_in (6 * s + np s) 12 (by omega), nm_r (e' := upd ps (6 * s + np s) (nI w)) (by rw [nI_clamp (by omega)]) ⟨pk_in s 2 hs, pk_in s 2 hs, nm_r (e' := upd ms s (nI (np s + 1))) (by rw [cs', nI_1]) ⟨pk_in s 2 hs, ?_⟩⟩⟩)⟩
  rw [cs', pk_us]
  exact H1 (by omega) _ _ ⟨y1, y2, lh_Pu (F := fun x => x) y3 (6 * s + np s) w rfl, lh_Pu (F := fun x => x) y4 s (np s + 1) rfl, y5, hC, lh_up_lt hW hw, hnc, lh_up_lt hnp (by omega)⟩
theorem lh_x_dlc {post : Int32 → SX → Prop} {s : Nat} (hs : s < 2) (S : lh_St C W nc np cc ck cl cr pc pk pf pt) (H1 : nc s ≠ 0 → ∀ cc, lh_St C W (lh_up nc s (nc s - 1)) np cc ck cl cr pc pk pf pt → post (nI (nc s - 1)) (fc, cc, ck, cl, cr, pc, pk, pf, pt, g, nx, en, pn, pe, fr, tk)) (H0 : nc s = 0 → post (-3) (fc, cc, ck, cl, cr, pc, pk, pf, pt, g, nx, en, pn, pe, fr, tk)) : wpX_dropLast__conditionCount post (fc, cc, ck, cl, cr, pc, pk, pf, pt, g, nx, en, pn, pe, fr, tk) (nI s) := by
  obtain ⟨⟨s1, s2, s3, s4⟩, P, hC, hW, hnc, hnp⟩ := S
  have h8 := hnc s
  have e0 : cc (nI s).toNatClampNeg = nI (nc s) := lh_rdS s1 (by omega)
  have cs' : (nI s).toNatClampNeg = s := nI_clamp (by omega)
  unfold wpX_dropLast__conditionCount
  dsimp only
  rw [e0]
  refine ⟨pk_in s 2 hs, pk_eq (nc s) 0 (fun c => H0 c) (fun c => ⟨pk_in s 2 hs, pk_in s 2 hs, nm_r (e' := upd cc s (nI (nc s - 1))) (by rw [cs', lh_pred c]) ⟨pk_in s 2 hs, ?_⟩⟩)⟩
  rw [cs', pk_us]
  exact H1 c _ ⟨⟨lh_Pu (F := fun x => x) s1 s (nc s - 1) rfl, s2, s3, s4⟩, P, hC, hW, lh_up_lt hnc (by omega), hnp⟩
theorem lh_x_dlp {post : Int32 → SX → Prop} {s : Nat} (hs : s < 2) (S : lh_St C W nc np cc ck cl cr pc pk pf pt) (H1 : np s ≠ 0 → ∀ pc, lh_St C W nc (lh_up np s (np s - 1)) cc ck cl cr pc pk pf pt → post (nI (np s - 1)) (fc, cc, ck, cl, cr, pc, pk, pf, pt, g, nx, en, pn, pe, fr, tk)) (H0 : np s = 0 → post (-3) (fc, cc, ck, cl, cr, pc, pk, pf, pt, g, nx, en, pn, pe, fr, tk)) : wpX_dropLast__partCount post (fc, cc, ck, cl, cr, pc, pk, pf, pt, g, nx, en, pn, pe, fr, tk) (nI s) := by
  obtain ⟨Q, ⟨s1, s2, s3, s4⟩, hC, hW, hnc, hnp⟩ := S
  have h8 := hnp s
  have e0 : pc (nI s).toNatClampNeg = nI (np s) := lh_rdS s1 (by omega)
  have cs' : (nI s).toNatClampNeg = s := nI_clamp (by omega)
  unfold wpX_dropLast__partCount
  dsimp only
  rw [e0]
  refine ⟨pk_in s 2 hs, pk_eq (np s) 0 (fun c => H0 c) (fun c => ⟨pk_in s 2 hs, pk_in s 2 hs, nm_r (e' := upd pc s (nI (np s - 1))) (by rw [cs', lh_pred c]) ⟨pk_in s 2 hs, ?_⟩⟩)⟩
  rw [cs', pk_us]
  exact H1 c _ ⟨Q, ⟨lh_Pu (F := fun x => x) s1 s (np s - 1) rfl, s2, s3, s4⟩, hC, hW, hnc, lh_up_lt hnp (by omega)⟩
theorem lh_y_dr0 {post : Int32 → SY → Prop} {s : Nat} (hs : s < 2) (Y : lh_Sy C W nc np cs ns ps ms dv) (H1 : nc s ≠ 0 → ∀ ns, lh_Sy C W (lh_up nc s (nc s - 1)) np cs ns ps ms dv → post (nI (nc s - 1)) (nl, cs, ns, ps, ms, dv, hd, us)) (H0 : nc s = 0 → post (-3) (nl, cs, ns, ps, ms, dv, hd, us)) : wY_drop_19 post (nI s) 0 nl cs ns ps ms dv hd us := by
  obtain ⟨y1, y2, y3, y4, y5, hC, hW, hnc, hnp⟩ := Y
  have h8 := hnc s
  have e0 : ns (nI s).toNatClampNeg = nI (nc s) := lh_rdS y2 (by omega)
  have cs' : (nI s).toNatClampNeg = s := nI_clamp (by omega)
  unfold wY_drop_19 wY_drop_38 wY_drop_67
  rw [e0]
  refine br_t rfl ⟨pk_in s 2 hs, pk_eq (nc s) 0 (fun c => H0 c) (fun c => br_t rfl ⟨pk_in s 2 hs, nm_r (e' := upd ns s (nI (nc s - 1))) (by rw [cs', lh_pred c]) (br_f (by decide) ⟨pk_in s 2 hs, pk_in s 2 hs, nm_r (e' := ms) (by rw [cs', lh_upd_self]) ?_⟩)⟩)⟩
  rw [lh_pred c]
  exact H1 c _ ⟨y1, lh_Pu (F := fun x => x) y2 s (nc s - 1) rfl, y3, y4, y5, hC, hW, lh_up_lt hnc (by omega), hnp⟩
theorem lh_y_dr1 {post : Int32 → SY → Prop} {s : Nat} (hs : s < 2) (Y : lh_Sy C W nc np cs ns ps ms dv) (H1 : np s ≠ 0 → ∀ ms, lh_Sy C W nc (lh_up np s (np s - 1)) cs ns ps ms dv → post (nI (np s - 1)) (nl, cs, ns, ps, ms, dv, hd, us)) (H0 : np s = 0 → post (-3) (nl, cs, ns, ps, ms, dv, hd, us)) : wY_drop_19 post (nI s) 1 nl cs ns ps ms dv hd us := by
  obtain ⟨y1, y2, y3, y4, y5, hC, hW, hnc, hnp⟩ := Y
  have h8 := hnp s
  have e0 : ms (nI s).toNatClampNeg = nI (np s) := lh_rdS y4 (by omega)
  have cs' : (nI s).toNatClampNeg = s := nI_clamp (by omega)
  unfold wY_drop_19 wY_drop_38 wY_drop_67
  rw [e0]
  refine br_f (by decide) ⟨pk_in s 2 hs, pk_eq (np s) 0 (fun c => H0 c) (fun c => br_f (by decide) ⟨pk_in s 2 hs, pk_in s 2 hs, nm_r (e' := ns) (by rw [cs', lh_upd_self]) (br_t rfl ⟨pk_in s 2 hs, nm_r (e' := upd ms s (nI (np s - 1))) (by rw [cs', lh_pred c]) ?_⟩)⟩)⟩
  rw [lh_pred c]
  exact H1 c _ ⟨y1, y2, y3, lh_Pu (F := fun x => x) y4 s (np s - 1) rfl, y5, hC, hW, hnc, lh_up_lt hnp (by omega)⟩
theorem lh_x_ex_cc {post : SX → Prop} {i j : Nat} (hi : i < 2) (hj : j < 2) (H : post (fc, upd (upd cc i (cc j)) j (cc i), ck, cl, cr, pc, pk, pf, pt, g, nx, en, pn, pe, fr, tk)) : wpX_exchange__conditionCount post (fc, cc, ck, cl, cr, pc, pk, pf, pt, g, nx, en, pn, pe, fr, tk) (nI i) (nI j) := by
  have ci : (nI i).toNatClampNeg = i := nI_clamp (by omega)
  have cj : (nI j).toNatClampNeg = j := nI_clamp (by omega)
  unfold wpX_exchange__conditionCount
  dsimp only
  rw [ci, cj]
  exact ⟨pk_in i 2 hi, nm_e ⟨pk_in j 2 hj, pk_in i 2 hi, nm_e ⟨pk_in j 2 hj, nm_e H⟩⟩⟩
theorem lh_x_ex_ck {post : SX → Prop} {i j : Nat} (hi : i < 16) (hj : j < 16) (H : post (fc, cc, upd (upd ck i (ck j)) j (ck i), cl, cr, pc, pk, pf, pt, g, nx, en, pn, pe, fr, tk)) : wpX_exchange__conditionKind post (fc, cc, ck, cl, cr, pc, pk, pf, pt, g, nx, en, pn, pe, fr, tk) (nI i) (nI j) := by
  have ci : (nI i).toNatClampNeg = i := nI_clamp (by omega)
  have cj : (nI j).toNatClampNeg = j := nI_clamp (by omega)
  unfold wpX_exchange__conditionKind
  dsimp only
  rw [ci, cj]
  exact ⟨pk_in i 16 hi, nm_e ⟨pk_in j 16 hj, pk_in i 16 hi, nm_e ⟨pk_in j 16 hj, nm_e H⟩⟩⟩
theorem lh_x_ex_cl {post : SX → Prop} {i j : Nat} (hi : i < 16) (hj : j < 16) (H : post (fc, cc, ck, upd (upd cl i (cl j)) j (cl i), cr, pc, pk, pf, pt, g, nx, en, pn, pe, fr, tk)) : wpX_exchange__conditionLeft post (fc, cc, ck, cl, cr, pc, pk, pf, pt, g, nx, en, pn, pe, fr, tk) (nI i) (nI j) := by
  have ci : (nI i).toNatClampNeg = i := nI_clamp (by omega)
  have cj : (nI j).toNatClampNeg = j := nI_clamp (by omega)
  unfold wpX_exchange__conditionLeft
  dsimp only
  rw [ci, cj]
  exact ⟨pk_in i 16 hi, nm_e ⟨pk_in j 16 hj, pk_in i 16 hi, nm_e ⟨pk_in j 16 hj, nm_e H⟩⟩⟩
theorem lh_x_ex_cr {post : SX → Prop} {i j : Nat} (hi : i < 16) (hj : j < 16) (H : post (fc, cc, ck, cl, upd (upd cr i (cr j)) j (cr i), pc, pk, pf, pt, g, nx, en, pn, pe, fr, tk)) : wpX_exchange__conditionRight post (fc, cc, ck, cl, cr, pc, pk, pf, pt, g, nx, en, pn, pe, fr, tk) (nI i) (nI j) := by
  have ci : (nI i).toNatClampNeg = i := nI_clamp (by omega)
  have cj : (nI j).toNatClampNeg = j := nI_clamp (by omega)
  unfold wpX_exchange__conditionRight
  dsimp only
  rw [ci, cj]
  exact ⟨pk_in i 16 hi, nm_e ⟨pk_in j 16 hj, pk_in i 16 hi, nm_e ⟨pk_in j 16 hj, nm_e H⟩⟩⟩
theorem lh_x_ex_pc {post : SX → Prop} {i j : Nat} (hi : i < 2) (hj : j < 2) (H : post (fc, cc, ck, cl, cr, upd (upd pc i (pc j)) j (pc i), pk, pf, pt, g, nx, en, pn, pe, fr, tk)) : wpX_exchange__partCount post (fc, cc, ck, cl, cr, pc, pk, pf, pt, g, nx, en, pn, pe, fr, tk) (nI i) (nI j) := by
  have ci : (nI i).toNatClampNeg = i := nI_clamp (by omega)
  have cj : (nI j).toNatClampNeg = j := nI_clamp (by omega)
  unfold wpX_exchange__partCount
  dsimp only
  rw [ci, cj]
  exact ⟨pk_in i 2 hi, nm_e ⟨pk_in j 2 hj, pk_in i 2 hi, nm_e ⟨pk_in j 2 hj, nm_e H⟩⟩⟩
theorem lh_x_ex_pk {post : SX → Prop} {i j : Nat} (hi : i < 12) (hj : j < 12) (H : post (fc, cc, ck, cl, cr, pc, upd (upd pk i (pk j)) j (pk i), pf, pt, g, nx, en, pn, pe, fr, tk)) : wpX_exchange__partKind post (fc, cc, ck, cl, cr, pc, pk, pf, pt, g, nx, en, pn, pe, fr, tk) (nI i) (nI j) := by
  have ci : (nI i).toNatClampNeg = i := nI_clamp (by omega)
  have cj : (nI j).toNatClampNeg = j := nI_clamp (by omega)
  unfold wpX_exchange__partKind
  dsimp only
  rw [ci, cj]
  exact ⟨pk_in i 12 hi, nm_e ⟨pk_in j 12 hj, pk_in i 12 hi, nm_e ⟨pk_in j 12 hj, nm_e H⟩⟩⟩
theorem lh_x_ex_pf {post : SX → Prop} {i j : Nat} (hi : i < 12) (hj : j < 12) (H : post (fc, cc, ck, cl, cr, pc, pk, upd (upd pf i (pf j)) j (pf i), pt, g, nx, en, pn, pe, fr, tk)) : wpX_exchange__partFrom post (fc, cc, ck, cl, cr, pc, pk, pf, pt, g, nx, en, pn, pe, fr, tk) (nI i) (nI j) := by
  have ci : (nI i).toNatClampNeg = i := nI_clamp (by omega)
  have cj : (nI j).toNatClampNeg = j := nI_clamp (by omega)
  unfold wpX_exchange__partFrom
  dsimp only
  rw [ci, cj]
  exact ⟨pk_in i 12 hi, nm_e ⟨pk_in j 12 hj, pk_in i 12 hi, nm_e ⟨pk_in j 12 hj, nm_e H⟩⟩⟩
theorem lh_x_ex_pt {post : SX → Prop} {i j : Nat} (hi : i < 12) (hj : j < 12) (H : post (fc, cc, ck, cl, cr, pc, pk, pf, upd (upd pt i (pt j)) j (pt i), g, nx, en, pn, pe, fr, tk)) : wpX_exchange__partTo post (fc, cc, ck, cl, cr, pc, pk, pf, pt, g, nx, en, pn, pe, fr, tk) (nI i) (nI j) := by
  have ci : (nI i).toNatClampNeg = i := nI_clamp (by omega)
  have cj : (nI j).toNatClampNeg = j := nI_clamp (by omega)
  unfold wpX_exchange__partTo
  dsimp only
  rw [ci, cj]
  exact ⟨pk_in i 12 hi, nm_e ⟨pk_in j 12 hj, pk_in i 12 hi, nm_e ⟨pk_in j 12 hj, nm_e H⟩⟩⟩
theorem lh_x_sw70 {post : SX → Prop} (H : ∀ pk pf pt, (∀ j, pk j = nI (lh_sw 6 W 6 j / 36)) → (∀ j, pf j = nI (lh_sw 6 W 6 j % 36 / 6)) → (∀ j, pt j = nI (lh_sw 6 W 6 j % 6)) → post (fc, cc, ck, cl, cr, pc, pk, pf, pt, g, nx, en, pn, pe, fr, tk)) :
    ∀ (n i : Nat) (pk pf pt : Nat → Int32), 6 < n + i → i ≤ 6 → (∀ j, pk j = nI (lh_sw 6 W i j / 36)) → (∀ j, pf j = nI (lh_sw 6 W i j % 36 / 6)) → (∀ j, pt j = nI (lh_sw 6 W i j % 6)) → wX_swap_70 post n (nI i) fc cc ck cl cr pc pk pf pt g nx en pn pe fr tk := by
  intro n
  induction n with
  | zero => intro i pk pf pt h1 h2; omega
  | succ n ih =>
    intro i pk pf pt h1 h2 p2 p3 p4
    have e6 : (6 : Int32) + nI i = nI (6 + i) := nI_add 6 i
    rw [wX_swap_70]
    refine pk_le 6 i (fun z => ?_) (fun z => ?_)
    · have e : i = 6 := by omega
      subst e
      exact H pk pf pt p2 p3 p4
    · rw [e6]
      exact lh_x_ex_pk (by omega) (by omega) (lh_x_ex_pf (by omega) (by omega) (lh_x_ex_pt (by omega) (by omega) (nm_r (nI_1 i) (ih (i + 1) _ _ _ (by omega) (by omega) (lh_sw_p (F := fun x => x / 36) z p2) (lh_sw_p (F := fun x => x % 36 / 6) z p3) (lh_sw_p (F := fun x => x % 6) z p4)))))
theorem lh_x_sw11 {post : SX → Prop} (p1 : ∀ i, pc i = nI (np i)) (p2 : ∀ j, pk j = nI (W j / 36)) (p3 : ∀ j, pf j = nI (W j % 36 / 6)) (p4 : ∀ j, pt j = nI (W j % 6))
    (H : ∀ ck cl cr pc pk pf pt, (∀ j, ck j = nI (lh_sw 8 C 8 j / 36)) → (∀ j, cl j = nI (lh_sw 8 C 8 j % 36 / 6)) → (∀ j, cr j = nI (lh_sw 8 C 8 j % 6)) → (∀ j, pc j = nI (lh_sw 1 np 1 j)) → (∀ j, pk j = nI (lh_sw 6 W 6 j / 36)) → (∀ j, pf j = nI (lh_sw 6 W 6 j % 36 / 6)) → (∀ j, pt j = nI (lh_sw 6 W 6 j % 6)) → post (fc, cc, ck, cl, cr, pc, pk, pf, pt, g, nx, en, pn, pe, fr, tk)) :
    ∀ (n i : Nat) (ck cl cr : Nat → Int32), 8 < n + i → i ≤ 8 → (∀ j, ck j = nI (lh_sw 8 C i j / 36)) → (∀ j, cl j = nI (lh_sw 8 C i j % 36 / 6)) → (∀ j, cr j = nI (lh_sw 8 C i j % 6)) → wX_swap_11 post n (nI i) fc cc ck cl cr pc pk pf pt g nx en pn pe fr tk := by
  intro n
  induction n with
  | zero => intro i ck cl cr h1 h2; omega
  | succ n ih =>
    intro i ck cl cr h1 h2 s2 s3 s4
    have e8 : (8 : Int32) + nI i = nI (8 + i) := nI_add 8 i
    rw [wX_swap_11]
    refine pk_le 8 i (fun z => ?_) (fun z => ?_)
    · have e : i = 8 := by omega
      subst e
      refine lh_x_ex_pc (i := 0) (j := 1) (by omega) (by omega) ⟨7, lh_x_sw70 (W := W) (fun pk pf pt q2 q3 q4 => H ck cl cr _ pk pf pt s2 s3 s4 ?_ q2 q3 q4) 7 0 pk pf pt (by omega) (by omega) ?_ ?_ ?_⟩
      · exact lh_sw_p (F := fun x => x) (K := 1) (i := 0) (by decide) (by rw [lh_sw_0]; exact p1)
      · rw [lh_sw_0]; exact p2
      · rw [lh_sw_0]; exact p3
      · rw [lh_sw_0]; exact p4
    · rw [e8]
      exact lh_x_ex_ck (by omega) (by omega) (lh_x_ex_cl (by omega) (by omega) (lh_x_ex_cr (by omega) (by omega) (nm_r (nI_1 i) (ih (i + 1) _ _ _ (by omega) (by omega) (lh_sw_p (F := fun x => x / 36) z s2) (lh_sw_p (F := fun x => x % 36 / 6) z s3) (lh_sw_p (F := fun x => x % 6) z s4)))))
theorem lh_x_swap {post : SX → Prop} (S : lh_St C W nc np cc ck cl cr pc pk pf pt) (H : ∀ cc ck cl cr pc pk pf pt, lh_St (lh_sw 8 C 8) (lh_sw 6 W 6) (lh_sw 1 nc 1) (lh_sw 1 np 1) cc ck cl cr pc pk pf pt → post (fc, cc, ck, cl, cr, pc, pk, pf, pt, g, nx, en, pn, pe, fr, tk)) : wpX_swap post (fc, cc, ck, cl, cr, pc, pk, pf, pt, g, nx, en, pn, pe, fr, tk) := by
  obtain ⟨⟨s1, s2, s3, s4⟩, ⟨p1, p2, p3, p4⟩, hC, hW, hnc, hnp⟩ := S
  unfold wpX_swap
  dsimp only
  refine lh_x_ex_cc (i := 0) (j := 1) (by omega) (by omega) ⟨9, lh_x_sw11 (C := C) p1 p2 p3 p4 (fun ck cl cr pc pk pf pt a2 a3 a4 b1 b2 b3 b4 => H _ ck cl cr pc pk pf pt ⟨⟨?_, a2, a3, a4⟩, ⟨b1, b2, b3, b4⟩, lh_sw_lt hC, lh_sw_lt hW, lh_sw_lt hnc, lh_sw_lt hnp⟩) 9 0 ck cl cr (by omega) (by omega) ?_ ?_ ?_⟩
  · exact lh_sw_p (F := fun x => x) (K := 1) (i := 0) (by decide) (by rw [lh_sw_0]; exact s1)
  · rw [lh_sw_0]; exact s2
  · rw [lh_sw_0]; exact s3
  · rw [lh_sw_0]; exact s4
theorem lh_y_sw48 {post : SY → Prop} (y2 : ∀ i, ns i = nI (nc i)) (y4 : ∀ i, ms i = nI (np i)) (H : ∀ ns ps ms, (∀ j, ns j = nI (lh_sw 1 nc 1 j)) → (∀ j, ps j = nI (lh_sw 6 W 6 j)) → (∀ j, ms j = nI (lh_sw 1 np 1 j)) → post (nl, cs, ns, ps, ms, dv, hd, us)) :
    ∀ (n i : Nat) (ps : Nat → Int32), 6 < n + i → i ≤ 6 → (∀ j, ps j = nI (lh_sw 6 W i j)) → wY_swap_48 post nl n (nI i) cs ns ps ms dv hd us := by
  intro n
  induction n with
  | zero => intro i ps h1 h2; omega
  | succ n ih =>
    intro i ps h1 h2 y3
    have e6 : (6 : Int32) + nI i = nI (6 + i) := nI_add 6 i
    have ci : (nI i).toNatClampNeg = i := nI_clamp (by omega)
    have cj : (nI (6 + i)).toNatClampNeg = 6 + i := nI_clamp (by omega)
    rw [wY_swap_48]
    refine pk_le 6 i (fun z => ?_) (fun z => ?_)
    · have e : i = 6 := by omega
      subst e
      exact nm_e (nm_e (nm_e (nm_e (nm_e (nm_e (H _ ps _ (lh_sw_p (F := fun x => x) (K := 1) (i := 0) (by decide) (by rw [lh_sw_0]; exact y2)) y3 (lh_sw_p (F := fun x => x) (K := 1) (i := 0) (by decide) (by rw [lh_sw_0]; exact y4))))))))
    · rw [e6, ci, cj]
      exact ⟨pk_in i 12 (by omega), nm_e ⟨pk_in (6 + i) 12 (by omega), pk_in i 12 (by omega), nm_e ⟨pk_in (6 + i) 12 (by omega), nm_e (nm_r (nI_1 i) (ih (i + 1) _ (by omega) (by omega) (lh_sw_p (F := fun x => x) z y3)))⟩⟩⟩
theorem lh_y_sw2 {post : SY → Prop} (y2 : ∀ i, ns i = nI (nc i)) (y3 : ∀ i, ps i = nI (W i)) (y4 : ∀ i, ms i = nI (np i)) (H : ∀ cs ns ps ms, (∀ j, cs j = nI (lh_sw 8 C 8 j)) → (∀ j, ns j = nI (lh_sw 1 nc 1 j)) → (∀ j, ps j = nI (lh_sw 6 W 6 j)) → (∀ j, ms j = nI (lh_sw 1 np 1 j)) → post (nl, cs, ns, ps, ms, dv, hd, us)) :
    ∀ (n i : Nat) (cs : Nat → Int32), 8 < n + i → i ≤ 8 → (∀ j, cs j = nI (lh_sw 8 C i j)) → wY_swap_2 post nl n (nI i) cs ns ps ms dv hd us := by
  intro n
  induction n with
  | zero => intro i cs h1 h2; omega
  | succ n ih =>
    intro i cs h1 h2 y1
    have e8 : (8 : Int32) + nI i = nI (8 + i) := nI_add 8 i
    have ci : (nI i).toNatClampNeg = i := nI_clamp (by omega)
    have cj : (nI (8 + i)).toNatClampNeg = 8 + i := nI_clamp (by omega)
    rw [wY_swap_2]
    refine pk_le 8 i (fun z => ?_) (fun z => ?_)
    · have e : i = 8 := by omega
      subst e
      exact ⟨7, lh_y_sw48 (W := W) y2 y4 (fun ns ps ms a b c => H cs ns ps ms y1 a b c) 7 0 ps (by omega) (by omega) (by rw [lh_sw_0]; exact y3)⟩
    · rw [e8, ci, cj]
      exact ⟨pk_in i 16 (by omega), nm_e ⟨pk_in (8 + i) 16 (by omega), pk_in i 16 (by omega), nm_e ⟨pk_in (8 + i) 16 (by omega), nm_e (nm_r (nI_1 i) (ih (i + 1) _ (by omega) (by omega) (lh_sw_p (F := fun x => x) z y1)))⟩⟩⟩
theorem lh_y_swap {post : SY → Prop} (Y : lh_Sy C W nc np cs ns ps ms dv) (H : ∀ cs ns ps ms, lh_Sy (lh_sw 8 C 8) (lh_sw 6 W 6) (lh_sw 1 nc 1) (lh_sw 1 np 1) cs ns ps ms dv → post (nl, cs, ns, ps, ms, dv, hd, us)) : wpY_swap post (nl, cs, ns, ps, ms, dv, hd, us) := by
  obtain ⟨y1, y2, y3, y4, y5, hC, hW, hnc, hnp⟩ := Y
  exact Exists.intro 9 (lh_y_sw2 (C := C) y2 y3 y4 (fun cs ns ps ms a b c d => H cs ns ps ms ⟨a, b, c, d, y5, lh_sw_lt hC, lh_sw_lt hW, lh_sw_lt hnc, lh_sw_lt hnp⟩) 9 0 cs (by omega) (by omega) (by rw [lh_sw_0]; exact y1))
end
end
section
/-! WHAT IS OWED -/
theorem i_vc0 : wpX_init (fun u => wpY_init (fun v => i_Rel 0 u v)) := by
  unfold wpX_init
  refine lh_y_init (fun dv h => lh_mkR (C := fun _ => 0) (W := fun _ => 0) (nc := fun _ => 0) (np := fun _ => 0) ?_ ?_)
  · exact ⟨⟨fun _ => rfl, fun _ => congrArg nI (show 0 = 0 / 36 from by decide), fun _ => congrArg nI (show 0 = 0 % 36 / 6 from by decide), fun _ => congrArg nI (show 0 = 0 % 6 from by decide)⟩, ⟨fun _ => rfl, fun _ => congrArg nI (show 0 = 0 / 36 from by decide), fun _ => congrArg nI (show 0 = 0 % 36 / 6 from by decide), fun _ => congrArg nI (show 0 = 0 % 6 from by decide)⟩, fun _ => Nat.zero_le _, fun _ => Nat.zero_le _, fun _ => Nat.zero_le _, fun _ => Nat.zero_le _⟩
  · exact ⟨fun _ => rfl, fun _ => rfl, fun _ => rfl, fun _ => rfl, h, fun _ => Nat.zero_le _, fun _ => Nat.zero_le _, fun _ => Nat.zero_le _, fun _ => Nat.zero_le _⟩
theorem lh_all2 {P Q : List Nat → Prop} (h : ∀ l, lh_wf l → (P l ↔ Q l)) : (∀ i, i < 203 → P (lh_D i)) ↔ ∀ i, i < 203 → Q (lh_E i) := by
  rw [lh_all]
  exact ⟨fun a i hi => (h _ (lh_E_wf i hi)).mp (a i hi), fun a i hi => (h _ (lh_E_wf i hi)).mpr (a i hi)⟩
theorem i_vc_same {k : Nat} {u : SX} {v : SY} (I : i_Rel k u v) (hk : k + 4 ≤ 2048) (v1 : Int32) (v2 : Int32) (v3 : Int32) : wpX_same (fun r u' => wpY_same (fun r' v' => r' = r ∧ i_Rel (k + 4) u' v') v v1 v2 v3) u v1 v2 v3 := by
  obtain ⟨fc, cc, ck, cl, cr, pc, pk, pf, pt, g, nx, en, pn, pe, fr, tk⟩ := u
  obtain ⟨nl, cs, ns, ps, ms, dv, hd, us⟩ := v
  obtain ⟨C, W, nc, np, S, Y⟩ := I
  unfold wpX_same
  dsimp only
  refine lh_x_addc (kd := 0) (by decide) S (fun s a b hs ha hb e1 e2 e3 c cc ck cl cr S' => ?_) (fun s a b hs ha hb e1 e2 e3 c => ?_) (fun h => ?_)
  · subst e1; subst e2; subst e3
    have ew : 6 * nI a + nI b = nI (36 * 0 + 6 * a + b) := by rw [lh_6s]; exact congrArg nI (by omega)
    refine lh_y_g3 (nl := nl) (cs := cs) (ns := ns) (ps := ps) (ms := ms) (dv := dv) (hd := hd) (us := us) (fun _ _ _ _ _ _ _ _ _ => ?_) (fun h => absurd ⟨s, a, b, hs, ha, hb, rfl, rfl, rfl⟩ h)
    rw [ew]
    exact lh_y_addc hs (by omega) Y (fun c' cs ns Y' => ⟨rfl, lh_mkR S' Y'⟩) (fun c' => absurd c' (by omega))
  · subst e1; subst e2; subst e3
    have ew : 6 * nI a + nI b = nI (36 * 0 + 6 * a + b) := by rw [lh_6s]; exact congrArg nI (by omega)
    refine lh_y_g3 (nl := nl) (cs := cs) (ns := ns) (ps := ps) (ms := ms) (dv := dv) (hd := hd) (us := us) (fun _ _ _ _ _ _ _ _ _ => ?_) (fun h => absurd ⟨s, a, b, hs, ha, hb, rfl, rfl, rfl⟩ h)
    rw [ew]
    exact lh_y_addc hs (by omega) Y (fun c' => absurd c' (by omega)) (fun c' => ⟨rfl, lh_mkR S Y⟩)
  · exact lh_y_g3 (nl := nl) (cs := cs) (ns := ns) (ps := ps) (ms := ms) (dv := dv) (hd := hd) (us := us) (fun s a b hs ha hb e1 e2 e3 => absurd ⟨s, a, b, hs, ha, hb, e1, e2, e3⟩ h) (fun _ => ⟨rfl, lh_mkR S Y⟩)
theorem i_vc_other {k : Nat} {u : SX} {v : SY} (I : i_Rel k u v) (hk : k + 4 ≤ 2048) (v1 : Int32) (v2 : Int32) (v3 : Int32) : wpX_other (fun r u' => wpY_other (fun r' v' => r' = r ∧ i_Rel (k + 4) u' v') v v1 v2 v3) u v1 v2 v3 := by
  obtain ⟨fc, cc, ck, cl, cr, pc, pk, pf, pt, g, nx, en, pn, pe, fr, tk⟩ := u
  obtain ⟨nl, cs, ns, ps, ms, dv, hd, us⟩ := v
  obtain ⟨C, W, nc, np, S, Y⟩ := I
  unfold wpX_other
  dsimp only
  refine lh_x_addc (kd := 1) (by decide) S (fun s a b hs ha hb e1 e2 e3 c cc ck cl cr S' => ?_) (fun s a b hs ha hb e1 e2 e3 c => ?_) (fun h => ?_)
  · subst e1; subst e2; subst e3
    have ew : 36 + 6 * nI a + nI b = nI (36 * 1 + 6 * a + b) := by rw [lh_36s]
    refine lh_y_g3 (nl := nl) (cs := cs) (ns := ns) (ps := ps) (ms := ms) (dv := dv) (hd := hd) (us := us) (fun _ _ _ _ _ _ _ _ _ => ?_) (fun h => absurd ⟨s, a, b, hs, ha, hb, rfl, rfl, rfl⟩ h)
    rw [ew]
    exact lh_y_addc hs (by omega) Y (fun c' cs ns Y' => ⟨rfl, lh_mkR S' Y'⟩) (fun c' => absurd c' (by omega))
  · subst e1; subst e2; subst e3
    have ew : 36 + 6 * nI a + nI b = nI (36 * 1 + 6 * a + b) := by rw [lh_36s]
    refine lh_y_g3 (nl := nl) (cs := cs) (ns := ns) (ps := ps) (ms := ms) (dv := dv) (hd := hd) (us := us) (fun _ _ _ _ _ _ _ _ _ => ?_) (fun h => absurd ⟨s, a, b, hs, ha, hb, rfl, rfl, rfl⟩ h)
    rw [ew]
    exact lh_y_addc hs (by omega) Y (fun c' => absurd c' (by omega)) (fun c' => ⟨rfl, lh_mkR S Y⟩)
  · exact lh_y_g3 (nl := nl) (cs := cs) (ns := ns) (ps := ps) (ms := ms) (dv := dv) (hd := hd) (us := us) (fun s a b hs ha hb e1 e2 e3 => absurd ⟨s, a, b, hs, ha, hb, e1, e2, e3⟩ h) (fun _ => ⟨rfl, lh_mkR S Y⟩)
theorem i_vc_cell {k : Nat} {u : SX} {v : SY} (I : i_Rel k u v) (hk : k + 4 ≤ 2048) (v1 : Int32) (v2 : Int32) (v3 : Int32) : wpX_cell (fun r u' => wpY_cell (fun r' v' => r' = r ∧ i_Rel (k + 4) u' v') v v1 v2 v3) u v1 v2 v3 := by
  obtain ⟨fc, cc, ck, cl, cr, pc, pk, pf, pt, g, nx, en, pn, pe, fr, tk⟩ := u
  obtain ⟨nl, cs, ns, ps, ms, dv, hd, us⟩ := v
  obtain ⟨C, W, nc, np, S, Y⟩ := I
  unfold wpX_cell
  dsimp only
  refine lh_x_addp (kd := 0) (by decide) S (fun s a b hs ha hb e1 e2 e3 c pc pk pf pt S' => ?_) (fun s a b hs ha hb e1 e2 e3 c => ?_) (fun h => ?_)
  · subst e1; subst e2; subst e3
    have ew : 6 * nI a + nI b = nI (36 * 0 + 6 * a + b) := by rw [lh_6s]; exact congrArg nI (by omega)
    refine lh_y_g3 (nl := nl) (cs := cs) (ns := ns) (ps := ps) (ms := ms) (dv := dv) (hd := hd) (us := us) (fun _ _ _ _ _ _ _ _ _ => ?_) (fun h => absurd ⟨s, a, b, hs, ha, hb, rfl, rfl, rfl⟩ h)
    rw [ew]
    exact lh_y_addp hs (by omega) Y (fun c' ps ms Y' => ⟨rfl, lh_mkR S' Y'⟩) (fun c' => absurd c' (by omega))
  · subst e1; subst e2; subst e3
    have ew : 6 * nI a + nI b = nI (36 * 0 + 6 * a + b) := by rw [lh_6s]; exact congrArg nI (by omega)
    refine lh_y_g3 (nl := nl) (cs := cs) (ns := ns) (ps := ps) (ms := ms) (dv := dv) (hd := hd) (us := us) (fun _ _ _ _ _ _ _ _ _ => ?_) (fun h => absurd ⟨s, a, b, hs, ha, hb, rfl, rfl, rfl⟩ h)
    rw [ew]
    exact lh_y_addp hs (by omega) Y (fun c' => absurd c' (by omega)) (fun c' => ⟨rfl, lh_mkR S Y⟩)
  · exact lh_y_g3 (nl := nl) (cs := cs) (ns := ns) (ps := ps) (ms := ms) (dv := dv) (hd := hd) (us := us) (fun s a b hs ha hb e1 e2 e3 => absurd ⟨s, a, b, hs, ha, hb, e1, e2, e3⟩ h) (fun _ => ⟨rfl, lh_mkR S Y⟩)
theorem i_vc_list {k : Nat} {u : SX} {v : SY} (I : i_Rel k u v) (hk : k + 4 ≤ 2048) (v1 : Int32) (v2 : Int32) (v3 : Int32) : wpX_list (fun r u' => wpY_list (fun r' v' => r' = r ∧ i_Rel (k + 4) u' v') v v1 v2 v3) u v1 v2 v3 := by
  obtain ⟨fc, cc, ck, cl, cr, pc, pk, pf, pt, g, nx, en, pn, pe, fr, tk⟩ := u
  obtain ⟨nl, cs, ns, ps, ms, dv, hd, us⟩ := v
  obtain ⟨C, W, nc, np, S, Y⟩ := I
  unfold wpX_list
  dsimp only
  refine lh_x_addp (kd := 1) (by decide) S (fun s a b hs ha hb e1 e2 e3 c pc pk pf pt S' => ?_) (fun s a b hs ha hb e1 e2 e3 c => ?_) (fun h => ?_)
  · subst e1; subst e2; subst e3
    have ew : 36 + 6 * nI a + nI b = nI (36 * 1 + 6 * a + b) := by rw [lh_36s]
    refine lh_y_g3 (nl := nl) (cs := cs) (ns := ns) (ps := ps) (ms := ms) (dv := dv) (hd := hd) (us := us) (fun _ _ _ _ _ _ _ _ _ => ?_) (fun h => absurd ⟨s, a, b, hs, ha, hb, rfl, rfl, rfl⟩ h)
    rw [ew]
    exact lh_y_addp hs (by omega) Y (fun c' ps ms Y' => ⟨rfl, lh_mkR S' Y'⟩) (fun c' => absurd c' (by omega))
  · subst e1; subst e2; subst e3
    have ew : 36 + 6 * nI a + nI b = nI (36 * 1 + 6 * a + b) := by rw [lh_36s]
    refine lh_y_g3 (nl := nl) (cs := cs) (ns := ns) (ps := ps) (ms := ms) (dv := dv) (hd := hd) (us := us) (fun _ _ _ _ _ _ _ _ _ => ?_) (fun h => absurd ⟨s, a, b, hs, ha, hb, rfl, rfl, rfl⟩ h)
    rw [ew]
    exact lh_y_addp hs (by omega) Y (fun c' => absurd c' (by omega)) (fun c' => ⟨rfl, lh_mkR S Y⟩)
  · exact lh_y_g3 (nl := nl) (cs := cs) (ns := ns) (ps := ps) (ms := ms) (dv := dv) (hd := hd) (us := us) (fun s a b hs ha hb e1 e2 e3 => absurd ⟨s, a, b, hs, ha, hb, e1, e2, e3⟩ h) (fun _ => ⟨rfl, lh_mkR S Y⟩)
theorem i_vc_drop {k : Nat} {u : SX} {v : SY} (I : i_Rel k u v) (hk : k + 4 ≤ 2048) (v1 : Int32) (v2 : Int32) : wpX_drop (fun r u' => wpY_drop (fun r' v' => r' = r ∧ i_Rel (k + 4) u' v') v v1 v2) u v1 v2 := by
  obtain ⟨fc, cc, ck, cl, cr, pc, pk, pf, pt, g, nx, en, pn, pe, fr, tk⟩ := u
  obtain ⟨nl, cs, ns, ps, ms, dv, hd, us⟩ := v
  obtain ⟨C, W, nc, np, S, Y⟩ := I
  refine lh_x_g1 (fun s hs e => ?_) (fun h => lh_y_g1 (nl := nl) (cs := cs) (ns := ns) (ps := ps) (ms := ms) (dv := dv) (hd := hd) (us := us) (fun s hs e => absurd ⟨s, hs, e⟩ h) (fun _ => ⟨rfl, lh_mkR S Y⟩))
  subst e
  have G : lh_g1 (nI s) := ⟨s, hs, rfl⟩
  by_cases c0 : v2 = 0
  · subst c0
    exact br_t rfl (lh_x_dlc hs S (fun c cc S' => lh_y_g1 (nl := nl) (cs := cs) (ns := ns) (ps := ps) (ms := ms) (dv := dv) (hd := hd) (us := us) (fun _ _ _ => br_t rfl (lh_y_dr0 hs Y (fun c' ns Y' => ⟨rfl, lh_mkR S' Y'⟩) (fun c' => absurd c' c))) (fun h => absurd G h)) (fun c => lh_y_g1 (nl := nl) (cs := cs) (ns := ns) (ps := ps) (ms := ms) (dv := dv) (hd := hd) (us := us) (fun _ _ _ => br_t rfl (lh_y_dr0 hs Y (fun c' => absurd c c') (fun c' => ⟨rfl, lh_mkR S Y⟩))) (fun h => absurd G h)))
  · refine br_f c0 ?_
    by_cases c1 : v2 = 1
    · subst c1
      exact br_t rfl (lh_x_dlp hs S (fun c pc S' => lh_y_g1 (nl := nl) (cs := cs) (ns := ns) (ps := ps) (ms := ms) (dv := dv) (hd := hd) (us := us) (fun _ _ _ => br_f c0 (br_t rfl (lh_y_dr1 hs Y (fun c' ms Y' => ⟨rfl, lh_mkR S' Y'⟩) (fun c' => absurd c' c)))) (fun h => absurd G h)) (fun c => lh_y_g1 (nl := nl) (cs := cs) (ns := ns) (ps := ps) (ms := ms) (dv := dv) (hd := hd) (us := us) (fun _ _ _ => br_f c0 (br_t rfl (lh_y_dr1 hs Y (fun c' => absurd c c') (fun c' => ⟨rfl, lh_mkR S Y⟩)))) (fun h => absurd G h)))
    · exact br_f c1 (lh_y_g1 (nl := nl) (cs := cs) (ns := ns) (ps := ps) (ms := ms) (dv := dv) (hd := hd) (us := us) (fun _ _ _ => br_f c0 (br_f c1 ⟨rfl, lh_mkR S Y⟩)) (fun h => absurd G h))
theorem i_vc_clear {k : Nat} {u : SX} {v : SY} (I : i_Rel k u v) (hk : k + 4 ≤ 2048) (v1 : Int32) : wpX_clear (fun r u' => wpY_clear (fun r' v' => r' = r ∧ i_Rel (k + 4) u' v') v v1) u v1 := by
  obtain ⟨fc, cc, ck, cl, cr, pc, pk, pf, pt, g, nx, en, pn, pe, fr, tk⟩ := u
  obtain ⟨nl, cs, ns, ps, ms, dv, hd, us⟩ := v
  obtain ⟨C, W, nc, np, S, Y⟩ := I
  refine lh_x_g1 (fun s hs e => ?_) (fun h => lh_y_g1 (nl := nl) (cs := cs) (ns := ns) (ps := ps) (ms := ms) (dv := dv) (hd := hd) (us := us) (fun s hs e => absurd ⟨s, hs, e⟩ h) (fun _ => ⟨rfl, lh_mkR S Y⟩))
  subst e
  have G : lh_g1 (nI s) := ⟨s, hs, rfl⟩
  obtain ⟨⟨s1, s2, s3, s4⟩, ⟨p1, p2, p3, p4⟩, hC, hW, hnc, hnp⟩ := S
  obtain ⟨y1, y2, y3, y4, y5, _, _, _, _⟩ := Y
  have cs' : (nI s).toNatClampNeg = s := nI_clamp (by omega)
  have S' : lh_St C W (lh_up nc s 0) (lh_up np s 0) (upd cc s (nI 0)) ck cl cr (upd pc s (nI 0)) pk pf pt := ⟨⟨lh_Pu (F := fun x => x) s1 s 0 rfl, s2, s3, s4⟩, ⟨lh_Pu (F := fun x => x) p1 s 0 rfl, p2, p3, p4⟩, hC, hW, lh_up_lt hnc (Nat.zero_le _), lh_up_lt hnp (Nat.zero_le _)⟩
  have Y' : lh_Sy C W (lh_up nc s 0) (lh_up np s 0) cs (upd ns s (nI 0)) ps (upd ms s (nI 0)) dv := ⟨y1, lh_Pu (F := fun x => x) y2 s 0 rfl, y3, lh_Pu (F := fun x => x) y4 s 0 rfl, y5, hC, hW, lh_up_lt hnc (Nat.zero_le _), lh_up_lt hnp (Nat.zero_le _)⟩
  have eX : cc (nI s).toNatClampNeg + pc (nI s).toNatClampNeg = nI (nc s + np s) := by rw [cs', s1, p1, nI_add]
  have eY : ns (nI s).toNatClampNeg + ms (nI s).toNatClampNeg = nI (nc s + np s) := by rw [cs', y2, y4, nI_add]
  refine ⟨pk_in s 2 hs, pk_in s 2 hs, nm_r eX ⟨pk_in s 2 hs, nm_r (e' := upd cc s (nI 0)) (by rw [cs']; rfl) ⟨pk_in s 2 hs, nm_r (e' := upd pc s (nI 0)) (by rw [cs']; rfl) ?_⟩⟩⟩
  exact lh_y_g1 (nl := nl) (cs := cs) (ns := ns) (ps := ps) (ms := ms) (dv := dv) (hd := hd) (us := us) (fun _ _ _ => ⟨pk_in s 2 hs, pk_in s 2 hs, nm_r eY ⟨pk_in s 2 hs, nm_r (e' := upd ns s (nI 0)) (by rw [cs']; rfl) ⟨pk_in s 2 hs, nm_r (e' := upd ms s (nI 0)) (by rw [cs']; rfl) ⟨rfl, lh_mkR S' Y'⟩⟩⟩⟩) (fun h => absurd G h)
theorem i_vc_swap {k : Nat} {u : SX} {v : SY} (I : i_Rel k u v) (hk : k + 4 ≤ 2048) : wpX_swap (fun u' => wpY_swap (fun v' => i_Rel (k + 4) u' v') v) u := by
  obtain ⟨fc, cc, ck, cl, cr, pc, pk, pf, pt, g, nx, en, pn, pe, fr, tk⟩ := u
  obtain ⟨nl, cs, ns, ps, ms, dv, hd, us⟩ := v
  obtain ⟨C, W, nc, np, S, Y⟩ := I
  exact lh_x_swap S (fun cc ck cl cr pc pk pf pt S' => lh_y_swap Y (fun cs ns ps ms Y' => lh_mkR S' Y'))
end
section
/-! WHAT IS OWED: questions -/
theorem i_vc_divisions {k : Nat} {u : SX} {v : SY} (I : i_Rel k u v) (hk : k + 4 ≤ 2048) (v1 : Int32) : wpX_divisions (fun r u' => wpY_divisions (fun r' v' => r' = r ∧ i_Rel (k + 4) u' v') v v1) u v1 := by
  obtain ⟨fc, cc, ck, cl, cr, pc, pk, pf, pt, g, nx, en, pn, pe, fr, tk⟩ := u
  obtain ⟨nl, cs, ns, ps, ms, dv, hd, us⟩ := v
  obtain ⟨C, W, nc, np, S, Y⟩ := I
  refine lh_x_div S (fun s hs e fc g nx en pn pe fr tk => ?_) (fun h => lh_y_g1 (nl := nl) (cs := cs) (ns := ns) (ps := ps) (ms := ms) (dv := dv) (hd := hd) (us := us) (fun s hs e => absurd ⟨s, hs, e⟩ h) (fun _ => ⟨rfl, lh_mkR S Y⟩))
  subst e
  exact lh_y_g1 (nl := nl) (cs := cs) (ns := ns) (ps := ps) (ms := ms) (dv := dv) (hd := hd) (us := us) (fun _ _ _ => ⟨204, lh_y_div14 hs Y (fun nl hd us => ⟨by rw [lh_ct_eq], lh_mkR S Y⟩) 204 0 nl hd us (by omega) (by omega)⟩) (fun h => absurd ⟨s, hs, rfl⟩ h)
theorem i_vc_possible {k : Nat} {u : SX} {v : SY} (I : i_Rel k u v) (hk : k + 4 ≤ 2048) (v1 : Int32) : wpX_possible (fun r u' => wpY_possible (fun r' v' => r' = r ∧ i_Rel (k + 4) u' v') v v1) u v1 := by
  obtain ⟨fc, cc, ck, cl, cr, pc, pk, pf, pt, g, nx, en, pn, pe, fr, tk⟩ := u
  obtain ⟨nl, cs, ns, ps, ms, dv, hd, us⟩ := v
  obtain ⟨C, W, nc, np, S, Y⟩ := I
  unfold wpX_possible
  dsimp only
  refine lh_x_div S (fun s hs e fc g nx en pn pe fr tk => ?_) (fun h => ?_)
  rotate_left
  · exact br_t (show (-1 : Int32) ≤ 0 from by decide) (lh_y_g1 (nl := nl) (cs := cs) (ns := ns) (ps := ps) (ms := ms) (dv := dv) (hd := hd) (us := us) (fun s hs e => absurd ⟨s, hs, e⟩ h) (fun _ => ⟨rfl, lh_mkR S Y⟩))
  subst e
  have Q := lh_ct_pos (G := lh_D) (P := lh_B C W nc np s) 203
  have R := lh_all2 (P := fun l => ¬ lh_B C W nc np s l) (Q := fun l => ¬ lh_B C W nc np s l) (fun l _ => Iff.rfl)
  have b : lh_ct lh_D (lh_Bb (lh_B C W nc np s)) 203 ≤ 203 := lh_ct_le
  refine pk_le (lh_ct lh_D (lh_Bb (lh_B C W nc np s)) 203) 0 (fun z => ?_) (fun z => ?_)
  · have all : ∀ i, i < 203 → (fun l => ¬ lh_B C W nc np s l) (lh_E i) := R.mp (fun i hi B => absurd (Q.mpr ⟨i, hi, B⟩) (by omega))
    exact lh_y_g1 (nl := nl) (cs := cs) (ns := ns) (ps := ps) (ms := ms) (dv := dv) (hd := hd) (us := us) (fun _ _ _ => ⟨204, lh_y_poss12 hs Y (fun _ nl hd us => ⟨rfl, lh_mkR S Y⟩) (fun h => absurd all h) 204 0 nl hd us (by omega) (by omega) (fun j hj => absurd hj (Nat.not_lt_zero j))⟩) (fun h => absurd ⟨s, hs, rfl⟩ h)
  · obtain ⟨i, hi, B⟩ := Q.mp z
    exact lh_y_g1 (nl := nl) (cs := cs) (ns := ns) (ps := ps) (ms := ms) (dv := dv) (hd := hd) (us := us) (fun _ _ _ => ⟨204, lh_y_poss12 hs Y (fun h => absurd B (R.mpr h i hi)) (fun _ nl hd us => ⟨rfl, lh_mkR S Y⟩) 204 0 nl hd us (by omega) (by omega) (fun j hj => absurd hj (Nat.not_lt_zero j))⟩) (fun h => absurd ⟨s, hs, rfl⟩ h)
theorem i_vc_alwaysSame {k : Nat} {u : SX} {v : SY} (I : i_Rel k u v) (hk : k + 4 ≤ 2048) (v1 : Int32) (v2 : Int32) (v3 : Int32) : wpX_alwaysSame (fun r u' => wpY_alwaysSame (fun r' v' => r' = r ∧ i_Rel (k + 4) u' v') v v1 v2 v3) u v1 v2 v3 := by
  obtain ⟨fc, cc, ck, cl, cr, pc, pk, pf, pt, g, nx, en, pn, pe, fr, tk⟩ := u
  obtain ⟨nl, cs, ns, ps, ms, dv, hd, us⟩ := v
  obtain ⟨C, W, nc, np, S, Y⟩ := I
  refine lh_x_g3 (fun s a b hs ha hb e1 e2 e3 => ?_) (fun h => lh_y_g3 (nl := nl) (cs := cs) (ns := ns) (ps := ps) (ms := ms) (dv := dv) (hd := hd) (us := us) (fun s a b hs ha hb e1 e2 e3 => absurd ⟨s, a, b, hs, ha, hb, e1, e2, e3⟩ h) (fun _ => ⟨rfl, lh_mkR S Y⟩))
  subst e1; subst e2; subst e3
  have G : lh_g3 (nI s) (nI a) (nI b) := ⟨s, a, b, hs, ha, hb, rfl, rfl, rfl⟩
  have R := lh_all2 (P := fun l => lh_gf l a ≠ lh_gf l b → ¬ lh_B C W nc np s l) (Q := fun l => ¬ (lh_gf l a = lh_gf l b ↔ true = true) → ¬ lh_B C W nc np s l) (fun l _ => ⟨fun h y => h (fun v => y ⟨fun _ => rfl, fun _ => v⟩), fun h y => h (fun v => y (v.mpr rfl))⟩)
  refine lh_x_first (fun g hg => ⟨204, lh_x_as30 hs ha hb S (fun all fc g nx en pn pe fr tk => ?_) (fun all fc g nx en pn pe fr tk => ?_) 204 0 fc g nx en pn pe fr tk (by omega) (by omega) hg (fun j hj => absurd hj (Nat.not_lt_zero j))⟩)
  · exact lh_y_g3 (nl := nl) (cs := cs) (ns := ns) (ps := ps) (ms := ms) (dv := dv) (hd := hd) (us := us) (fun _ _ _ _ _ _ _ _ _ => Exists.intro 204 (lh_y_alw3 (wt := true) hs ha hb Y (fun _ nl hd us => br_f (by decide) ⟨rfl, lh_mkR S Y⟩) (fun h => absurd (R.mp all) h) 204 0 nl hd us (by omega) (by omega) (fun j hj => absurd hj (Nat.not_lt_zero j)))) (fun h => absurd G h)
  · exact lh_y_g3 (nl := nl) (cs := cs) (ns := ns) (ps := ps) (ms := ms) (dv := dv) (hd := hd) (us := us) (fun _ _ _ _ _ _ _ _ _ => Exists.intro 204 (lh_y_alw3 (wt := true) hs ha hb Y (fun h => absurd (R.mpr h) all) (fun _ nl hd us => br_t rfl ⟨rfl, lh_mkR S Y⟩) 204 0 nl hd us (by omega) (by omega) (fun j hj => absurd hj (Nat.not_lt_zero j)))) (fun h => absurd G h)
theorem i_vc_neverSame {k : Nat} {u : SX} {v : SY} (I : i_Rel k u v) (hk : k + 4 ≤ 2048) (v1 : Int32) (v2 : Int32) (v3 : Int32) : wpX_neverSame (fun r u' => wpY_neverSame (fun r' v' => r' = r ∧ i_Rel (k + 4) u' v') v v1 v2 v3) u v1 v2 v3 := by
  obtain ⟨fc, cc, ck, cl, cr, pc, pk, pf, pt, g, nx, en, pn, pe, fr, tk⟩ := u
  obtain ⟨nl, cs, ns, ps, ms, dv, hd, us⟩ := v
  obtain ⟨C, W, nc, np, S, Y⟩ := I
  refine lh_x_g3 (fun s a b hs ha hb e1 e2 e3 => ?_) (fun h => lh_y_g3 (nl := nl) (cs := cs) (ns := ns) (ps := ps) (ms := ms) (dv := dv) (hd := hd) (us := us) (fun s a b hs ha hb e1 e2 e3 => absurd ⟨s, a, b, hs, ha, hb, e1, e2, e3⟩ h) (fun _ => ⟨rfl, lh_mkR S Y⟩))
  subst e1; subst e2; subst e3
  have G : lh_g3 (nI s) (nI a) (nI b) := ⟨s, a, b, hs, ha, hb, rfl, rfl, rfl⟩
  have R := lh_all2 (P := fun l => lh_gf l a = lh_gf l b → ¬ lh_B C W nc np s l) (Q := fun l => ¬ (lh_gf l a = lh_gf l b ↔ false = true) → ¬ lh_B C W nc np s l) (fun l _ => ⟨fun h y => by
    by_cases v : lh_gf l a = lh_gf l b
    · exact h v
    · exact absurd ⟨fun u => absurd u v, fun u => absurd u (by decide)⟩ y, fun h y => h (fun v => absurd (v.mp y) (by decide))⟩)
  refine lh_x_first (fun g hg => ⟨204, lh_x_ns30 hs ha hb S (fun all fc g nx en pn pe fr tk => ?_) (fun all fc g nx en pn pe fr tk => ?_) 204 0 fc g nx en pn pe fr tk (by omega) (by omega) hg (fun j hj => absurd hj (Nat.not_lt_zero j))⟩)
  · exact lh_y_g3 (nl := nl) (cs := cs) (ns := ns) (ps := ps) (ms := ms) (dv := dv) (hd := hd) (us := us) (fun _ _ _ _ _ _ _ _ _ => Exists.intro 204 (lh_y_alw3 (wt := false) hs ha hb Y (fun _ nl hd us => br_f (by decide) ⟨rfl, lh_mkR S Y⟩) (fun h => absurd (R.mp all) h) 204 0 nl hd us (by omega) (by omega) (fun j hj => absurd hj (Nat.not_lt_zero j)))) (fun h => absurd G h)
  · exact lh_y_g3 (nl := nl) (cs := cs) (ns := ns) (ps := ps) (ms := ms) (dv := dv) (hd := hd) (us := us) (fun _ _ _ _ _ _ _ _ _ => Exists.intro 204 (lh_y_alw3 (wt := false) hs ha hb Y (fun h => absurd (R.mpr h) all) (fun _ nl hd us => br_t rfl ⟨rfl, lh_mkR S Y⟩) 204 0 nl hd us (by omega) (by omega) (fun j hj => absurd hj (Nat.not_lt_zero j)))) (fun h => absurd G h)
theorem i_vc_held {k : Nat} {u : SX} {v : SY} (I : i_Rel k u v) (hk : k + 4 ≤ 2048) (v1 : Int32) (v2 : Int32) : wpX_held (fun r u' => wpY_held (fun r' v' => r' = r ∧ i_Rel (k + 4) u' v') v v1 v2) u v1 v2 := by
  obtain ⟨fc, cc, ck, cl, cr, pc, pk, pf, pt, g, nx, en, pn, pe, fr, tk⟩ := u
  obtain ⟨nl, cs, ns, ps, ms, dv, hd, us⟩ := v
  obtain ⟨C, W, nc, np, S, Y⟩ := I
  refine lh_x_g2 (fun s a hs ha e1 e2 => ?_) (fun h => lh_y_g2 (nl := nl) (cs := cs) (ns := ns) (ps := ps) (ms := ms) (dv := dv) (hd := hd) (us := us) (fun s a hs ha e1 e2 => absurd ⟨s, a, hs, ha, e1, e2⟩ h) (fun _ => ⟨rfl, lh_mkR S Y⟩))
  subst e1; subst e2
  have G : lh_g2 (nI s) (nI a) := ⟨s, a, hs, ha, rfl, rfl⟩
  have R := lh_all2 (P := fun l => lh_B C W nc np s l → lh_H W np s l (lh_gf l a) ≠ 0) (Q := fun l => lh_B C W nc np s l → lh_H W np s l (lh_gf l a) ≠ 0) (fun l _ => Iff.rfl)
  refine lh_x_first (fun g hg => ⟨204, lh_x_held22 hs ha S (fun all fc g nx en pn pe fr tk => ?_) (fun all fc g nx en pn pe fr tk => ?_) 204 0 fc g nx en pn pe fr tk (by omega) (by omega) hg (fun j hj => absurd hj (Nat.not_lt_zero j))⟩)
  · exact lh_y_g2 (nl := nl) (cs := cs) (ns := ns) (ps := ps) (ms := ms) (dv := dv) (hd := hd) (us := us) (fun _ _ _ _ _ _ => Exists.intro 204 (lh_y_held20 hs ha Y (fun _ nl hd us => ⟨rfl, lh_mkR S Y⟩) (fun h => absurd (R.mp all) h) 204 0 nl hd us (by omega) (by omega) (fun j hj => absurd hj (Nat.not_lt_zero j)))) (fun h => absurd G h)
  · exact lh_y_g2 (nl := nl) (cs := cs) (ns := ns) (ps := ps) (ms := ms) (dv := dv) (hd := hd) (us := us) (fun _ _ _ _ _ _ => Exists.intro 204 (lh_y_held20 hs ha Y (fun h => absurd (R.mpr h) all) (fun _ nl hd us => ⟨rfl, lh_mkR S Y⟩) 204 0 nl hd us (by omega) (by omega) (fun j hj => absurd hj (Nat.not_lt_zero j)))) (fun h => absurd G h)
theorem i_vc_reaches {k : Nat} {u : SX} {v : SY} (I : i_Rel k u v) (hk : k + 4 ≤ 2048) (v1 : Int32) (v2 : Int32) (v3 : Int32) : wpX_reaches (fun r u' => wpY_reaches (fun r' v' => r' = r ∧ i_Rel (k + 4) u' v') v v1 v2 v3) u v1 v2 v3 := by
  obtain ⟨fc, cc, ck, cl, cr, pc, pk, pf, pt, g, nx, en, pn, pe, fr, tk⟩ := u
  obtain ⟨nl, cs, ns, ps, ms, dv, hd, us⟩ := v
  obtain ⟨C, W, nc, np, S, Y⟩ := I
  refine lh_x_g3 (fun s a b hs ha hb e1 e2 e3 => ?_) (fun h => lh_y_g3 (nl := nl) (cs := cs) (ns := ns) (ps := ps) (ms := ms) (dv := dv) (hd := hd) (us := us) (fun s a b hs ha hb e1 e2 e3 => absurd ⟨s, a, b, hs, ha, hb, e1, e2, e3⟩ h) (fun _ => ⟨rfl, lh_mkR S Y⟩))
  subst e1; subst e2; subst e3
  have G : lh_g3 (nI s) (nI a) (nI b) := ⟨s, a, b, hs, ha, hb, rfl, rfl, rfl⟩
  have R := lh_all2 (P := fun l => lh_B C W nc np s l → ∃ q, lh_pth (lh_H W np s l) (lh_gf l b) (lh_gf l a) q) (Q := fun l => lh_B C W nc np s l → ∃ q, lh_pth (lh_H W np s l) (lh_gf l b) (lh_gf l a) q) (fun l _ => Iff.rfl)
  refine lh_x_first (fun g hg => ⟨204, lh_x_reach30 hs ha hb S (fun all fc g nx en pn pe fr tk => ?_) (fun all fc g nx en pn pe fr tk => ?_) 204 0 fc g nx en pn pe fr tk (by omega) (by omega) hg (fun j hj => absurd hj (Nat.not_lt_zero j))⟩)
  · exact lh_y_g3 (nl := nl) (cs := cs) (ns := ns) (ps := ps) (ms := ms) (dv := dv) (hd := hd) (us := us) (fun _ _ _ _ _ _ _ _ _ => Exists.intro 204 (lh_y_reach29 hs ha hb Y (fun _ nl hd us => ⟨rfl, lh_mkR S Y⟩) (fun h => absurd (R.mp all) h) 204 0 nl hd us (by omega) (by omega) (fun j hj => absurd hj (Nat.not_lt_zero j)))) (fun h => absurd G h)
  · exact lh_y_g3 (nl := nl) (cs := cs) (ns := ns) (ps := ps) (ms := ms) (dv := dv) (hd := hd) (us := us) (fun _ _ _ _ _ _ _ _ _ => Exists.intro 204 (lh_y_reach29 hs ha hb Y (fun h => absurd (R.mpr h) all) (fun _ nl hd us => ⟨rfl, lh_mkR S Y⟩) 204 0 nl hd us (by omega) (by omega) (fun j hj => absurd hj (Nat.not_lt_zero j)))) (fun h => absurd G h)
end
section
/-! WHAT IS OWED: the last questions -/
theorem i_vc_least {k : Nat} {u : SX} {v : SY} (I : i_Rel k u v) (hk : k + 4 ≤ 2048) (v1 : Int32) : wpX_least (fun r u' => wpY_least (fun r' v' => r' = r ∧ i_Rel (k + 4) u' v') v v1) u v1 := by
  obtain ⟨fc, cc, ck, cl, cr, pc, pk, pf, pt, g, nx, en, pn, pe, fr, tk⟩ := u
  obtain ⟨nl, cs, ns, ps, ms, dv, hd, us⟩ := v
  obtain ⟨C, W, nc, np, S, Y⟩ := I
  refine lh_x_g1 (fun s hs e => ?_) (fun h => lh_y_g1 (nl := nl) (cs := cs) (ns := ns) (ps := ps) (ms := ms) (dv := dv) (hd := hd) (us := us) (fun s hs e => absurd ⟨s, hs, e⟩ h) (fun _ => ⟨rfl, lh_mkR S Y⟩))
  subst e
  have G : lh_g1 (nI s) := ⟨s, hs, rfl⟩
  refine lh_x_first (fun g hg => ⟨204, lh_x_least18 hs S (fun o M fc g nx en pn pe fr tk => ?_) 204 0 none fc g nx en pn pe fr tk (by omega) (by omega) hg (fun i hi => absurd hi (Nat.not_lt_zero i)) (fun m e => nomatch e)⟩)
  exact lh_y_g1 (nl := nl) (cs := cs) (ns := ns) (ps := ps) (ms := ms) (dv := dv) (hd := hd) (us := us) (fun _ _ _ => Exists.intro 204 (lh_y_least15 hs Y (fun o' M' nl hd us => ⟨by rw [lh_mn_u ((lh_mn_DE o).mp M) M'], lh_mkR S Y⟩) 204 0 none nl hd us (by omega) (by omega) (fun i hi => absurd hi (Nat.not_lt_zero i)) (fun m e => nomatch e))) (fun h => absurd G h)
theorem i_vc_most {k : Nat} {u : SX} {v : SY} (I : i_Rel k u v) (hk : k + 4 ≤ 2048) (v1 : Int32) : wpX_most (fun r u' => wpY_most (fun r' v' => r' = r ∧ i_Rel (k + 4) u' v') v v1) u v1 := by
  obtain ⟨fc, cc, ck, cl, cr, pc, pk, pf, pt, g, nx, en, pn, pe, fr, tk⟩ := u
  obtain ⟨nl, cs, ns, ps, ms, dv, hd, us⟩ := v
  obtain ⟨C, W, nc, np, S, Y⟩ := I
  refine lh_x_g1 (fun s hs e => ?_) (fun h => lh_y_g1 (nl := nl) (cs := cs) (ns := ns) (ps := ps) (ms := ms) (dv := dv) (hd := hd) (us := us) (fun s hs e => absurd ⟨s, hs, e⟩ h) (fun _ => ⟨rfl, lh_mkR S Y⟩))
  subst e
  have G : lh_g1 (nI s) := ⟨s, hs, rfl⟩
  have R := lh_all2 (P := fun l => lh_B C W nc np s l → ¬ lh_any6 (lh_Q W np s l)) (Q := fun l => lh_B C W nc np s l → ¬ lh_any6 (lh_Q W np s l)) (fun l _ => Iff.rfl)
  refine lh_x_first (fun g hg => ⟨204, lh_x_most18 hs S (fun all o M fc g nx en pn pe fr tk => ?_) (fun all fc g nx en pn pe fr tk => ?_) 204 0 none fc g nx en pn pe fr tk (by omega) (by omega) hg (fun j hj => absurd hj (Nat.not_lt_zero j)) (fun i hi => absurd hi (Nat.not_lt_zero i)) (fun m e => nomatch e)⟩)
  · exact lh_y_g1 (nl := nl) (cs := cs) (ns := ns) (ps := ps) (ms := ms) (dv := dv) (hd := hd) (us := us) (fun _ _ _ => Exists.intro 204 (lh_y_most15 hs Y (fun _ o' M' nl hd us => ⟨by rw [lh_mx_u ((lh_mx_DE o).mp M) M'], lh_mkR S Y⟩) (fun h => absurd (R.mp all) h) 204 0 none nl hd us (by omega) (by omega) (fun j hj => absurd hj (Nat.not_lt_zero j)) (fun i hi => absurd hi (Nat.not_lt_zero i)) (fun m e => nomatch e))) (fun h => absurd G h)
  · exact lh_y_g1 (nl := nl) (cs := cs) (ns := ns) (ps := ps) (ms := ms) (dv := dv) (hd := hd) (us := us) (fun _ _ _ => Exists.intro 204 (lh_y_most15 hs Y (fun h => absurd (R.mpr h) all) (fun _ nl hd us => ⟨rfl, lh_mkR S Y⟩) 204 0 none nl hd us (by omega) (by omega) (fun j hj => absurd hj (Nat.not_lt_zero j)) (fun i hi => absurd hi (Nat.not_lt_zero i)) (fun m e => nomatch e))) (fun h => absurd G h)
theorem i_vc_follows {k : Nat} {u : SX} {v : SY} (I : i_Rel k u v) (hk : k + 4 ≤ 2048) : wpX_follows (fun r u' => wpY_follows (fun r' v' => r' = r ∧ i_Rel (k + 4) u' v') v) u := by
  obtain ⟨fc, cc, ck, cl, cr, pc, pk, pf, pt, g, nx, en, pn, pe, fr, tk⟩ := u
  obtain ⟨nl, cs, ns, ps, ms, dv, hd, us⟩ := v
  obtain ⟨C, W, nc, np, S, Y⟩ := I
  have R := lh_all2 (P := fun l => lh_B C W nc np 0 l → lh_YF C W nc np (true = true) l) (Q := fun l => lh_B C W nc np 0 l → lh_YF C W nc np (true = true) l) (fun l _ => Iff.rfl)
  refine lh_x_first (fun g hg => ⟨204, lh_x_model6 (b := true) S (fun all fc g nx en pn pe fr tk => ⟨rfl, ?_⟩) (fun all fc g nx en pn pe fr tk => ⟨rfl, ?_⟩) 204 0 fc g nx en pn pe fr tk (by omega) (by omega) hg (fun j hj => absurd hj (Nat.not_lt_zero j))⟩)
  · exact Exists.intro 204 (lh_y_all2 (b := true) Y (fun _ nl hd us => ⟨rfl, rfl, lh_mkR S Y⟩) (fun h => absurd (R.mp all) h) 204 0 nl hd us (by omega) (by omega) (fun j hj => absurd hj (Nat.not_lt_zero j)))
  · exact Exists.intro 204 (lh_y_all2 (b := true) Y (fun h => absurd (R.mpr h) all) (fun _ nl hd us => ⟨rfl, rfl, lh_mkR S Y⟩) 204 0 nl hd us (by omega) (by omega) (fun j hj => absurd hj (Nat.not_lt_zero j)))
theorem i_vc_contains {k : Nat} {u : SX} {v : SY} (I : i_Rel k u v) (hk : k + 4 ≤ 2048) : wpX_contains (fun r u' => wpY_contains (fun r' v' => r' = r ∧ i_Rel (k + 4) u' v') v) u := by
  obtain ⟨fc, cc, ck, cl, cr, pc, pk, pf, pt, g, nx, en, pn, pe, fr, tk⟩ := u
  obtain ⟨nl, cs, ns, ps, ms, dv, hd, us⟩ := v
  obtain ⟨C, W, nc, np, S, Y⟩ := I
  have R := lh_all2 (P := fun l => lh_B C W nc np 0 l → lh_YF C W nc np (false = true) l) (Q := fun l => lh_B C W nc np 0 l → lh_YF C W nc np (false = true) l) (fun l _ => Iff.rfl)
  refine lh_x_first (fun g hg => ⟨204, lh_x_model6 (b := false) S (fun all fc g nx en pn pe fr tk => ⟨rfl, ?_⟩) (fun all fc g nx en pn pe fr tk => ⟨rfl, ?_⟩) 204 0 fc g nx en pn pe fr tk (by omega) (by omega) hg (fun j hj => absurd hj (Nat.not_lt_zero j))⟩)
  · exact Exists.intro 204 (lh_y_all2 (b := false) Y (fun _ nl hd us => ⟨rfl, rfl, lh_mkR S Y⟩) (fun h => absurd (R.mp all) h) 204 0 nl hd us (by omega) (by omega) (fun j hj => absurd hj (Nat.not_lt_zero j)))
  · exact Exists.intro 204 (lh_y_all2 (b := false) Y (fun h => absurd (R.mpr h) all) (fun _ nl hd us => ⟨rfl, rfl, lh_mkR S Y⟩) 204 0 nl hd us (by omega) (by omega) (fun j hj => absurd hj (Nat.not_lt_zero j)))
theorem i_vc_together {k : Nat} {u : SX} {v : SY} (I : i_Rel k u v) (hk : k + 4 ≤ 2048) : wpX_together (fun r u' => wpY_together (fun r' v' => r' = r ∧ i_Rel (k + 4) u' v') v) u := by
  obtain ⟨fc, cc, ck, cl, cr, pc, pk, pf, pt, g, nx, en, pn, pe, fr, tk⟩ := u
  obtain ⟨nl, cs, ns, ps, ms, dv, hd, us⟩ := v
  obtain ⟨C, W, nc, np, S, Y⟩ := I
  have R := lh_all2 (P := fun l => ¬ lh_tg C W nc np l) (Q := fun l => ¬ lh_tg C W nc np l) (fun l _ => Iff.rfl)
  refine lh_x_first (fun g hg => ⟨204, lh_x_tog6 S (fun all fc g nx en pn pe fr tk => ?_) (fun all fc g nx en pn pe fr tk => ?_) 204 0 fc g nx en pn pe fr tk (by omega) (by omega) hg (fun j hj => absurd hj (Nat.not_lt_zero j))⟩)
  · exact Exists.intro 204 (lh_y_tog2 Y (fun _ nl hd us => ⟨rfl, lh_mkR S Y⟩) (fun h => absurd (R.mp all) h) 204 0 nl hd us (by omega) (by omega) (fun j hj => absurd hj (Nat.not_lt_zero j)))
  · exact Exists.intro 204 (lh_y_tog2 Y (fun h => absurd (R.mpr h) all) (fun _ nl hd us => ⟨rfl, lh_mkR S Y⟩) 204 0 nl hd us (by omega) (by omega) (fun j hj => absurd hj (Nat.not_lt_zero j)))
end
