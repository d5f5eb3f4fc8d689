/-! THE REFERENCE: its constructor -/
theorem lh_hv_g : ∀ ms, ms < 8 → ∀ g, g < 8 → (lh_hv ms + 1 < nI g ↔ ms < g) := by decide +kernel
theorem lh_hv_h : ∀ ms, ms < 8 → ∀ g, g < 8 → (nI g ≤ lh_hv ms ↔ g < ms) := by decide +kernel
section
variable {nl : Int32} {cs ns ps ms dv hd us : Nat → Int32}
theorem lh_y_in83 {post : SY → Prop} {J : Int32 → Int32 → (Nat → Int32) → (Nat → Int32) → (Nat → Int32) → (Nat → Int32) → (Nat → Int32) → (Nat → Int32) → (Nat → Int32) → Prop} {N cnt : Nat} (hN : N < 46656) (hc : lh_pr 6 N 0 = true → cnt < 203)
    (HF : lh_pr 6 N 0 = false → J (nI cnt) (nI (N + 1)) cs ns ps ms dv hd us) (HT : lh_pr 6 N 0 = true → J (nI (cnt + 1)) (nI (N + 1)) cs ns ps ms (upd dv cnt (nI (lh_cd 6 N))) hd us) :
    ∀ (m i c r e n : Nat) (p : Bool), i + m = 6 → m < n → lh_in N i c r e p → wY_init_83 post J (nI cnt) (nI N) nl cs ns ps ms dv hd us n (nI c) (nI r) (lh_hv e) (lh_bI p) (nI i) := by
  intro m
  induction m with
  | zero =>
    intro i c r e n p him hn I
    obtain ⟨n, rfl⟩ : ∃ m, n = m + 1 := ⟨n - 1, by omega⟩
    have e6 : i = 6 := by omega
    subst e6
    obtain ⟨e1, e2⟩ := lh_in_6 I
    rw [wY_init_83]
    refine br_t (by decide) ?_
    cases p with
    | false => exact br_t rfl (nm_r (nI_1 N) (HF e2.symm))
    | true =>
      have c3 := hc e2.symm
      exact br_f (by decide) ⟨pk_in cnt 203 c3, nm_r (e' := upd dv cnt (nI (lh_cd 6 N))) (by rw [nI_clamp (by omega), e1]) (nm_r (nI_1 cnt) (nm_r (nI_1 N) (HT e2.symm)))⟩
  | succ m ih =>
    intro i c r e n p him hn I
    obtain ⟨n, rfl⟩ : ∃ m, n = m + 1 := ⟨n - 1, by omega⟩
    have hi : i < 6 := by omega
    have I' := lh_in_s hi I
    obtain ⟨_, c2, r2, e2, _, _⟩ := I
    have m6 : r % 6 < 6 := Nat.mod_lt _ (by decide)
    have fin : ∀ p', lh_in N (i + 1) (c + 2 ^ (3 * i) * (r % 6)) (r / 6) (if e ≤ r % 6 then r % 6 + 1 else e) p' → wY_init_123 post J (wY_init_83 post J (nI cnt) (nI N) nl cs ns ps ms dv hd us n) (nI cnt) (nI N) (nI c) (nI (r / 6)) (lh_hv e) (nI i) (nI (r % 6)) (lh_bI p') nl cs ns ps ms dv hd us := by
      intro p' K
      have q := ih (i + 1) _ _ _ n p' (by omega) (by omega) K
      have sh : nI c ||| (nI (r % 6) <<< ((3 * nI i) &&& 31)) = nI (c + 2 ^ (3 * i) * (r % 6)) := by
        rw [show (3 : Int32) * nI i = nI (3 * i) from pk_mul 3 i]
        exact lh_cdo hi m6 c2
      unfold wY_init_123 wY_init_139
      by_cases k : e ≤ r % 6
      · rw [if_pos k] at q
        exact br_f (fun y => absurd ((lh_hv_h _ (by omega) _ (by omega)).mp y) (by omega)) (nm_r sh (nm_r (nI_1 i) q))
      · rw [if_neg k] at q
        exact br_t ((lh_hv_h _ (by omega) _ (by omega)).mpr (by omega)) (nm_r sh (nm_r (nI_1 i) q))
    rw [wY_init_83]
    refine br_f (nI_ge (b := 6) hi (by decide)) ⟨by decide, nm_r (e' := nI (r % 6)) (pk_rem (d := 6) (by omega) (by decide) (by decide)) ⟨by decide, nm_r (e' := nI (r / 6)) (pk_div (d := 6) (by omega) (by decide) (by decide)) ?_⟩⟩
    cases p with
    | false => exact br_t rfl (fin false I')
    | true =>
      by_cases k : r % 6 ≤ e
      · rw [decide_eq_true k] at I'
        exact br_f (by decide) (br_f (fun y => absurd ((lh_hv_g _ (by omega) _ (by omega)).mp y) (by omega)) (fin true I'))
      · rw [decide_eq_false k] at I'
        exact br_f (by decide) (br_t ((lh_hv_g _ (by omega) _ (by omega)).mpr (by omega)) (fin false I'))
theorem lh_y_in63 {post : SY → Prop} (H : ∀ dv, (∀ j, j < 203 → dv j = nI (lh_Ec j)) → post (nl, cs, ns, ps, ms, dv, hd, us)) : ∀ (n N : Nat) (dv : Nat → Int32), 46656 < n + N → N ≤ 46656 → lh_AD dv (lh_F N) → wY_init_63 post nl n (nI (lh_F N).length) (nI N) cs ns ps ms dv hd us := by
  intro n
  induction n with
  | zero => intro N dv h1 h2; omega
  | succ n ih =>
    intro N dv h1 h2 A
    rw [wY_init_63]
    refine pk_le 46656 N (fun z => ?_) (fun z => ⟨7, lh_y_in83 z (fun p => lh_F_lt z p) (fun p => ?_) (fun p => ?_) 6 0 0 N 0 7 true (by omega) (by omega) (lh_in_0 N)⟩)
    · have e : N = 46656 := by omega
      rw [e] at A
      exact H dv (lh_AD_end A)
    · have q := ih (N + 1) dv (by omega) (by omega) (by rw [lh_F_f p]; exact A)
      rw [lh_F_f p] at q
      exact q
    · have q := ih (N + 1) (upd dv (lh_F N).length (nI (lh_cd 6 N))) (by omega) (by omega) (by rw [lh_F_t p]; exact lh_AD_snoc A)
      rw [lh_F_t p, List.length_append] at q
      exact q
end
theorem lh_y_init {post : SY → Prop} (H : ∀ dv, (∀ j, j < 203 → dv j = nI (lh_Ec j)) → post (0, (fun _ => 0), (fun _ => 0), (fun _ => 0), (fun _ => 0), dv, (fun _ => 0), (fun _ => 0))) : wpY_init post :=
  Exists.intro 46657 (lh_y_in63 H 46657 0 _ (by omega) (by omega) (fun j hj => absurd hj (Nat.not_lt_zero j)))
