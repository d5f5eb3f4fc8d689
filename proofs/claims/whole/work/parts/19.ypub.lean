/-! THE REFERENCE: the loops over the divisions -/
def lh_oJ : Option Nat → Int32
  | none => 100
  | some m => nI m
theorem lh_oJ_n : ∀ m, m < 8 → ¬ nI m = 100 := by decide +kernel
theorem lh_oJ_l : ∀ m, m < 8 → ¬ 100 ≤ nI m := by decide +kernel
theorem lh_se {i : Nat} {P : List Nat → Prop} (I : ∀ j, j < i → P (lh_E j)) (p : P (lh_E i)) : ∀ j, j < i + 1 → P (lh_E j) := by
  intro j hj
  rcases lh_lt_s hj with y | y
  · exact I j y
  · rw [y]; exact p
theorem lh_tg_iff {C W nc np : Nat → Nat} {l : List Nat} (w : lh_wf l) : lh_tg C W nc np l ↔ lh_B C W nc np 0 l ∧ lh_B C W nc np 1 l ∧ lh_src (lh_H W np 0 l) 7 &&& lh_src (lh_H W np 1 l) 7 = 0 := by
  unfold lh_tg
  rw [lh_oks_on, lh_src_and]
  constructor
  · intro ⟨a, b, c, d⟩
    refine ⟨b, ⟨a, c⟩, fun g _ h0 => ?_⟩
    by_cases z : lh_H W np 1 l g = 0
    · exact z
    · exact absurd (d g z) h0
  · intro ⟨b, ⟨a, c⟩, d⟩
    refine ⟨a, b, c, fun g h1 => ?_⟩
    by_cases z : lh_H W np 0 l g = 0
    · exact z
    · exact absurd (d g (Nat.lt_succ_of_lt (lh_H_lt w z)) z) h1
section
variable {nl : Int32} {cs ns ps ms dv hd us : Nat → Int32} {C W nc np : Nat → Nat}
theorem lh_y_poss12 {post : Int32 → SY → Prop} {s : Nat} (hs : s < 2) (S : lh_Sy C W nc np cs ns ps ms dv) (H1 : (∀ i, i < 203 → (fun l => ¬ lh_B C W nc np s l) (lh_E i)) → ∀ (nl : Int32) (hd us : Nat → Int32), post 0 (nl, cs, ns, ps, ms, dv, hd, us)) (H0 : (¬ ∀ i, i < 203 → (fun l => ¬ lh_B C W nc np s l) (lh_E i)) → ∀ (nl : Int32) (hd us : Nat → Int32), post 1 (nl, cs, ns, ps, ms, dv, hd, us)) :
    ∀ (n i : Nat) (nl : Int32) (hd us : Nat → Int32), 203 < n + i → i ≤ 203 → (∀ j, j < i → (fun l => ¬ lh_B C W nc np s l) (lh_E j)) → wY_possible_12 post (nI s) n (nI i) nl cs ns ps ms dv hd us := by
  intro n
  induction n with
  | zero => intro i nl hd us h1 h2; omega
  | succ n ih =>
    intro i nl hd us h1 h2 I
    rw [wY_possible_12]
    refine pk_le 203 i (fun z => ?_) (fun z => ?_)
    · have e : i = 203 := by omega
      rw [e] at I; exact H1 I nl hd us
    · have w := lh_E_wf i z
      have next : (fun l => ¬ lh_B C W nc np s l) (lh_E i) → ∀ (nl : Int32) (hd us : Nat → Int32), wY_possible_12 post (nI s) n (nI (i + 1)) nl cs ns ps ms dv hd us := fun p nl hd us => ih (i + 1) nl hd us (by omega) (by omega) (lh_se (P := fun l => ¬ lh_B C W nc np s l) I p)
      exact lh_y_build hs z S (fun B hd X => br_f (by decide) (H0 (fun y => y i z B) _ hd us)) (fun B hd => br_t rfl (nm_r (nI_1 i) (next B _ hd us)))
theorem lh_y_alw3 {post : Int32 → SY → Prop} {s a b : Nat} {wt : Bool} (hs : s < 2) (ha : a < 6) (hb : b < 6) (S : lh_Sy C W nc np cs ns ps ms dv) (H1 : (∀ i, i < 203 → (fun l => ¬ (lh_gf l a = lh_gf l b ↔ wt = true) → ¬ lh_B C W nc np s l) (lh_E i)) → ∀ (nl : Int32) (hd us : Nat → Int32), post 1 (nl, cs, ns, ps, ms, dv, hd, us)) (H0 : (¬ ∀ i, i < 203 → (fun l => ¬ (lh_gf l a = lh_gf l b ↔ wt = true) → ¬ lh_B C W nc np s l) (lh_E i)) → ∀ (nl : Int32) (hd us : Nat → Int32), post 0 (nl, cs, ns, ps, ms, dv, hd, us)) :
    ∀ (n i : Nat) (nl : Int32) (hd us : Nat → Int32), 203 < n + i → i ≤ 203 → (∀ j, j < i → (fun l => ¬ (lh_gf l a = lh_gf l b ↔ wt = true) → ¬ lh_B C W nc np s l) (lh_E j)) → wY_always_3 post (nI s) (nI a) (nI b) (lh_bI wt) n (nI i) nl cs ns ps ms dv hd us := by
  intro n
  induction n with
  | zero => intro i nl hd us h1 h2; omega
  | succ n ih =>
    intro i nl hd us h1 h2 I
    rw [wY_always_3]
    refine pk_le 203 i (fun z => ?_) (fun z => ?_)
    · have e : i = 203 := by omega
      rw [e] at I; exact H1 I nl hd us
    · have w := lh_E_wf i z
      have next : (fun l => ¬ (lh_gf l a = lh_gf l b ↔ wt = true) → ¬ lh_B C W nc np s l) (lh_E i) → ∀ (nl : Int32) (hd us : Nat → Int32), wY_always_3 post (nI s) (nI a) (nI b) (lh_bI wt) n (nI (i + 1)) nl cs ns ps ms dv hd us := fun p nl hd us => ih (i + 1) nl hd us (by omega) (by omega) (lh_se (P := fun l => ¬ (lh_gf l a = lh_gf l b ↔ wt = true) → ¬ lh_B C W nc np s l) I p)
      have la := w.2.1 a
      have lb := w.2.1 b
      have fin : ∀ zf : Bool, (lh_gf (lh_E i) a = lh_gf (lh_E i) b ↔ zf = true) → wY_always_33 post (wY_always_3 post (nI s) (nI a) (nI b) (lh_bI wt) n) (nI s) (nI a) (nI b) (lh_bI wt) (nI i) (lh_bI zf) nl cs ns ps ms dv hd us := by
        intro zf hz
        unfold wY_always_33
        refine lh_y_build hs z S (fun B hd X => br_f (by decide) ?_) (fun B hd => br_t rfl (nm_r (nI_1 i) (next (fun _ => B) _ hd us)))
        by_cases c : zf = wt
        · exact br_t (by rw [c]) (nm_r (nI_1 i) (next (fun y => absurd (by rw [hz, c]) y) _ hd us))
        · refine br_f (fun y => c ?_) (H0 (fun y => y i z (fun v => c ?_) B) _ hd us)
          · cases zf <;> cases wt <;> first | rfl | exact absurd y (by decide)
          · rw [hz] at v
            cases zf <;> cases wt <;> simp at v <;> rfl
      exact lh_y_grp S z ha (lh_y_grp S z hb (pk_eq (lh_gf (lh_E i) a) (lh_gf (lh_E i) b) (fun q => fin true ⟨fun _ => rfl, fun _ => q⟩) (fun q => fin false ⟨fun y => absurd y q, fun y => absurd y (by decide)⟩)))
theorem lh_y_held20 {post : Int32 → SY → Prop} {s a : Nat} (hs : s < 2) (ha : a < 6) (S : lh_Sy C W nc np cs ns ps ms dv) (H1 : (∀ i, i < 203 → (fun l => lh_B C W nc np s l → lh_H W np s l (lh_gf l a) ≠ 0) (lh_E i)) → ∀ (nl : Int32) (hd us : Nat → Int32), post 1 (nl, cs, ns, ps, ms, dv, hd, us)) (H0 : (¬ ∀ i, i < 203 → (fun l => lh_B C W nc np s l → lh_H W np s l (lh_gf l a) ≠ 0) (lh_E i)) → ∀ (nl : Int32) (hd us : Nat → Int32), post 0 (nl, cs, ns, ps, ms, dv, hd, us)) :
    ∀ (n i : Nat) (nl : Int32) (hd us : Nat → Int32), 203 < n + i → i ≤ 203 → (∀ j, j < i → (fun l => lh_B C W nc np s l → lh_H W np s l (lh_gf l a) ≠ 0) (lh_E j)) → wY_held_20 post (nI s) (nI a) n (nI i) nl cs ns ps ms dv hd us := by
  intro n
  induction n with
  | zero => intro i nl hd us h1 h2; omega
  | succ n ih =>
    intro i nl hd us h1 h2 I
    rw [wY_held_20]
    refine pk_le 203 i (fun z => ?_) (fun z => ?_)
    · have e : i = 203 := by omega
      rw [e] at I; exact H1 I nl hd us
    · have w := lh_E_wf i z
      have next : (fun l => lh_B C W nc np s l → lh_H W np s l (lh_gf l a) ≠ 0) (lh_E i) → ∀ (nl : Int32) (hd us : Nat → Int32), wY_held_20 post (nI s) (nI a) n (nI (i + 1)) nl cs ns ps ms dv hd us := fun p nl hd us => ih (i + 1) nl hd us (by omega) (by omega) (lh_se (P := fun l => lh_B C W nc np s l → lh_H W np s l (lh_gf l a) ≠ 0) I p)
      have la := w.2.1 a
      have b := lh_H_le (W := W) (np := np) (s := s) w (lh_gf (lh_E i) a)
      refine lh_y_build hs z S (fun B hd X => br_f (by decide) (lh_y_grp S z ha ⟨pk_in (lh_gf (lh_E i) a) 7 (by omega), ?_⟩)) (fun B hd => br_t rfl (nm_r (nI_1 i) (next (fun y => absurd y B) _ hd us)))
      have e1 : hd (nI (lh_gf (lh_E i) a)).toNatClampNeg = lh_hv (lh_H W np s (lh_E i) (lh_gf (lh_E i) a)) := lh_rdH X (by omega) (by decide)
      rw [e1]
      by_cases c : lh_H W np s (lh_E i) (lh_gf (lh_E i) a) = 0
      · exact br_f (fun y => absurd c ((lh_hv_pos _ (by omega)).mp y)) (H0 (fun y => y i z B c) _ hd us)
      · exact br_t ((lh_hv_pos _ (by omega)).mpr c) (nm_r (nI_1 i) (next (fun _ => c) _ hd us))
theorem lh_y_reach29 {post : Int32 → SY → Prop} {s a b : Nat} (hs : s < 2) (ha : a < 6) (hb : b < 6) (S : lh_Sy C W nc np cs ns ps ms dv) (H1 : (∀ i, i < 203 → (fun l => lh_B C W nc np s l → ∃ q, lh_pth (lh_H W np s l) (lh_gf l b) (lh_gf l a) q) (lh_E i)) → ∀ (nl : Int32) (hd us : Nat → Int32), post 1 (nl, cs, ns, ps, ms, dv, hd, us)) (H0 : (¬ ∀ i, i < 203 → (fun l => lh_B C W nc np s l → ∃ q, lh_pth (lh_H W np s l) (lh_gf l b) (lh_gf l a) q) (lh_E i)) → ∀ (nl : Int32) (hd us : Nat → Int32), post 0 (nl, cs, ns, ps, ms, dv, hd, us)) :
    ∀ (n i : Nat) (nl : Int32) (hd us : Nat → Int32), 203 < n + i → i ≤ 203 → (∀ j, j < i → (fun l => lh_B C W nc np s l → ∃ q, lh_pth (lh_H W np s l) (lh_gf l b) (lh_gf l a) q) (lh_E j)) → wY_reaches_29 post (nI s) (nI a) (nI b) n (nI i) nl cs ns ps ms dv hd us := by
  intro n
  induction n with
  | zero => intro i nl hd us h1 h2; omega
  | succ n ih =>
    intro i nl hd us h1 h2 I
    rw [wY_reaches_29]
    refine pk_le 203 i (fun z => ?_) (fun z => ?_)
    · have e : i = 203 := by omega
      rw [e] at I; exact H1 I nl hd us
    · have w := lh_E_wf i z
      have next : (fun l => lh_B C W nc np s l → ∃ q, lh_pth (lh_H W np s l) (lh_gf l b) (lh_gf l a) q) (lh_E i) → ∀ (nl : Int32) (hd us : Nat → Int32), wY_reaches_29 post (nI s) (nI a) (nI b) n (nI (i + 1)) nl cs ns ps ms dv hd us := fun p nl hd us => ih (i + 1) nl hd us (by omega) (by omega) (lh_se (P := fun l => lh_B C W nc np s l → ∃ q, lh_pth (lh_H W np s l) (lh_gf l b) (lh_gf l a) q) I p)
      exact lh_y_build hs z S (fun B hd X => br_f (by decide) (lh_y_grp S z ha (lh_y_grp S z hb (lh_y_comes (w.2.1 a) (w.2.1 b) (w.2.1 5) (lh_H_nl B.2) ⟨fun x hx => lh_H_lt w hx, fun x => lh_H_le w x⟩ X (fun y => br_f (by decide) (nm_r (nI_1 i) (next (fun _ => y) _ hd us))) (fun y => br_t rfl (H0 (fun v => y (v i z B)) _ hd us)))))) (fun B hd => br_t rfl (nm_r (nI_1 i) (next (fun y => absurd y B) _ hd us)))
theorem lh_y_all2 {post : Int32 → SY → Prop} {b : Bool}  (S : lh_Sy C W nc np cs ns ps ms dv) (H1 : (∀ i, i < 203 → (fun l => lh_B C W nc np 0 l → lh_YF C W nc np (b = true) l) (lh_E i)) → ∀ (nl : Int32) (hd us : Nat → Int32), post 1 (nl, cs, ns, ps, ms, dv, hd, us)) (H0 : (¬ ∀ i, i < 203 → (fun l => lh_B C W nc np 0 l → lh_YF C W nc np (b = true) l) (lh_E i)) → ∀ (nl : Int32) (hd us : Nat → Int32), post 0 (nl, cs, ns, ps, ms, dv, hd, us)) :
    ∀ (n i : Nat) (nl : Int32) (hd us : Nat → Int32), 203 < n + i → i ≤ 203 → (∀ j, j < i → (fun l => lh_B C W nc np 0 l → lh_YF C W nc np (b = true) l) (lh_E j)) → wY_allFit_2 post (lh_bI (!b)) n (nI i) nl cs ns ps ms dv hd us := by
  intro n
  induction n with
  | zero => intro i nl hd us h1 h2; omega
  | succ n ih =>
    intro i nl hd us h1 h2 I
    rw [wY_allFit_2]
    refine pk_le 203 i (fun z => ?_) (fun z => ?_)
    · have e : i = 203 := by omega
      rw [e] at I; exact H1 I nl hd us
    · have w := lh_E_wf i z
      have next : (fun l => lh_B C W nc np 0 l → lh_YF C W nc np (b = true) l) (lh_E i) → ∀ (nl : Int32) (hd us : Nat → Int32), wY_allFit_2 post (lh_bI (!b)) n (nI (i + 1)) nl cs ns ps ms dv hd us := fun p nl hd us => ih (i + 1) nl hd us (by omega) (by omega) (lh_se (P := fun l => lh_B C W nc np 0 l → lh_YF C W nc np (b = true) l) I p)
      refine lh_y_build (s := 0) (by decide) z S (fun B hd X => br_f (by decide) ?_) (fun B hd => br_t rfl (nm_r (nI_1 i) (next (fun y => absurd y B) _ hd us)))
      refine lh_y_fits (b := b) z (Nat.lt_succ_of_lt (w.2.1 5)) (lh_H_nl B.2) ⟨fun x hx => Nat.lt_succ_of_lt (lh_H_lt w hx), fun x => Nat.le_succ_of_le (lh_H_le w x)⟩ X S (fun y us => ⟨np 0 + 1 + 1, lh_y_af28 z S B.2 y (fun v hd us => next (fun _ => v) _ hd us) (fun v hd us => H0 (fun u => v (u i z B)) _ hd us) (np 0 + 1) 0 hd us (by omega) (by omega) X (fun j hj => absurd hj (Nat.not_lt_zero j))⟩) (fun y us => ⟨0 + 1, lh_y_af0 (H0 (fun u => y (u i z B).1) _ hd us)⟩)
theorem lh_y_tog2 {post : Int32 → SY → Prop}   (S : lh_Sy C W nc np cs ns ps ms dv) (H1 : (∀ i, i < 203 → (fun l => ¬ lh_tg C W nc np l) (lh_E i)) → ∀ (nl : Int32) (hd us : Nat → Int32), post 0 (nl, cs, ns, ps, ms, dv, hd, us)) (H0 : (¬ ∀ i, i < 203 → (fun l => ¬ lh_tg C W nc np l) (lh_E i)) → ∀ (nl : Int32) (hd us : Nat → Int32), post 1 (nl, cs, ns, ps, ms, dv, hd, us)) :
    ∀ (n i : Nat) (nl : Int32) (hd us : Nat → Int32), 203 < n + i → i ≤ 203 → (∀ j, j < i → (fun l => ¬ lh_tg C W nc np l) (lh_E j)) → wY_together_2 post n (nI i) nl cs ns ps ms dv hd us := by
  intro n
  induction n with
  | zero => intro i nl hd us h1 h2; omega
  | succ n ih =>
    intro i nl hd us h1 h2 I
    rw [wY_together_2]
    refine pk_le 203 i (fun z => ?_) (fun z => ?_)
    · have e : i = 203 := by omega
      rw [e] at I; exact H1 I nl hd us
    · have w := lh_E_wf i z
      have next : (fun l => ¬ lh_tg C W nc np l) (lh_E i) → ∀ (nl : Int32) (hd us : Nat → Int32), wY_together_2 post n (nI (i + 1)) nl cs ns ps ms dv hd us := fun p nl hd us => ih (i + 1) nl hd us (by omega) (by omega) (lh_se (P := fun l => ¬ lh_tg C W nc np l) I p)
      have tg := lh_tg_iff (C := C) (W := W) (nc := nc) (np := np) w
      have s0 := lh_src_lt (h := lh_H W np 0 (lh_E i)) 7
      have s1 := lh_src_lt (h := lh_H W np 1 (lh_E i)) 7
      have no : ¬ lh_tg C W nc np (lh_E i) → ∀ (x2 z0 nl : Int32) (hd us : Nat → Int32), (x2 < 0 ∨ z0 < 0) → wY_together_44 post (wY_together_2 post n) (nI i) x2 z0 nl cs ns ps ms dv hd us := by
        intro p x2 z0 nl hd us h
        unfold wY_together_44
        by_cases c : x2 < 0
        · exact br_t c (nm_r (nI_1 i) (next p nl hd us))
        · exact br_f c (br_t (h.resolve_left c) (nm_r (nI_1 i) (next p nl hd us)))
      refine lh_y_build (s := 0) (by decide) z S (fun B hd X => br_f (by decide) ?_) (fun B hd => br_t rfl ?_)
      · refine lh_y_src (h := lh_H W np 0 (lh_E i)) (fun x => lh_H_le w x) X ?_
        unfold wY_together_26
        refine lh_y_build (s := 1) (by decide) z S (fun B' hd X' => br_f (by decide) ?_) (fun B' hd => br_t rfl (no (fun y => B' (tg.mp y).2.1) _ _ _ hd us (Or.inr (by decide))))
        refine lh_y_src (h := lh_H W np 1 (lh_E i)) (fun x => lh_H_le w x) X' ?_
        unfold wY_together_44
        refine br_f (nI_pos (by omega)) (br_f (nI_pos (by omega)) ?_)
        rw [nx_and]
        have le : lh_src (lh_H W np 0 (lh_E i)) 7 &&& lh_src (lh_H W np 1 (lh_E i)) 7 ≤ lh_src (lh_H W np 0 (lh_E i)) 7 := Nat.and_le_left
        exact pk_eq (lh_src (lh_H W np 0 (lh_E i)) 7 &&& lh_src (lh_H W np 1 (lh_E i)) 7) 0 (fun q => H0 (fun y => y i z (tg.mpr ⟨B, B', q⟩)) _ hd us) (fun q => nm_r (nI_1 i) (next (fun y => q (tg.mp y).2.2) _ hd us))
      · have p : ¬ lh_tg C W nc np (lh_E i) := fun y => B (tg.mp y).1
        unfold wY_together_26
        refine lh_y_build (s := 1) (by decide) z S (fun B' hd X' => br_f (by decide) ?_) (fun B' hd => br_t rfl (no p _ _ _ hd us (Or.inl (by decide))))
        exact lh_y_src (fun x => lh_H_le w x) X' (no p _ _ _ hd us (Or.inl (by decide)))
theorem lh_y_div14 {post : Int32 → SY → Prop} {s : Nat} (hs : s < 2) (S : lh_Sy C W nc np cs ns ps ms dv) (H : ∀ (nl : Int32) (hd us : Nat → Int32), post (nI (lh_ct lh_E (lh_Bb (lh_B C W nc np s)) 203)) (nl, cs, ns, ps, ms, dv, hd, us)) :
    ∀ (n i : Nat) (nl : Int32) (hd us : Nat → Int32), 203 < n + i → i ≤ 203 → wY_divisions_14 post (nI s) n (nI (lh_ct lh_E (lh_Bb (lh_B C W nc np s)) i)) (nI i) nl cs ns ps ms dv hd us := by
  intro n
  induction n with
  | zero => intro i nl hd us h1 h2; omega
  | succ n ih =>
    intro i nl hd us h1 h2
    rw [wY_divisions_14]
    refine pk_le 203 i (fun z => ?_) (fun z => ?_)
    · have e : i = 203 := by omega
      rw [e]; exact H nl hd us
    · refine lh_y_build hs z S (fun B hd X => br_f (by decide) (nm_r (nI_1 _) (nm_r (nI_1 i) ?_))) (fun B hd => br_t rfl (nm_r (nI_1 i) ?_))
      · have q := ih (i + 1) (nI (lh_gf (lh_E i) 5)) hd us (by omega) (by omega)
        rw [lh_ct_t B] at q
        exact q
      · have q := ih (i + 1) (nI (lh_gf (lh_E i) 5)) hd us (by omega) (by omega)
        rw [lh_ct_f B] at q
        exact q
theorem lh_y_least15 {post : Int32 → SY → Prop} {s : Nat} (hs : s < 2) (S : lh_Sy C W nc np cs ns ps ms dv) (H : ∀ o, lh_mn (lh_B C W nc np s) (lh_cc W np s) lh_E 203 o → ∀ (nl : Int32) (hd us : Nat → Int32), post (lh_oI o) (nl, cs, ns, ps, ms, dv, hd, us)) :
    ∀ (n i : Nat) (o : Option Nat) (nl : Int32) (hd us : Nat → Int32), 203 < n + i → i ≤ 203 → lh_mn (lh_B C W nc np s) (lh_cc W np s) lh_E i o → (∀ m, o = some m → m ≤ 6) → wY_least_15 post (nI s) n (lh_oJ o) (nI i) nl cs ns ps ms dv hd us := by
  intro n
  induction n with
  | zero => intro i o nl hd us h1 h2; omega
  | succ n ih =>
    intro i o nl hd us h1 h2 I b
    rw [wY_least_15]
    refine pk_le 203 i (fun z => ?_) (fun z => ?_)
    · have e : i = 203 := by omega
      rw [e] at I
      cases o with
      | none => exact br_t rfl (H none I nl hd us)
      | some m =>
        have bm := b m rfl
        exact br_f (lh_oJ_n m (by omega)) (H (some m) I nl hd us)
    · have w := lh_E_wf i z
      have c6 : lh_cc W np s (lh_E i) ≤ 6 := lh_cc_le
      refine lh_y_build hs z S (fun B hd X => ?_) (fun B hd => lh_y_cells' (fun r => br_t rfl (nm_r (nI_1 i) (ih (i + 1) o _ hd us (by omega) (by omega) (lh_mn_no I B) b))))
      have nw : (∀ m, o = some m → lh_cc W np s (lh_E i) < m) → wY_least_15 post (nI s) n (nI (lh_cc W np s (lh_E i))) (nI (i + 1)) (nI (lh_gf (lh_E i) 5)) cs ns ps ms dv hd us := fun lt => ih (i + 1) (some (lh_cc W np s (lh_E i))) _ hd us (by omega) (by omega) (lh_mn_new I B lt) (fun m e => by cases e; exact c6)
      refine lh_y_cells (h := lh_H W np s (lh_E i)) (fun x => lh_H_le w x) (lh_H_6 w) X (br_f (by decide) ?_)
      cases o with
      | none => exact br_f (lh_oJ_l _ (Nat.lt_of_le_of_lt c6 (by decide))) (nm_r (nI_1 i) (nw (fun m e => nomatch e)))
      | some m =>
        have bm := b m rfl
        exact pk_le m (lh_cc W np s (lh_E i)) (fun q => nm_r (nI_1 i) (ih (i + 1) (some m) _ hd us (by omega) (by omega) (lh_mn_old I q) b)) (fun q => nm_r (nI_1 i) (nw (fun m' e => by cases e; exact q)))
theorem lh_y_most15 {post : Int32 → SY → Prop} {s : Nat} (hs : s < 2) (S : lh_Sy C W nc np cs ns ps ms dv) (H : (∀ i, i < 203 → (fun l => lh_B C W nc np s l → ¬ lh_any6 (lh_Q W np s l)) (lh_E i)) → ∀ o, lh_mx (lh_B C W nc np s) (lh_cc W np s) lh_E 203 o → ∀ (nl : Int32) (hd us : Nat → Int32), post (lh_oI o) (nl, cs, ns, ps, ms, dv, hd, us)) (H0 : (¬ ∀ i, i < 203 → (fun l => lh_B C W nc np s l → ¬ lh_any6 (lh_Q W np s l)) (lh_E i)) → ∀ (nl : Int32) (hd us : Nat → Int32), post (-3) (nl, cs, ns, ps, ms, dv, hd, us)) :
    ∀ (n i : Nat) (o : Option Nat) (nl : Int32) (hd us : Nat → Int32), 203 < n + i → i ≤ 203 → (∀ j, j < i → (fun l => lh_B C W nc np s l → ¬ lh_any6 (lh_Q W np s l)) (lh_E j)) → lh_mx (lh_B C W nc np s) (lh_cc W np s) lh_E i o → (∀ m, o = some m → m ≤ 6) → wY_most_15 post (nI s) n (lh_oI o) (nI i) nl cs ns ps ms dv hd us := by
  intro n
  induction n with
  | zero => intro i o nl hd us h1 h2; omega
  | succ n ih =>
    intro i o nl hd us h1 h2 N I b
    rw [wY_most_15]
    refine pk_le 203 i (fun z => ?_) (fun z => ?_)
    · have e : i = 203 := by omega
      rw [e] at I N; exact H N o I nl hd us
    · have w := lh_E_wf i z
      have c6 : lh_cc W np s (lh_E i) ≤ 6 := lh_cc_le
      have next : (lh_B C W nc np s (lh_E i) → ¬ lh_any6 (lh_Q W np s (lh_E i))) → ∀ o', lh_mx (lh_B C W nc np s) (lh_cc W np s) lh_E (i + 1) o' → (∀ m, o' = some m → m ≤ 6) → ∀ (nl : Int32) (hd us : Nat → Int32), wY_most_15 post (nI s) n (lh_oI o') (nI (i + 1)) nl cs ns ps ms dv hd us := fun p o' I' b' nl hd us => ih (i + 1) o' nl hd us (by omega) (by omega) (lh_se (P := fun l => lh_B C W nc np s l → ¬ lh_any6 (lh_Q W np s l)) N p) I' b'
      refine lh_y_build hs z S (fun B hd X => br_f (by decide) ?_) (fun B hd => br_t rfl (nm_r (nI_1 i) (next (fun y => absurd y B) o (lh_mx_no I B) b _ hd us)))
      refine lh_y_hl hs z S B.2 (fun a => br_f (by decide) (H0 (fun y => y i z B a) _ hd us)) (fun a => br_t rfl ?_)
      have nw : (∀ m, o = some m → m < lh_cc W np s (lh_E i)) → wY_most_15 post (nI s) n (nI (lh_cc W np s (lh_E i))) (nI (i + 1)) (nI (lh_gf (lh_E i) 5)) cs ns ps ms dv hd us := fun lt => next (fun _ => a) (some (lh_cc W np s (lh_E i))) (lh_mx_new I B lt) (fun m e => by cases e; exact c6) _ hd us
      refine lh_y_cells (h := lh_H W np s (lh_E i)) (fun x => lh_H_le w x) (lh_H_6 w) X ?_
      cases o with
      | none => exact br_f (lh_oI_l _ (Nat.lt_of_le_of_lt c6 (by decide))) (nm_r (nI_1 i) (nw (fun m e => nomatch e)))
      | some m =>
        have bm := b m rfl
        exact pk_le (lh_cc W np s (lh_E i)) m (fun q => nm_r (nI_1 i) (next (fun _ => a) (some m) (lh_mx_old I q) b _ hd us)) (fun q => nm_r (nI_1 i) (nw (fun m' e => by cases e; exact q)))
end
