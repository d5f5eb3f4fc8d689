/-! THE COMPONENT: the loops over the divisions -/
def lh_oI : Option Nat → Int32
  | none => -3
  | some m => nI m
theorem lh_oI_n : ∀ m, m < 8 → ¬ nI m = -3 := by decide +kernel
theorem lh_oI_l : ∀ m, m < 8 → ¬ nI m ≤ -3 := by decide +kernel
def lh_cc (W np : Nat → Nat) (s : Nat) (l : List Nat) : Nat := lh_cl (lh_H W np s l) 6
theorem lh_cc_le {W np : Nat → Nat} {s : Nat} {l : List Nat} : lh_cc W np s l ≤ 6 := lh_cl_le 6
def lh_tg (C W nc np : Nat → Nat) (l : List Nat) : Prop := lh_ch C nc 1 l ∧ lh_B C W nc np 0 l ∧ lh_oks (lh_H W np 0 l) (lh_gf l 5) (lh_pa W 1 l) (lh_pt W 1 l) (lh_pk W 1) (np 1)
theorem lh_ss {i : Nat} {P : List Nat → Prop} (I : ∀ j, j < i → P (lh_D j)) (p : P (lh_D i)) : ∀ j, j < i + 1 → P (lh_D j) := by
  intro j hj
  rcases lh_lt_s hj with y | y
  · exact I j y
  · rw [y]; exact p
section
variable {fc : Int32} {cc ck cl cr pc pk pf pt g nx en pn pe fr tk : Nat → Int32} {C W nc np : Nat → Nat} {l : List Nat}
theorem lh_x_div17 {post : Int32 → SX → Prop} {s : Nat} (hs : s < 2) (S : lh_St C W nc np cc ck cl cr pc pk pf pt) (H : ∀ (fc : Int32) (g nx en pn pe fr tk : Nat → Int32), post (nI (lh_ct lh_D (lh_Bb (lh_B C W nc np s)) 203)) (fc, cc, ck, cl, cr, pc, pk, pf, pt, g, nx, en, pn, pe, fr, tk)) :
    ∀ (n i : Nat) (fc : Int32) (g nx en pn pe fr tk : Nat → Int32), 203 < n + i → i ≤ 203 → lh_A 6 g (lh_gf (lh_D i)) → wX_divisions_17 post (nI s) n (nI (lh_ct lh_D (lh_Bb (lh_B C W nc np s)) i)) (nI i) fc cc ck cl cr pc pk pf pt g nx en pn pe fr tk := by
  intro n
  induction n with
  | zero => intro i fc g nx en pn pe fr tk h1 h2; omega
  | succ n ih =>
    intro i fc g nx en pn pe fr tk h1 h2 hg
    rw [wX_divisions_17]
    refine pk_le 203 i (fun z => ?_) (fun z => ?_)
    · have e : i = 203 := by omega
      rw [e]; exact H fc g nx en pn pe fr tk
    · have w := lh_D_wf z
      refine lh_x_build hs S hg w.2.1 (fun B nx en X E => br_f (by decide) (nm_r (nI_1 _) ?_)) (fun B nx en => br_t rfl ?_)
      · refine lh_x_next (lh_D_len i) w.2.1 hg (fun g hg' => nm_r (nI_1 i) ?_)
        have q := ih (i + 1) fc g nx en pn pe fr tk (by omega) (by omega) hg'
        rw [lh_ct_t B] at q
        exact q
      · refine lh_x_next (lh_D_len i) w.2.1 hg (fun g hg' => nm_r (nI_1 i) ?_)
        have q := ih (i + 1) fc g nx en pn pe fr tk (by omega) (by omega) hg'
        rw [lh_ct_f B] at q
        exact q
theorem lh_x_div {post : Int32 → SX → Prop} {x : Int32} (S : lh_St C W nc np cc ck cl cr pc pk pf pt) (H1 : ∀ s, s < 2 → x = nI s → ∀ (fc : Int32) (g nx en pn pe fr tk : Nat → Int32), post (nI (lh_ct lh_D (lh_Bb (lh_B C W nc np s)) 203)) (fc, cc, ck, cl, cr, pc, pk, pf, pt, g, nx, en, pn, pe, fr, tk)) (H0 : (¬ ∃ s, s < 2 ∧ x = nI s) → post (-1) (fc, cc, ck, cl, cr, pc, pk, pf, pt, g, nx, en, pn, pe, fr, tk)) : wpX_divisions post (fc, cc, ck, cl, cr, pc, pk, pf, pt, g, nx, en, pn, pe, fr, tk) x := by
  refine lh_x_claim (post := fun r_1 => (r_1 = 0 → post (-1) (fc, cc, ck, cl, cr, pc, pk, pf, pt, g, nx, en, pn, pe, fr, tk)) ∧ (¬ r_1 = 0 → wpX_firstDivision (fun u => match u with | (f1, c1, c2, c3, c4, c5, c6, c7, c8, c9, d1, d2, d3, d4, d5, d6) => ∃ n17 : Nat, wX_divisions_17 post x n17 0 0 f1 c1 c2 c3 c4 c5 c6 c7 c8 c9 d1 d2 d3 d4 d5 d6) (fc, cc, ck, cl, cr, pc, pk, pf, pt, g, nx, en, pn, pe, fr, tk))) (fun s hs e => br_f (by decide) ?_) (fun h => br_t rfl (H0 h))
  subst e
  exact lh_x_first (fun g hg => ⟨204, lh_x_div17 hs S (H1 s hs rfl) 204 0 fc g nx en pn pe fr tk (by omega) (by omega) hg⟩)
theorem lh_x_as30 {post : Int32 → SX → Prop} {s a b : Nat} (hs : s < 2) (ha : a < 6) (hb : b < 6) (S : lh_St C W nc np cc ck cl cr pc pk pf pt) (H1 : (∀ i, i < 203 → (fun l => lh_gf l a ≠ lh_gf l b → ¬ lh_B C W nc np s l) (lh_D i)) → ∀ (fc : Int32) (g nx en pn pe fr tk : Nat → Int32), post 1 (fc, cc, ck, cl, cr, pc, pk, pf, pt, g, nx, en, pn, pe, fr, tk)) (H0 : (¬ ∀ i, i < 203 → (fun l => lh_gf l a ≠ lh_gf l b → ¬ lh_B C W nc np s l) (lh_D i)) → ∀ (fc : Int32) (g nx en pn pe fr tk : Nat → Int32), post 0 (fc, cc, ck, cl, cr, pc, pk, pf, pt, g, nx, en, pn, pe, fr, tk)) :
    ∀ (n i : Nat) (fc : Int32) (g nx en pn pe fr tk : Nat → Int32), 203 < n + i → i ≤ 203 → lh_A 6 g (lh_gf (lh_D i)) → (∀ j, j < i → (fun l => lh_gf l a ≠ lh_gf l b → ¬ lh_B C W nc np s l) (lh_D j)) → wX_alwaysSame_30 post (nI s) (nI a) (nI b) n (nI i) fc cc ck cl cr pc pk pf pt g nx en pn pe fr tk := by
  intro n
  induction n with
  | zero => intro i fc g nx en pn pe fr tk h1 h2; omega
  | succ n ih =>
    intro i fc g nx en pn pe fr tk h1 h2 hg I
    rw [wX_alwaysSame_30]
    refine pk_le 203 i (fun z => ?_) (fun z => ?_)
    · have e : i = 203 := by omega
      rw [e] at I; exact H1 I fc g nx en pn pe fr tk
    · have w := lh_D_wf z
      have next : (fun l => lh_gf l a ≠ lh_gf l b → ¬ lh_B C W nc np s l) (lh_D i) → ∀ (fc : Int32) (g nx en pn pe fr tk : Nat → Int32), lh_A 6 g (lh_gf (lh_D i)) → wX_alwaysSame_63 post (wX_alwaysSame_30 post (nI s) (nI a) (nI b) n) (nI s) (nI a) (nI b) (nI i) fc cc ck cl cr pc pk pf pt g nx en pn pe fr tk := fun p fc g nx en pn pe fr tk hg => lh_x_next (lh_D_len i) w.2.1 hg (fun g hg' => nm_r (nI_1 i) (ih (i + 1) fc g nx en pn pe fr tk (by omega) (by omega) hg' (lh_ss (P := fun l => lh_gf l a ≠ lh_gf l b → ¬ lh_B C W nc np s l) I p)))
      have eA : g (nI a).toNatClampNeg = nI (lh_gf (lh_D i) a) := lh_rdA hg ha (by decide)
      have eB : g (nI b).toNatClampNeg = nI (lh_gf (lh_D i) b) := lh_rdA hg hb (by decide)
      have la := w.2.1 a
      have lb := w.2.1 b
      refine ⟨pk_in a 6 ha, pk_in b 6 hb, ?_⟩
      rw [eA, eB]
      refine pk_eq (lh_gf (lh_D i) a) (lh_gf (lh_D i) b) (fun q => next (fun y => absurd q y) fc g nx en pn pe fr tk hg) (fun q => ?_)
      exact lh_x_build hs S hg w.2.1 (fun B nx en X E => br_f (by decide) (H0 (fun y => y i z q B) fc g nx en pn pe fr tk)) (fun B nx en => br_t rfl (next (fun _ => B) fc g nx en pn pe fr tk hg))
theorem lh_x_ns30 {post : Int32 → SX → Prop} {s a b : Nat} (hs : s < 2) (ha : a < 6) (hb : b < 6) (S : lh_St C W nc np cc ck cl cr pc pk pf pt) (H1 : (∀ i, i < 203 → (fun l => lh_gf l a = lh_gf l b → ¬ lh_B C W nc np s l) (lh_D i)) → ∀ (fc : Int32) (g nx en pn pe fr tk : Nat → Int32), post 1 (fc, cc, ck, cl, cr, pc, pk, pf, pt, g, nx, en, pn, pe, fr, tk)) (H0 : (¬ ∀ i, i < 203 → (fun l => lh_gf l a = lh_gf l b → ¬ lh_B C W nc np s l) (lh_D i)) → ∀ (fc : Int32) (g nx en pn pe fr tk : Nat → Int32), post 0 (fc, cc, ck, cl, cr, pc, pk, pf, pt, g, nx, en, pn, pe, fr, tk)) :
    ∀ (n i : Nat) (fc : Int32) (g nx en pn pe fr tk : Nat → Int32), 203 < n + i → i ≤ 203 → lh_A 6 g (lh_gf (lh_D i)) → (∀ j, j < i → (fun l => lh_gf l a = lh_gf l b → ¬ lh_B C W nc np s l) (lh_D j)) → wX_neverSame_30 post (nI s) (nI a) (nI b) n (nI i) fc cc ck cl cr pc pk pf pt g nx en pn pe fr tk := by
  intro n
  induction n with
  | zero => intro i fc g nx en pn pe fr tk h1 h2; omega
  | succ n ih =>
    intro i fc g nx en pn pe fr tk h1 h2 hg I
    rw [wX_neverSame_30]
    refine pk_le 203 i (fun z => ?_) (fun z => ?_)
    · have e : i = 203 := by omega
      rw [e] at I; exact H1 I fc g nx en pn pe fr tk
    · have w := lh_D_wf z
      have next : (fun l => lh_gf l a = lh_gf l b → ¬ lh_B C W nc np s l) (lh_D i) → ∀ (fc : Int32) (g nx en pn pe fr tk : Nat → Int32), lh_A 6 g (lh_gf (lh_D i)) → wX_neverSame_63 post (wX_neverSame_30 post (nI s) (nI a) (nI b) n) (nI s) (nI a) (nI b) (nI i) fc cc ck cl cr pc pk pf pt g nx en pn pe fr tk := fun p fc g nx en pn pe fr tk hg => lh_x_next (lh_D_len i) w.2.1 hg (fun g hg' => nm_r (nI_1 i) (ih (i + 1) fc g nx en pn pe fr tk (by omega) (by omega) hg' (lh_ss (P := fun l => lh_gf l a = lh_gf l b → ¬ lh_B C W nc np s l) I p)))
      have eA : g (nI a).toNatClampNeg = nI (lh_gf (lh_D i) a) := lh_rdA hg ha (by decide)
      have eB : g (nI b).toNatClampNeg = nI (lh_gf (lh_D i) b) := lh_rdA hg hb (by decide)
      have la := w.2.1 a
      have lb := w.2.1 b
      refine ⟨pk_in a 6 ha, pk_in b 6 hb, ?_⟩
      rw [eA, eB]
      refine pk_eq (lh_gf (lh_D i) a) (lh_gf (lh_D i) b) (fun q => ?_) (fun q => next (fun y => absurd y q) fc g nx en pn pe fr tk hg)
      exact lh_x_build hs S hg w.2.1 (fun B nx en X E => br_f (by decide) (H0 (fun y => y i z q B) fc g nx en pn pe fr tk)) (fun B nx en => br_t rfl (next (fun _ => B) fc g nx en pn pe fr tk hg))
theorem lh_x_held22 {post : Int32 → SX → Prop} {s a : Nat} (hs : s < 2) (ha : a < 6) (S : lh_St C W nc np cc ck cl cr pc pk pf pt) (H1 : (∀ i, i < 203 → (fun l => lh_B C W nc np s l → lh_H W np s l (lh_gf l a) ≠ 0) (lh_D i)) → ∀ (fc : Int32) (g nx en pn pe fr tk : Nat → Int32), post 1 (fc, cc, ck, cl, cr, pc, pk, pf, pt, g, nx, en, pn, pe, fr, tk)) (H0 : (¬ ∀ i, i < 203 → (fun l => lh_B C W nc np s l → lh_H W np s l (lh_gf l a) ≠ 0) (lh_D i)) → ∀ (fc : Int32) (g nx en pn pe fr tk : Nat → Int32), post 0 (fc, cc, ck, cl, cr, pc, pk, pf, pt, g, nx, en, pn, pe, fr, tk)) :
    ∀ (n i : Nat) (fc : Int32) (g nx en pn pe fr tk : Nat → Int32), 203 < n + i → i ≤ 203 → lh_A 6 g (lh_gf (lh_D i)) → (∀ j, j < i → (fun l => lh_B C W nc np s l → lh_H W np s l (lh_gf l a) ≠ 0) (lh_D j)) → wX_held_22 post (nI s) (nI a) n (nI i) fc cc ck cl cr pc pk pf pt g nx en pn pe fr tk := by
  intro n
  induction n with
  | zero => intro i fc g nx en pn pe fr tk h1 h2; omega
  | succ n ih =>
    intro i fc g nx en pn pe fr tk h1 h2 hg I
    rw [wX_held_22]
    refine pk_le 203 i (fun z => ?_) (fun z => ?_)
    · have e : i = 203 := by omega
      rw [e] at I; exact H1 I fc g nx en pn pe fr tk
    · have w := lh_D_wf z
      have next : (fun l => lh_B C W nc np s l → lh_H W np s l (lh_gf l a) ≠ 0) (lh_D i) → ∀ (fc : Int32) (g nx en pn pe fr tk : Nat → Int32), lh_A 6 g (lh_gf (lh_D i)) → wX_held_54 post (wX_held_22 post (nI s) (nI a) n) (nI s) (nI a) (nI i) fc cc ck cl cr pc pk pf pt g nx en pn pe fr tk := fun p fc g nx en pn pe fr tk hg => lh_x_next (lh_D_len i) w.2.1 hg (fun g hg' => nm_r (nI_1 i) (ih (i + 1) fc g nx en pn pe fr tk (by omega) (by omega) hg' (lh_ss (P := fun l => lh_B C W nc np s l → lh_H W np s l (lh_gf l a) ≠ 0) I p)))
      have eA : g (nI a).toNatClampNeg = nI (lh_gf (lh_D i) a) := lh_rdA hg ha (by decide)
      have la := w.2.1 a
      refine lh_x_build hs S hg w.2.1 (fun B nx en X E => br_f (by decide) ⟨pk_in a 6 ha, ?_⟩) (fun B nx en => br_t rfl (next (fun y => absurd y B) fc g nx en pn pe fr tk hg))
      have e1 : nx (nI (lh_gf (lh_D i) a)).toNatClampNeg = lh_hv (lh_H W np s (lh_D i) (lh_gf (lh_D i) a)) := lh_rdH X la (by decide)
      have b := lh_H_le (W := W) (np := np) (s := s) w (lh_gf (lh_D i) a)
      rw [eA, e1]
      refine ⟨pk_in _ 6 la, ?_⟩
      by_cases c : lh_H W np s (lh_D i) (lh_gf (lh_D i) a) = 0
      · exact br_t ((lh_hv_m1 _ (by omega)).mpr c) (H0 (fun y => y i z B c) fc g nx en pn pe fr tk)
      · exact br_f (fun y => c ((lh_hv_m1 _ (by omega)).mp y)) (next (fun _ => c) fc g nx en pn pe fr tk hg)
theorem lh_x_reach30 {post : Int32 → SX → Prop} {s a b : Nat} (hs : s < 2) (ha : a < 6) (hb : b < 6) (S : lh_St C W nc np cc ck cl cr pc pk pf pt) (H1 : (∀ i, i < 203 → (fun l => lh_B C W nc np s l → ∃ q, lh_pth (lh_H W np s l) (lh_gf l b) (lh_gf l a) q) (lh_D i)) → ∀ (fc : Int32) (g nx en pn pe fr tk : Nat → Int32), post 1 (fc, cc, ck, cl, cr, pc, pk, pf, pt, g, nx, en, pn, pe, fr, tk)) (H0 : (¬ ∀ i, i < 203 → (fun l => lh_B C W nc np s l → ∃ q, lh_pth (lh_H W np s l) (lh_gf l b) (lh_gf l a) q) (lh_D i)) → ∀ (fc : Int32) (g nx en pn pe fr tk : Nat → Int32), post 0 (fc, cc, ck, cl, cr, pc, pk, pf, pt, g, nx, en, pn, pe, fr, tk)) :
    ∀ (n i : Nat) (fc : Int32) (g nx en pn pe fr tk : Nat → Int32), 203 < n + i → i ≤ 203 → lh_A 6 g (lh_gf (lh_D i)) → (∀ j, j < i → (fun l => lh_B C W nc np s l → ∃ q, lh_pth (lh_H W np s l) (lh_gf l b) (lh_gf l a) q) (lh_D j)) → wX_reaches_30 post (nI s) (nI a) (nI b) n (nI i) fc cc ck cl cr pc pk pf pt g nx en pn pe fr tk := by
  intro n
  induction n with
  | zero => intro i fc g nx en pn pe fr tk h1 h2; omega
  | succ n ih =>
    intro i fc g nx en pn pe fr tk h1 h2 hg I
    rw [wX_reaches_30]
    refine pk_le 203 i (fun z => ?_) (fun z => ?_)
    · have e : i = 203 := by omega
      rw [e] at I; exact H1 I fc g nx en pn pe fr tk
    · have w := lh_D_wf z
      have next : (fun l => lh_B C W nc np s l → ∃ q, lh_pth (lh_H W np s l) (lh_gf l b) (lh_gf l a) q) (lh_D i) → ∀ (fc : Int32) (g nx en pn pe fr tk : Nat → Int32), lh_A 6 g (lh_gf (lh_D i)) → wX_reaches_67 post (wX_reaches_30 post (nI s) (nI a) (nI b) n) (nI s) (nI a) (nI b) (nI i) fc cc ck cl cr pc pk pf pt g nx en pn pe fr tk := fun p fc g nx en pn pe fr tk hg => lh_x_next (lh_D_len i) w.2.1 hg (fun g hg' => nm_r (nI_1 i) (ih (i + 1) fc g nx en pn pe fr tk (by omega) (by omega) hg' (lh_ss (P := fun l => lh_B C W nc np s l → ∃ q, lh_pth (lh_H W np s l) (lh_gf l b) (lh_gf l a) q) I p)))
      have eA : g (nI a).toNatClampNeg = nI (lh_gf (lh_D i) a) := lh_rdA hg ha (by decide)
      have eB : g (nI b).toNatClampNeg = nI (lh_gf (lh_D i) b) := lh_rdA hg hb (by decide)
      have la := w.2.1 a
      have lb := w.2.1 b
      refine lh_x_build hs S hg w.2.1 (fun B nx en X E => br_f (by decide) ⟨pk_in a 6 ha, pk_in b 6 hb, ?_⟩) (fun B nx en => br_t rfl (next (fun y => absurd y B) fc g nx en pn pe fr tk hg))
      rw [eA, eB]
      exact lh_x_leads la lb ⟨fun x hx => lh_H_lt w hx, fun x => lh_H_le w x⟩ X (fun y => br_f (by decide) (next (fun _ => y) fc g nx en pn pe fr tk hg)) (fun y => br_t rfl (H0 (fun v => y (v i z B)) fc g nx en pn pe fr tk))
theorem lh_x_model6 {post : Int32 → SX → Prop} {b : Bool}  (S : lh_St C W nc np cc ck cl cr pc pk pf pt) (H1 : (∀ i, i < 203 → (fun l => lh_B C W nc np 0 l → lh_YF C W nc np (b = true) l) (lh_D i)) → ∀ (fc : Int32) (g nx en pn pe fr tk : Nat → Int32), post 1 (fc, cc, ck, cl, cr, pc, pk, pf, pt, g, nx, en, pn, pe, fr, tk)) (H0 : (¬ ∀ i, i < 203 → (fun l => lh_B C W nc np 0 l → lh_YF C W nc np (b = true) l) (lh_D i)) → ∀ (fc : Int32) (g nx en pn pe fr tk : Nat → Int32), post 0 (fc, cc, ck, cl, cr, pc, pk, pf, pt, g, nx, en, pn, pe, fr, tk)) :
    ∀ (n i : Nat) (fc : Int32) (g nx en pn pe fr tk : Nat → Int32), 203 < n + i → i ≤ 203 → lh_A 6 g (lh_gf (lh_D i)) → (∀ j, j < i → (fun l => lh_B C W nc np 0 l → lh_YF C W nc np (b = true) l) (lh_D j)) → wX_everyModelFits_6 post (lh_bI b) n (nI i) fc cc ck cl cr pc pk pf pt g nx en pn pe fr tk := by
  intro n
  induction n with
  | zero => intro i fc g nx en pn pe fr tk h1 h2; omega
  | succ n ih =>
    intro i fc g nx en pn pe fr tk h1 h2 hg I
    rw [wX_everyModelFits_6]
    refine pk_le 203 i (fun z => ?_) (fun z => ?_)
    · have e : i = 203 := by omega
      rw [e] at I; exact H1 I fc g nx en pn pe fr tk
    · have w := lh_D_wf z
      have next : (fun l => lh_B C W nc np 0 l → lh_YF C W nc np (b = true) l) (lh_D i) → ∀ (fc : Int32) (g nx en pn pe fr tk : Nat → Int32), lh_A 6 g (lh_gf (lh_D i)) → wX_everyModelFits_31 post (wX_everyModelFits_6 post (lh_bI b) n) (lh_bI b) (nI i) fc cc ck cl cr pc pk pf pt g nx en pn pe fr tk := fun p fc g nx en pn pe fr tk hg => lh_x_next (lh_D_len i) w.2.1 hg (fun g hg' => nm_r (nI_1 i) (ih (i + 1) fc g nx en pn pe fr tk (by omega) (by omega) hg' (lh_ss (P := fun l => lh_B C W nc np 0 l → lh_YF C W nc np (b = true) l) I p)))
      refine lh_x_build (s := 0) (by decide) S hg w.2.1 (fun B nx en X E => br_f (by decide) ?_) (fun B nx en => br_t rfl (next (fun y => absurd y B) fc g nx en pn pe fr tk hg))
      exact lh_x_every w B.2 S hg X E (fun y fc nx en pn pe fr tk => br_f (by decide) (next (fun _ => y) fc g nx en pn pe fr tk hg)) (fun y fc nx en pn pe fr tk => br_t rfl (H0 (fun v => y (v i z B)) fc g nx en pn pe fr tk))
theorem lh_x_tog6 {post : Int32 → SX → Prop}   (S : lh_St C W nc np cc ck cl cr pc pk pf pt) (H1 : (∀ i, i < 203 → (fun l => ¬ lh_tg C W nc np l) (lh_D i)) → ∀ (fc : Int32) (g nx en pn pe fr tk : Nat → Int32), post 0 (fc, cc, ck, cl, cr, pc, pk, pf, pt, g, nx, en, pn, pe, fr, tk)) (H0 : (¬ ∀ i, i < 203 → (fun l => ¬ lh_tg C W nc np l) (lh_D i)) → ∀ (fc : Int32) (g nx en pn pe fr tk : Nat → Int32), post 1 (fc, cc, ck, cl, cr, pc, pk, pf, pt, g, nx, en, pn, pe, fr, tk)) :
    ∀ (n i : Nat) (fc : Int32) (g nx en pn pe fr tk : Nat → Int32), 203 < n + i → i ≤ 203 → lh_A 6 g (lh_gf (lh_D i)) → (∀ j, j < i → (fun l => ¬ lh_tg C W nc np l) (lh_D j)) → wX_together_6 post n (nI i) fc cc ck cl cr pc pk pf pt g nx en pn pe fr tk := by
  intro n
  induction n with
  | zero => intro i fc g nx en pn pe fr tk h1 h2; omega
  | succ n ih =>
    intro i fc g nx en pn pe fr tk h1 h2 hg I
    rw [wX_together_6]
    refine pk_le 203 i (fun z => ?_) (fun z => ?_)
    · have e : i = 203 := by omega
      rw [e] at I; exact H1 I fc g nx en pn pe fr tk
    · have w := lh_D_wf z
      have next : (fun l => ¬ lh_tg C W nc np l) (lh_D i) → ∀ (fc : Int32) (g nx en pn pe fr tk : Nat → Int32), lh_A 6 g (lh_gf (lh_D i)) → wX_together_39 post (wX_together_6 post n) (nI i) fc cc ck cl cr pc pk pf pt g nx en pn pe fr tk := fun p fc g nx en pn pe fr tk hg => lh_x_next (lh_D_len i) w.2.1 hg (fun g hg' => nm_r (nI_1 i) (ih (i + 1) fc g nx en pn pe fr tk (by omega) (by omega) hg' (lh_ss (P := fun l => ¬ lh_tg C W nc np l) I p)))
      refine lh_x_ch (s := 1) (by decide) S hg w.2.1 (fun c => br_f (by decide) ?_) (fun c => br_t rfl (next (fun y => c y.1) fc g nx en pn pe fr tk hg))
      refine lh_x_build (s := 0) (by decide) S hg w.2.1 (fun B nx en X E => br_f (by decide) ?_) (fun B nx en => br_t rfl (next (fun y => B y.2.1) fc g nx en pn pe fr tk hg))
      exact lh_x_add (s := 1) (by decide) S hg w.2.1 (fun x => lh_H_le w x) X E (fun o nx en _ _ => br_f (by decide) (H0 (fun v => v i z ⟨c, B, o⟩) fc g nx en pn pe fr tk)) (fun o nx en => br_t rfl (next (fun y => o y.2.2) fc g nx en pn pe fr tk hg))
theorem lh_x_least18 {post : Int32 → SX → Prop} {s : Nat} (hs : s < 2) (S : lh_St C W nc np cc ck cl cr pc pk pf pt) (H : ∀ o, lh_mn (lh_B C W nc np s) (lh_cc W np s) lh_D 203 o → ∀ (fc : Int32) (g nx en pn pe fr tk : Nat → Int32), post (lh_oI o) (fc, cc, ck, cl, cr, pc, pk, pf, pt, g, nx, en, pn, pe, fr, tk)) :
    ∀ (n i : Nat) (o : Option Nat) (fc : Int32) (g nx en pn pe fr tk : Nat → Int32), 203 < n + i → i ≤ 203 → lh_A 6 g (lh_gf (lh_D i)) → lh_mn (lh_B C W nc np s) (lh_cc W np s) lh_D i o → (∀ m, o = some m → m ≤ 6) → wX_least_18 post (nI s) n (lh_oI o) (nI i) fc cc ck cl cr pc pk pf pt g nx en pn pe fr tk := by
  intro n
  induction n with
  | zero => intro i o fc g nx en pn pe fr tk h1 h2; omega
  | succ n ih =>
    intro i o fc g nx en pn pe fr tk h1 h2 hg I b
    rw [wX_least_18]
    refine pk_le 203 i (fun z => ?_) (fun z => ?_)
    · have e : i = 203 := by omega
      rw [e] at I; exact H o I fc g nx en pn pe fr tk
    · have w := lh_D_wf z
      have c6 : lh_cc W np s (lh_D i) ≤ 6 := lh_cc_le
      have next : ∀ o', lh_mn (lh_B C W nc np s) (lh_cc W np s) lh_D (i + 1) o' → (∀ m, o' = some m → m ≤ 6) → ∀ (fc : Int32) (g nx en pn pe fr tk : Nat → Int32), lh_A 6 g (lh_gf (lh_D i)) → wX_least_54 post (wX_least_18 post (nI s) n) (nI s) (lh_oI o') (nI i) fc cc ck cl cr pc pk pf pt g nx en pn pe fr tk := fun o' I' b' fc g nx en pn pe fr tk hg => lh_x_next (lh_D_len i) w.2.1 hg (fun g hg' => nm_r (nI_1 i) (ih (i + 1) o' fc g nx en pn pe fr tk (by omega) (by omega) hg' I' b'))
      refine lh_x_build hs S hg w.2.1 (fun B nx en X E => br_f (by decide) ?_) (fun B nx en => br_t rfl (next o (lh_mn_no I B) b fc g nx en pn pe fr tk hg))
      have nw : (∀ m, o = some m → lh_cc W np s (lh_D i) < m) → wX_least_51 post (wX_least_18 post (nI s) n) (nI s) (nI i) (nI (lh_cc W np s (lh_D i))) fc cc ck cl cr pc pk pf pt g nx en pn pe fr tk := fun lt => next (some (lh_cc W np s (lh_D i))) (lh_mn_new I B lt) (fun m e => by cases e; exact c6) fc g nx en pn pe fr tk hg
      refine lh_x_cells (h := lh_H W np s (lh_D i)) (fun x => lh_H_le w x) X ?_
      cases o with
      | none => exact br_t rfl (nw (fun m e => nomatch e))
      | some m =>
        have bm := b m rfl
        exact br_f (lh_oI_n m (by omega)) (pk_le m (lh_cc W np s (lh_D i)) (fun q => next (some m) (lh_mn_old I q) b fc g nx en pn pe fr tk hg) (fun q => nw (fun m' e => by cases e; exact q)))
theorem lh_x_most18 {post : Int32 → SX → Prop} {s : Nat} (hs : s < 2) (S : lh_St C W nc np cc ck cl cr pc pk pf pt) (H : (∀ i, i < 203 → (fun l => lh_B C W nc np s l → ¬ lh_any6 (lh_Q W np s l)) (lh_D i)) → ∀ o, lh_mx (lh_B C W nc np s) (lh_cc W np s) lh_D 203 o → ∀ (fc : Int32) (g nx en pn pe fr tk : Nat → Int32), post (lh_oI o) (fc, cc, ck, cl, cr, pc, pk, pf, pt, g, nx, en, pn, pe, fr, tk)) (H0 : (¬ ∀ i, i < 203 → (fun l => lh_B C W nc np s l → ¬ lh_any6 (lh_Q W np s l)) (lh_D i)) → ∀ (fc : Int32) (g nx en pn pe fr tk : Nat → Int32), post (-3) (fc, cc, ck, cl, cr, pc, pk, pf, pt, g, nx, en, pn, pe, fr, tk)) :
    ∀ (n i : Nat) (o : Option Nat) (fc : Int32) (g nx en pn pe fr tk : Nat → Int32), 203 < n + i → i ≤ 203 → lh_A 6 g (lh_gf (lh_D i)) → (∀ j, j < i → (fun l => lh_B C W nc np s l → ¬ lh_any6 (lh_Q W np s l)) (lh_D j)) → lh_mx (lh_B C W nc np s) (lh_cc W np s) lh_D i o → (∀ m, o = some m → m ≤ 6) → wX_most_18 post (nI s) n (lh_oI o) (nI i) fc cc ck cl cr pc pk pf pt g nx en pn pe fr tk := by
  intro n
  induction n with
  | zero => intro i o fc g nx en pn pe fr tk h1 h2; omega
  | succ n ih =>
    intro i o fc g nx en pn pe fr tk h1 h2 hg N I b
    rw [wX_most_18]
    refine pk_le 203 i (fun z => ?_) (fun z => ?_)
    · have e : i = 203 := by omega
      rw [e] at I N; exact H N o I fc g nx en pn pe fr tk
    · have w := lh_D_wf z
      have c6 : lh_cc W np s (lh_D i) ≤ 6 := lh_cc_le
      have next : (lh_B C W nc np s (lh_D i) → ¬ lh_any6 (lh_Q W np s (lh_D i))) → ∀ o', lh_mx (lh_B C W nc np s) (lh_cc W np s) lh_D (i + 1) o' → (∀ m, o' = some m → m ≤ 6) → ∀ (fc : Int32) (g nx en pn pe fr tk : Nat → Int32), lh_A 6 g (lh_gf (lh_D i)) → wX_most_58 post (wX_most_18 post (nI s) n) (nI s) (lh_oI o') (nI i) fc cc ck cl cr pc pk pf pt g nx en pn pe fr tk := fun p o' I' b' fc g nx en pn pe fr tk hg => lh_x_next (lh_D_len i) w.2.1 hg (fun g hg' => nm_r (nI_1 i) (ih (i + 1) o' fc g nx en pn pe fr tk (by omega) (by omega) hg' (lh_ss (P := fun l => lh_B C W nc np s l → ¬ lh_any6 (lh_Q W np s l)) N p) I' b'))
      refine lh_x_build hs S hg w.2.1 (fun B nx en X E => br_f (by decide) ?_) (fun B nx en => br_t rfl (next (fun y => absurd y B) o (lh_mx_no I B) b fc g nx en pn pe fr tk hg))
      refine lh_x_hasl (fun x => lh_Q_le w x) E (fun a => br_f (by decide) (H0 (fun y => y i z B a) fc g nx en pn pe fr tk)) (fun a => br_t rfl ?_)
      have nw : (∀ m, o = some m → m < lh_cc W np s (lh_D i)) → wX_most_58 post (wX_most_18 post (nI s) n) (nI s) (nI (lh_cc W np s (lh_D i))) (nI i) fc cc ck cl cr pc pk pf pt g nx en pn pe fr tk := fun lt => next (fun _ => a) (some (lh_cc W np s (lh_D i))) (lh_mx_new I B lt) (fun m e => by cases e; exact c6) fc g nx en pn pe fr tk hg
      refine lh_x_cells (h := lh_H W np s (lh_D i)) (fun x => lh_H_le w x) X ?_
      cases o with
      | none => exact br_f (lh_oI_l _ (Nat.lt_of_le_of_lt c6 (by decide))) (nw (fun m e => nomatch e))
      | some m =>
        have bm := b m rfl
        exact pk_le (lh_cc W np s (lh_D i)) m (fun q => next (fun _ => a) (some m) (lh_mx_old I q) b fc g nx en pn pe fr tk hg) (fun q => nw (fun m' e => by cases e; exact q))
end
