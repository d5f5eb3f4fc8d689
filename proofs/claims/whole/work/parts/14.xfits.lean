/-! THE COMPONENT: does claim 1 fit -/
theorem lh_Ab_mk {N : Nat} {a : Nat → Int32} {t : Nat → Bool} {q : List Nat} {y : Nat} (h : lh_Ab N a (lh_mk t q)) : lh_Ab N (upd a y (lh_bI true)) (lh_mk t (q ++ [y])) := by
  rw [lh_mk_snoc]; exact lh_Ab_up h y true
section
variable {fc : Int32} {cc ck cl cr pc pk pf pt g nx en pn pe fr tk : Nat → Int32} {C W nc np : Nat → Nat} {l : List Nat}
theorem lh_x_tl5 {post : Int32 → SX → Prop} {h : Nat → Nat} {a t : Nat} {t0 : Nat → Bool} (ht : t < 6) (hb : lh_bd 6 h) (hx : lh_Ah 6 nx h)
    (H1 : ∀ (q : List Nat) (tk : Nat → Int32), lh_way h t a t0 q → lh_Ab 6 tk (lh_mk t0 q) → post 1 (fc, cc, ck, cl, cr, pc, pk, pf, pt, g, nx, en, pn, pe, fr, tk)) (H0 : (¬ ∃ q, lh_way h t a t0 q) → ∀ tk, post 0 (fc, cc, ck, cl, cr, pc, pk, pf, pt, g, nx, en, pn, pe, fr, tk)) :
    ∀ (n i y : Nat) (q : List Nat) (tk : Nat → Int32), 6 < n + i → i ≤ 6 → y < 6 → q.length = i → lh_beg h t y a t0 q → lh_Ab 6 tk (lh_mk t0 q) → wX_takeList_5 post (nI t) fc n (nI y) (nI i) cc ck cl cr pc pk pf pt g nx en pn pe fr tk := by
  intro n
  induction n with
  | zero => intro i y q tk h1 h2; omega
  | succ n ih =>
    intro i y q tk h1 h2 hy ql B M
    have e1 : nx (nI y).toNatClampNeg = lh_hv (h y) := lh_rdH hx hy (by decide)
    have e2 : tk (nI y).toNatClampNeg = lh_bI (lh_mk t0 q y) := lh_rdB M hy (by decide)
    have cy : (nI y).toNatClampNeg = y := nI_clamp (by omega)
    have b := hb.2 y
    have fin : (y = t ∨ 6 ≤ i) → wX_takeList_58 post (nI t) (nI y) fc cc ck cl cr pc pk pf pt g nx en pn pe fr tk := by
      intro z
      unfold wX_takeList_58
      refine pk_eq y t (fun w => H1 q tk ?_ M) (fun w => H0 ?_ tk)
      · rw [w] at B; exact lh_beg_end B
      · exact lh_beg_far B hb.1 (by omega) w
    rw [wX_takeList_5]
    refine pk_le 6 i (fun z => fin (Or.inr z)) (fun z => pk_eq y t (fun w => fin (Or.inl w)) (fun w => ⟨pk_in y 6 hy, ?_⟩))
    rw [e1, e2]
    cases d : lh_mk t0 q y with
    | true => exact br_f (by decide) (H0 (lh_beg_bad B w (Or.inr d)) tk)
    | false =>
      refine br_t rfl ⟨pk_in y 6 hy, ?_⟩
      by_cases c : h y = 0
      · exact br_t ((lh_hv_m1 _ (by omega)).mpr c) (H0 (lh_beg_bad B w (Or.inl c)) tk)
      · exact br_f (fun z => c ((lh_hv_m1 _ (by omega)).mp z)) ⟨pk_in y 6 hy, nm_r (e' := upd tk y (lh_bI true)) (by rw [cy, lh_nar1]) ⟨pk_in y 6 hy, nm_r (lh_hv_p c) (nm_r (nI_1 i) (ih (i + 1) (h y - 1) (q ++ [y]) _ (by omega) (by omega) (by omega) (by rw [List.length_append, ql]; rfl) (lh_beg_step B w c d) (lh_Ab_mk M)))⟩⟩
theorem lh_x_tl {post : Int32 → SX → Prop} {h : Nat → Nat} {a t : Nat} {t0 : Nat → Bool} (ha : a < 6) (ht : t < 6) (hb : lh_bd 6 h) (hx : lh_Ah 6 nx h) (hm : lh_Ab 6 tk t0)
    (H1 : ∀ (q : List Nat) (tk : Nat → Int32), lh_way h t a t0 q → lh_Ab 6 tk (lh_mk t0 q) → post 1 (fc, cc, ck, cl, cr, pc, pk, pf, pt, g, nx, en, pn, pe, fr, tk)) (H0 : (¬ ∃ q, lh_way h t a t0 q) → ∀ tk, post 0 (fc, cc, ck, cl, cr, pc, pk, pf, pt, g, nx, en, pn, pe, fr, tk)) : wpX_takeList post (fc, cc, ck, cl, cr, pc, pk, pf, pt, g, nx, en, pn, pe, fr, tk) (nI a) (nI t) :=
  Exists.intro 7 (lh_x_tl5 ht hb hx H1 H0 7 0 a [] tk (by omega) (by omega) ha rfl lh_beg0 (by rw [lh_mk_nil]; exact hm))
theorem lh_x_tc {post : Int32 → SX → Prop} {h e : Nat → Nat} {a t : Nat} {t0 : Nat → Bool} (ha : a < 6) (ht : t < 6) (hb : lh_bd 6 h) (he : ∀ x, e x ≤ 6) (hx : lh_Ah 6 nx h) (hn : lh_Ah 6 en e) (hm : lh_Ab 6 tk t0)
    (H1 : h a = t + 1 → e a = 0 → t0 a = false → ∀ (tk : Nat → Int32), lh_Ab 6 tk (lh_mk t0 [a]) → post 1 (fc, cc, ck, cl, cr, pc, pk, pf, pt, g, nx, en, pn, pe, fr, tk)) (H0 : ¬ (h a = t + 1 ∧ e a = 0 ∧ t0 a = false) → post 0 (fc, cc, ck, cl, cr, pc, pk, pf, pt, g, nx, en, pn, pe, fr, tk)) : wpX_takeCell post (fc, cc, ck, cl, cr, pc, pk, pf, pt, g, nx, en, pn, pe, fr, tk) (nI a) (nI t) := by
  have e1 : nx (nI a).toNatClampNeg = lh_hv (h a) := lh_rdH hx ha (by decide)
  have e2 : tk (nI a).toNatClampNeg = lh_bI (t0 a) := lh_rdB hm ha (by decide)
  have e3 : en (nI a).toNatClampNeg = lh_hv (e a) := lh_rdH hn ha (by decide)
  have ca : (nI a).toNatClampNeg = a := nI_clamp (by omega)
  have b := hb.2 a
  have b2 := he a
  refine And.intro (pk_in a 6 ha) ?_
  rw [e1, e2, e3]
  cases d : t0 a with
  | true => exact br_f (by decide) (H0 (fun z => absurd (d.symm.trans z.2.2) (by decide)))
  | false =>
    refine br_t rfl ⟨pk_in a 6 ha, ?_⟩
    by_cases c : h a = t + 1
    · refine br_t ((lh_hv_eq _ (by omega) _ (by omega)).mpr c) ⟨pk_in a 6 ha, ?_⟩
      by_cases k : e a = 0
      · refine br_t ((lh_hv_m1 _ (by omega)).mpr k) ⟨pk_in a 6 ha, nm_r (e' := upd tk a (lh_bI true)) (by rw [ca, lh_nar1]) (H1 c k d _ ?_)⟩
        have M : lh_Ab 6 tk (lh_mk t0 []) := by rw [lh_mk_nil]; exact hm
        exact lh_Ab_mk M
      · exact br_f (fun z => k ((lh_hv_m1 _ (by omega)).mp z)) (H0 (fun z => k z.2.1))
    · exact br_f (fun z => c ((lh_hv_eq _ (by omega) _ (by omega)).mp z)) (H0 (fun z => c z.1))
theorem lh_x_at2 {post : Int32 → Prop} {h : Nat → Nat} {t0 : Nat → Bool} (hb : ∀ x, h x ≤ 6) (hx : lh_Ah 6 nx h) (hm : lh_Ab 6 tk t0) (H1 : (∀ g, g < 6 → h g ≠ 0 → t0 g = true) → post 1) (H0 : ¬ (∀ g, g < 6 → h g ≠ 0 → t0 g = true) → post 0) : ∀ (n i : Nat), 6 < n + i → i ≤ 6 → (∀ g, g < i → h g ≠ 0 → t0 g = true) → wX_allTaken_2 post fc cc ck cl cr pc pk pf pt g nx en pn pe fr tk n (nI i) := by
  intro n
  induction n with
  | zero => intro i h1 h2; omega
  | succ n ih =>
    intro i h1 h2 I
    rw [wX_allTaken_2]
    refine pk_le 6 i (fun z => H1 (fun g hg => I g (by omega))) (fun z => ⟨pk_in i 6 z, ?_⟩)
    have e1 : nx (nI i).toNatClampNeg = lh_hv (h i) := lh_rdH hx z (by decide)
    have e2 : tk (nI i).toNatClampNeg = lh_bI (t0 i) := lh_rdB hm z (by decide)
    have b := hb i
    have next : (h i ≠ 0 → t0 i = true) → wX_allTaken_2 post fc cc ck cl cr pc pk pf pt g nx en pn pe fr tk n (nI (i + 1)) := fun c => ih (i + 1) (by omega) (by omega) (fun j hj => by
      rcases lh_lt_s hj with y | y
      · exact I j y
      · rw [y]; exact c)
    rw [e1, e2]
    by_cases c : h i = 0
    · exact br_t ((lh_hv_m1 _ (by omega)).mpr c) (nm_r (nI_1 i) (next (fun y => absurd c y)))
    · refine br_f (fun y => c ((lh_hv_m1 _ (by omega)).mp y)) ⟨pk_in i 6 z, ?_⟩
      cases d : t0 i with
      | true => exact br_f (by decide) (nm_r (nI_1 i) (next (fun _ => d)))
      | false => exact br_t rfl (H0 (fun y => absurd (d.symm.trans (y i z c)) (by decide)))
theorem lh_x_at {post : Int32 → Prop} {h : Nat → Nat} {t0 : Nat → Bool} (hb : ∀ x, h x ≤ 6) (hx : lh_Ah 6 nx h) (hm : lh_Ab 6 tk t0) (H1 : (∀ g, g < 6 → h g ≠ 0 → t0 g = true) → post 1) (H0 : ¬ (∀ g, g < 6 → h g ≠ 0 → t0 g = true) → post 0) : wpX_allTaken post (fc, cc, ck, cl, cr, pc, pk, pf, pt, g, nx, en, pn, pe, fr, tk) :=
  Exists.intro 7 (lh_x_at2 hb hx hm H1 H0 7 0 (by omega) (by omega) (fun j hj => absurd hj (Nat.not_lt_zero j)))
theorem lh_x_fit33 {post : Int32 → SX → Prop} {b : Bool} {h e : Nat → Nat} (S : lh_St C W nc np cc ck cl cr pc pk pf pt) (hg : lh_A 6 g (lh_gf l)) (hl : ∀ a, lh_gf l a < 6) (hb : lh_bd 6 h) (he : ∀ x, e x ≤ 6) (hx : lh_Ah 6 nx h) (hn : lh_Ah 6 en e)
    (H1 : (∃ q, lh_fit h (fun x => e x = 0) (np 1) (lh_pa W 1 l) (lh_pt W 1 l) (lh_pk W 1) (b = true) q) → ∀ tk, post 1 (fc, cc, ck, cl, cr, pc, pk, pf, pt, g, nx, en, pn, pe, fr, tk)) (H0 : (¬ ∃ q, lh_fit h (fun x => e x = 0) (np 1) (lh_pa W 1 l) (lh_pt W 1 l) (lh_pk W 1) (b = true) q) → ∀ tk, post 0 (fc, cc, ck, cl, cr, pc, pk, pf, pt, g, nx, en, pn, pe, fr, tk)) :
    ∀ (n i : Nat) (tk : Nat → Int32) (t0 : Nat → Bool) (q : Nat → List Nat), np 1 < n + i → i ≤ np 1 → lh_pf h (fun x => e x = 0) i (lh_pa W 1 l) (lh_pt W 1 l) (lh_pk W 1) t0 q → lh_Ab 6 tk t0 → wX_claimOneFits_33 post (lh_bI b) n (nI i) fc cc ck cl cr pc pk pf pt g nx en pn pe fr tk := by
  obtain ⟨_, ⟨p1, p2, p3, p4⟩, _, hW, _, hnp⟩ := S
  have h6 := hnp 1
  intro n
  induction n with
  | zero => intro i tk t0 q h1 h2; omega
  | succ n ih =>
    intro i tk t0 q h1 h2 P M
    have hk : W (6 * 1 + i) ≤ 71 := hW _
    rw [wX_claimOneFits_33]
    refine pk_le (np 1) i (fun z => ?_) (fun z => ?_) (p1 1)
    · have ei : i = np 1 := by omega
      rw [ei] at P
      have PE := lh_pf_end (wh := b = true) P
      cases b with
      | false => exact br_t rfl (H1 (PE.mpr (fun y => absurd y (by decide))) tk)
      | true =>
        refine br_f (by decide) (lh_x_at (post := fun r_22 => (r_22 = 0 → post 0 (fc, cc, ck, cl, cr, pc, pk, pf, pt, g, nx, en, pn, pe, fr, tk)) ∧ (¬ r_22 = 0 → post 1 (fc, cc, ck, cl, cr, pc, pk, pf, pt, g, nx, en, pn, pe, fr, tk))) hb.2 hx M (fun y => br_f (by decide) (H1 (PE.mpr (fun _ g hg => y g (hb.1 g hg) hg)) tk)) (fun y => br_t rfl (H0 (fun w => y (fun g _ hg => PE.mp w rfl g hg)) tk)))
    · have e1 : pf (nI (6 * 1 + i)).toNatClampNeg = nI (W (6 * 1 + i) % 36 / 6) := lh_rdS p3 (by omega)
      have e2 : pt (nI (6 * 1 + i)).toNatClampNeg = nI (W (6 * 1 + i) % 6) := lh_rdS p4 (by omega)
      have e3 : pk (nI (6 * 1 + i)).toNatClampNeg = nI (W (6 * 1 + i) / 36) := lh_rdS p2 (by omega)
      have eL : g (pf (nI (6 * 1 + i)).toNatClampNeg).toNatClampNeg = nI (lh_pa W 1 l i) := by rw [e1]; exact lh_rdA hg (by omega) (by decide)
      have eR : g (pt (nI (6 * 1 + i)).toNatClampNeg).toNatClampNeg = nI (lh_pt W 1 l i) := by rw [e2]; exact lh_rdA hg (by omega) (by decide)
      have la : lh_pa W 1 l i < 6 := hl _
      have lt : lh_pt W 1 l i < 6 := hl _
      refine nm_r (e' := nI (6 * 1 + i)) (nI_add 6 i) ⟨pk_in (6 * 1 + i) 12 (by omega), ⟨by rw [e1]; exact vp_in_nI (by omega) (by decide), nm_r eL ⟨pk_in (6 * 1 + i) 12 (by omega), ⟨by rw [e2]; exact vp_in_nI (by omega) (by decide), nm_r eR ⟨pk_in (6 * 1 + i) 12 (by omega), ?_⟩⟩⟩⟩⟩
      rw [e3]
      have ok : ∀ (r : List Nat) (tk : Nat → Int32), lh_one h (fun x => e x = 0) (lh_pa W 1 l i) (lh_pt W 1 l i) (lh_pk W 1 i) t0 r → lh_Ab 6 tk (lh_mk t0 r) → wX_claimOneFits_103 post (wX_claimOneFits_33 post (lh_bI b) n) (lh_bI b) (nI i) 1 fc cc ck cl cr pc pk pf pt g nx en pn pe fr tk := fun r tk R M' => br_f (by decide) (nm_r (nI_1 i) (ih (i + 1) tk _ _ (by omega) (by omega) (lh_pf_step P R) M'))
      have no : (¬ ∃ r, lh_one h (fun x => e x = 0) (lh_pa W 1 l i) (lh_pt W 1 l i) (lh_pk W 1 i) t0 r) → ∀ tk, wX_claimOneFits_103 post (wX_claimOneFits_33 post (lh_bI b) n) (lh_bI b) (nI i) 0 fc cc ck cl cr pc pk pf pt g nx en pn pe fr tk := fun N tk => br_t rfl (H0 (lh_pf_fail P z N) tk)
      by_cases c : 36 ≤ W (6 * 1 + i)
      · rw [lh_pk_t c] at ok no
        exact br_t ((lh_k1 _ (by omega)).mpr c) (lh_x_tl la lt hb hx M (fun r tk w M' => ok r tk (lh_one_list.mpr w) M') (fun w tk => no (lh_no_one w) tk))
      · rw [lh_pk_f c] at ok no
        exact br_f (fun y => c ((lh_k1 _ (by omega)).mp y)) (lh_x_tc la lt hb he hx hn M (fun w1 w2 w3 tk M' => ok _ tk (lh_one_cell.mpr ⟨rfl, w1, w2, w3⟩) M') (fun w => no (fun ⟨r, R⟩ => w (lh_one_cell.mp R).2) tk))
theorem lh_x_fit12 {post : Int32 → SX → Prop} {x1 : Int32} (H : ∀ tk, lh_Ab 6 tk (fun _ => false) → ∃ m, wX_claimOneFits_33 post x1 m 0 fc cc ck cl cr pc pk pf pt g nx en pn pe fr tk) : ∀ (n i : Nat) (tk : Nat → Int32), 6 < n + i → i ≤ 6 → lh_Ab i tk (fun _ => false) → wX_claimOneFits_12 post x1 fc n (nI i) cc ck cl cr pc pk pf pt g nx en pn pe fr tk := by
  intro n
  induction n with
  | zero => intro i tk h1 h2; omega
  | succ n ih =>
    intro i tk h1 h2 M
    rw [wX_claimOneFits_12]
    refine pk_le 6 i (fun z => ?_) (fun z => ⟨pk_in i 6 z, nm_r (e' := upd tk i (lh_bI false)) (by rw [nI_clamp (by omega), lh_nar0]) (nm_r (nI_1 i) (ih (i + 1) _ (by omega) (by omega) (lh_Ab_s M)))⟩)
    have e : i = 6 := by omega
    rw [e] at M
    exact H tk M
theorem lh_x_fit {post : Int32 → SX → Prop} {b : Bool} {h e : Nat → Nat} (S : lh_St C W nc np cc ck cl cr pc pk pf pt) (hg : lh_A 6 g (lh_gf l)) (hl : ∀ a, lh_gf l a < 6) (hb : lh_bd 6 h) (he : ∀ x, e x ≤ 6) (hx : lh_Ah 6 nx h) (hn : lh_Ah 6 en e)
    (H1 : (lh_ch C nc 1 l ∧ ∃ q, lh_fit h (fun x => e x = 0) (np 1) (lh_pa W 1 l) (lh_pt W 1 l) (lh_pk W 1) (b = true) q) → ∀ tk, post 1 (fc, cc, ck, cl, cr, pc, pk, pf, pt, g, nx, en, pn, pe, fr, tk)) (H0 : ¬ (lh_ch C nc 1 l ∧ ∃ q, lh_fit h (fun x => e x = 0) (np 1) (lh_pa W 1 l) (lh_pt W 1 l) (lh_pk W 1) (b = true) q) → ∀ tk, post 0 (fc, cc, ck, cl, cr, pc, pk, pf, pt, g, nx, en, pn, pe, fr, tk)) : wpX_claimOneFits post (fc, cc, ck, cl, cr, pc, pk, pf, pt, g, nx, en, pn, pe, fr, tk) (lh_bI b) := by
  refine lh_x_ch (s := 1) (post := fun r_1 => (r_1 = 0 → post 0 (fc, cc, ck, cl, cr, pc, pk, pf, pt, g, nx, en, pn, pe, fr, tk)) ∧ (¬ r_1 = 0 → ∃ n12 : Nat, wX_claimOneFits_12 post (lh_bI b) fc n12 0 cc ck cl cr pc pk pf pt g nx en pn pe fr tk)) (by decide) S hg hl (fun c => br_f (by decide) ?_) (fun c => br_t rfl (H0 (fun z => c z.1) tk))
  exact ⟨7, lh_x_fit12 (fun tk M => ⟨np 1 + 1, lh_x_fit33 S hg hl hb he hx hn (fun w tk => H1 ⟨c, w⟩ tk) (fun w tk => H0 (fun z => w z.2) tk) (np 1 + 1) 0 tk (fun _ => false) (fun _ => []) (by omega) (by omega) lh_pf_0 M⟩) 7 0 tk (by omega) (by omega) (fun j hj => absurd hj (Nat.not_lt_zero j))⟩
theorem lh_x_every11 {post : Int32 → SX → Prop} {b : Bool} {K : Nat} {Fl : List Nat} (w : lh_wf l) (S : lh_St C W nc np cc ck cl cr pc pk pf pt) (hg : lh_A 6 g (lh_gf l)) (hK : Fl.length = K) (h6 : K ≤ 6) (hfr : lh_A K fr (fun j => Fl.getD j 0)) (F : lh_fr Fl 0 (lh_Q W np 0 l)) (hp : lh_Ah 6 pn (lh_H W np 0 l)) (hq : lh_Ah 6 pe (lh_Q W np 0 l))
    (H1 : lh_XF C W nc np (b = true) l Fl → ∀ nx en tk, post 1 (nI K, cc, ck, cl, cr, pc, pk, pf, pt, g, nx, en, pn, pe, fr, tk)) (H0 : ¬ lh_XF C W nc np (b = true) l Fl → ∀ nx en tk, post 0 (nI K, cc, ck, cl, cr, pc, pk, pf, pt, g, nx, en, pn, pe, fr, tk)) :
    ∀ (n r : Nat) (nx en tk : Nat → Int32), 6 ^ K < n + r → r ≤ 6 ^ K → (∀ j, j < r → ∀ h' e', lh_run (lh_gf l 5) ((lh_dig j Fl.length).zip Fl) (lh_H W np 0 l) (lh_Q W np 0 l) = some (h', e') → lh_ch C nc 1 l ∧ ∃ q, lh_fit h' (fun x => e' x = 0) (np 1) (lh_pa W 1 l) (lh_pt W 1 l) (lh_pk W 1) (b = true) q) → wX_everyRunFits_11 post (lh_bI b) (nI (6 ^ K)) n (nI r) (nI K) cc ck cl cr pc pk pf pt g nx en pn pe fr tk := by
  have p6 : 6 ^ K ≤ 46656 := Nat.pow_le_pow_right (n := 6) (by decide) h6
  intro n
  induction n with
  | zero => intro r nx en tk h1 h2; omega
  | succ n ih =>
    intro r nx en tk h1 h2 I
    rw [wX_everyRunFits_11]
    refine pk_le (6 ^ K) r (fun z => H1 ?_ nx en tk) (fun z => ?_)
    · intro r' hr'
      rw [hK] at hr'
      exact I r' (by omega)
    · refine lh_x_run hK h6 (w.2.1 5) (hg 5 (by decide)) hfr hp hq (by omega) ⟨fun x hx => lh_H_lt w hx, fun x => lh_H_le w x⟩ (fun x => lh_Q_le w x) F (fun h' e' nx en R B E X Y => br_f (by decide) ?_) (fun R nx en => br_t rfl (nm_r (nI_1 r) (ih (r + 1) nx en tk (by omega) (by omega) ?_)))
      · refine lh_x_fit S hg w.2.1 B E X Y (fun y tk => br_f (by decide) (nm_r (nI_1 r) (ih (r + 1) nx en tk (by omega) (by omega) ?_))) (fun y tk => br_t rfl (H0 (fun v => y (v r (by rw [hK]; exact z) h' e' (by rw [hK]; exact R))) nx en tk))
        intro j hj h2' e2' R'
        rcases lh_lt_s hj with v | v
        · exact I j v h2' e2' R'
        · rw [v, hK, R] at R'
          simp only [Option.some.injEq, Prod.mk.injEq] at R'
          rw [← R'.1, ← R'.2]; exact y
      · intro j hj h2' e2' R'
        rcases lh_lt_s hj with v | v
        · exact I j v h2' e2' R'
        · rw [v, hK, R] at R'
          exact absurd R' (by simp)
theorem lh_x_every {post : Int32 → SX → Prop} {b : Bool} (w : lh_wf l) (ok : lh_ok W np 0 l) (S : lh_St C W nc np cc ck cl cr pc pk pf pt) (hg : lh_A 6 g (lh_gf l)) (hx : lh_Ah 6 nx (lh_H W np 0 l)) (hn : lh_Ah 6 en (lh_Q W np 0 l))
    (H1 : lh_YF C W nc np (b = true) l → ∀ fc nx en pn pe fr tk, post 1 (fc, cc, ck, cl, cr, pc, pk, pf, pt, g, nx, en, pn, pe, fr, tk)) (H0 : ¬ lh_YF C W nc np (b = true) l → ∀ fc nx en pn pe fr tk, post 0 (fc, cc, ck, cl, cr, pc, pk, pf, pt, g, nx, en, pn, pe, fr, tk)) : wpX_everyRunFits post (fc, cc, ck, cl, cr, pc, pk, pf, pt, g, nx, en, pn, pe, fr, tk) (lh_bI b) := by
  refine lh_x_keep w hg (fun x => lh_H_le w x) (fun x => lh_Q_le w x) hx hn (fun anyL ha pn pe fr hp hq hf => ?_)
  have FF := lh_FF (C := C) (nc := nc) (wh := b = true) w ok ha
  have k6 : (lh_fl anyL (lh_gof l 6) (lh_gf l 5) (lh_H W np 0 l) 6).length ≤ 6 := lh_fl_len
  refine lh_x_runs k6 ⟨6 ^ (lh_fl anyL (lh_gof l 6) (lh_gf l 5) (lh_H W np 0 l) 6).length + 1, lh_x_every11 w S hg rfl k6 hf ⟨fun x hx => (lh_fl_mem.mp hx).1, lh_fl_nd, fun x hx => ?_⟩ hp hq (fun y nx en tk => H1 (FF.mp y) _ nx en pn pe fr tk) (fun y nx en tk => H0 (fun v => y (FF.mpr v)) _ nx en pn pe fr tk) _ 0 nx en tk (Nat.lt_succ_self _) (Nat.zero_le _) (fun j hj => absurd hj (Nat.not_lt_zero j))⟩
  have m := (lh_fl_mem.mp hx).2.2.2.2
  by_cases z : lh_Q W np 0 l x = 0
  · exact z
  · have q := (lh_Q_H ok z).1
    rw [m] at q
    exact q.symm
end
