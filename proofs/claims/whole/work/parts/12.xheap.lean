/-! THE COMPONENT: the heap methods -/
theorem lh_oks_s {h0 pa pt : Nat → Nat} {pk : Nat → Bool} {nl i : Nat} (a : lh_oks h0 nl pa pt pk i) (b : ¬ (pk i = true ∧ pa i = pt i) → pa i ≠ nl ∧ lh_hp h0 pa pt pk i (pa i) = 0) : lh_oks h0 nl pa pt pk (i + 1) := by
  intro j hj
  rcases lh_lt_s hj with z | z
  · exact a j z
  · rw [z]; exact b
theorem lh_pk_t {W : Nat → Nat} {s i : Nat} (c : 36 ≤ W (6 * s + i)) : lh_pk W s i = true := decide_eq_true c
theorem lh_pk_f {W : Nat → Nat} {s i : Nat} (c : ¬ 36 ≤ W (6 * s + i)) : lh_pk W s i = false := decide_eq_false c
section
variable {fc : Int32} {cc ck cl cr pc pk pf pt g nx en pn pe fr tk : Nat → Int32} {C W nc np : Nat → Nat} {l : List Nat}
theorem lh_x_add79 {post : Int32 → SX → Prop} {J : Int32 → (Nat → Int32) → (Nat → Int32) → (Nat → Int32) → (Nat → Int32) → (Nat → Int32) → (Nat → Int32) → (Nat → Int32) → (Nat → Int32) → (Nat → Int32) → (Nat → Int32) → (Nat → Int32) → (Nat → Int32) → (Nat → Int32) → (Nat → Int32) → (Nat → Int32) → Prop} {x1 x6 : Int32} {i a t n5 : Nat} {h e : Nat → Nat} {k : Bool} (hi : i < 6) (ha : a < 6) (ht : t < 6) (hn : n5 < 6) (g5 : g 5 = nI n5) (hh : ∀ x, h x ≤ 6) (hx : lh_Ah 6 nx h) (he : lh_Ah 6 en e) (hk : x6 = lh_bI k)
    (H1 : a ≠ n5 → h a = 0 → ∀ nx en, lh_Ah 6 nx (lh_up h a (t + 1)) → lh_Ah 6 en (lh_up e a (if k = true then t + 1 else 0)) → J (nI (i + 1)) cc ck cl cr pc pk pf pt g nx en pn pe fr tk)
    (H0 : ¬ (a ≠ n5 ∧ h a = 0) → post 0 (fc, cc, ck, cl, cr, pc, pk, pf, pt, g, nx, en, pn, pe, fr, tk)) : wX_addPartsToHeap_79 post J x1 (nI i) (nI a) (nI t) x6 1 fc cc ck cl cr pc pk pf pt g nx en pn pe fr tk := by
  have e1 : nx (nI a).toNatClampNeg = lh_hv (h a) := lh_rdH hx ha (by decide)
  have b := hh a
  have ca : (nI a).toNatClampNeg = a := nI_clamp (by omega)
  unfold wX_addPartsToHeap_79
  refine br_f (by decide) (pk_eq a n5 (fun q => H0 (fun z => z.1 q)) (fun q => ⟨pk_in a 6 ha, ?_⟩) rfl g5)
  rw [e1]
  by_cases c : h a = 0
  · refine br_t ((lh_hv_m1 _ (by omega)).mpr c) ⟨pk_in a 6 ha, nm_r (e' := upd nx a (lh_hv (t + 1))) (by rw [ca]; rfl) ?_⟩
    have A := lh_Ah_up hx a (t + 1)
    cases k with
    | true =>
      refine br_f (by rw [hk]; decide) ⟨pk_in a 6 ha, nm_r (e' := upd en a (lh_hv (t + 1))) (by rw [ca]; rfl) (nm_r (nI_1 i) (H1 q c _ _ A ?_))⟩
      exact lh_Ah_up he a (t + 1)
    | false =>
      refine br_t (by rw [hk]; decide) ⟨pk_in a 6 ha, nm_r (e' := upd en a (lh_hv 0)) (by rw [ca]; rfl) (nm_r (nI_1 i) (H1 q c _ _ A ?_))⟩
      exact lh_Ah_up he a 0
  · exact br_f (fun z => c ((lh_hv_m1 _ (by omega)).mp z)) (H0 (fun z => c z.2))
theorem lh_x_add2 {post : Int32 → SX → Prop} {s : Nat} {h0 e0 : Nat → Nat} (hs : s < 2) (S : lh_St C W nc np cc ck cl cr pc pk pf pt) (hg : lh_A 6 g (lh_gf l)) (hl : ∀ a, lh_gf l a < 6) (hh : ∀ x, h0 x ≤ 6)
    (H1 : lh_oks h0 (lh_gf l 5) (lh_pa W s l) (lh_pt W s l) (lh_pk W s) (np s) → ∀ nx en, lh_Ah 6 nx (lh_hp h0 (lh_pa W s l) (lh_pt W s l) (lh_pk W s) (np s)) → lh_Ah 6 en (lh_ep e0 (lh_pa W s l) (lh_pt W s l) (lh_pk W s) (np s)) → post 1 (fc, cc, ck, cl, cr, pc, pk, pf, pt, g, nx, en, pn, pe, fr, tk))
    (H0 : ¬ lh_oks h0 (lh_gf l 5) (lh_pa W s l) (lh_pt W s l) (lh_pk W s) (np s) → ∀ nx en, post 0 (fc, cc, ck, cl, cr, pc, pk, pf, pt, g, nx, en, pn, pe, fr, tk)) :
    ∀ (n i : Nat) (nx en : Nat → Int32), np s < n + i → i ≤ np s → lh_oks h0 (lh_gf l 5) (lh_pa W s l) (lh_pt W s l) (lh_pk W s) i → lh_Ah 6 nx (lh_hp h0 (lh_pa W s l) (lh_pt W s l) (lh_pk W s) i) → lh_Ah 6 en (lh_ep e0 (lh_pa W s l) (lh_pt W s l) (lh_pk W s) i) → wX_addPartsToHeap_2 post (nI s) fc n (nI i) cc ck cl cr pc pk pf pt g nx en pn pe fr tk := by
  obtain ⟨_, ⟨p1, p2, p3, p4⟩, _, hW, _, hnp⟩ := S
  have h6 := hnp s
  intro n
  induction n with
  | zero => intro i nx en h1 h2; omega
  | succ n ih =>
    intro i nx en h1 h2 O X E
    have hk : W (6 * s + i) ≤ 71 := hW _
    have e0' : pc (nI s).toNatClampNeg = nI (np s) := lh_rdS p1 (by omega)
    rw [wX_addPartsToHeap_2]
    refine ⟨pk_in s 2 hs, pk_le (np s) i (fun h => ?_) (fun h => ?_) e0'⟩
    · have e : i = np s := by omega
      rw [e] at O X E
      exact H1 O nx en X E
    · have e1 : pf (nI (6 * s + i)).toNatClampNeg = nI (W (6 * s + i) % 36 / 6) := lh_rdS p3 (by omega)
      have e2 : pt (nI (6 * s + i)).toNatClampNeg = nI (W (6 * s + i) % 6) := lh_rdS p4 (by omega)
      have e3 : pk (nI (6 * s + i)).toNatClampNeg = nI (W (6 * s + i) / 36) := lh_rdS p2 (by omega)
      have eL : g (pf (nI (6 * s + i)).toNatClampNeg).toNatClampNeg = nI (lh_pa W s l i) := by rw [e1]; exact lh_rdA hg (by omega) (by decide)
      have eR : g (pt (nI (6 * s + i)).toNatClampNeg).toNatClampNeg = nI (lh_pt W s l i) := by rw [e2]; exact lh_rdA hg (by omega) (by decide)
      have la : lh_pa W s l i < 6 := hl _
      have lt : lh_pt W s l i < 6 := hl _
      refine nm_r (lh_s6 s i) ⟨pk_in (6 * s + i) 12 (by omega), ⟨by rw [e1]; exact vp_in_nI (by omega) (by decide), nm_r eL ⟨pk_in (6 * s + i) 12 (by omega), ⟨by rw [e2]; exact vp_in_nI (by omega) (by decide), nm_r eR ⟨pk_in (6 * s + i) 12 (by omega), ?_⟩⟩⟩⟩⟩
      rw [e3]
      have P : ∀ (k : Bool) (x6 : Int32), lh_pk W s i = k → x6 = lh_bI k → ¬ (lh_pk W s i = true ∧ lh_pa W s l i = lh_pt W s l i) → wX_addPartsToHeap_79 post (wX_addPartsToHeap_2 post (nI s) fc n) (nI s) (nI i) (nI (lh_pa W s l i)) (nI (lh_pt W s l i)) x6 1 fc cc ck cl cr pc pk pf pt g nx en pn pe fr tk := by
        intro k x6 ek ex nc'
        refine lh_x_add79 (k := k) (by omega) la lt (hl 5) (hg 5 (by decide)) (fun x => lh_hp_le (fun j _ => hl _) hh x) X E ex (fun a1 a2 nx en X' E' => ih (i + 1) nx en (by omega) (by omega) (lh_oks_s O (fun _ => ⟨a1, a2⟩)) ?_ ?_) (fun z => H0 (fun o => z (o i h nc')) nx en)
        · rw [lh_hp_n nc']; exact X'
        · rw [lh_ep_n nc', ek]; exact E'
      by_cases c : 36 ≤ W (6 * s + i)
      · refine br_t ((lh_k1 _ (by omega)).mpr c) ?_
        unfold wX_addPartsToHeap_60 wX_addPartsToHeap_74
        refine br_f (by decide) (pk_eq (lh_pa W s l i) (lh_pt W s l i) (fun q => ?_) (fun q => P true 1 (lh_pk_t c) rfl (fun z => q z.2)))
        unfold wX_addPartsToHeap_79
        have ne : lh_pk W s i = true ∧ lh_pa W s l i = lh_pt W s l i := ⟨lh_pk_t c, q⟩
        refine br_t rfl (nm_r (nI_1 i) (ih (i + 1) nx en (by omega) (by omega) (lh_oks_s O (fun z => absurd ne z)) ?_ ?_))
        · rw [lh_hp_e ne]; exact X
        · rw [lh_ep_e ne]; exact E
      · refine br_f (fun z => c ((lh_k1 _ (by omega)).mp z)) ?_
        unfold wX_addPartsToHeap_60 wX_addPartsToHeap_74
        have kf := lh_pk_f c
        exact br_t rfl (P false 0 kf rfl (fun z => absurd (z.1.symm.trans kf) (by decide)))
theorem lh_x_add {post : Int32 → SX → Prop} {s : Nat} {h0 e0 : Nat → Nat} (hs : s < 2) (S : lh_St C W nc np cc ck cl cr pc pk pf pt) (hg : lh_A 6 g (lh_gf l)) (hl : ∀ a, lh_gf l a < 6) (hh : ∀ x, h0 x ≤ 6) (hx : lh_Ah 6 nx h0) (he : lh_Ah 6 en e0)
    (H1 : lh_oks h0 (lh_gf l 5) (lh_pa W s l) (lh_pt W s l) (lh_pk W s) (np s) → ∀ nx en, lh_Ah 6 nx (lh_hp h0 (lh_pa W s l) (lh_pt W s l) (lh_pk W s) (np s)) → lh_Ah 6 en (lh_ep e0 (lh_pa W s l) (lh_pt W s l) (lh_pk W s) (np s)) → post 1 (fc, cc, ck, cl, cr, pc, pk, pf, pt, g, nx, en, pn, pe, fr, tk))
    (H0 : ¬ lh_oks h0 (lh_gf l 5) (lh_pa W s l) (lh_pt W s l) (lh_pk W s) (np s) → ∀ nx en, post 0 (fc, cc, ck, cl, cr, pc, pk, pf, pt, g, nx, en, pn, pe, fr, tk)) : wpX_addPartsToHeap post (fc, cc, ck, cl, cr, pc, pk, pf, pt, g, nx, en, pn, pe, fr, tk) (nI s) :=
  Exists.intro (np s + 1) (lh_x_add2 hs S hg hl hh H1 H0 (np s + 1) 0 nx en (by omega) (by omega) (fun j hj => absurd hj (Nat.not_lt_zero j)) hx he)
theorem lh_x_build12 {post : Int32 → SX → Prop} {s : Nat} (hs : s < 2) (S : lh_St C W nc np cc ck cl cr pc pk pf pt) (hg : lh_A 6 g (lh_gf l)) (hl : ∀ a, lh_gf l a < 6)
    (H1 : lh_ok W np s l → ∀ nx en, lh_Ah 6 nx (lh_H W np s l) → lh_Ah 6 en (lh_Q W np s l) → post 1 (fc, cc, ck, cl, cr, pc, pk, pf, pt, g, nx, en, pn, pe, fr, tk)) (H0 : ¬ lh_ok W np s l → ∀ nx en, post 0 (fc, cc, ck, cl, cr, pc, pk, pf, pt, g, nx, en, pn, pe, fr, tk)) :
    ∀ (n i : Nat) (nx en : Nat → Int32), 6 < n + i → i ≤ 6 → lh_Ah i nx (fun _ => 0) → lh_Ah i en (fun _ => 0) → wX_buildPlainHeap_12 post (nI s) fc n (nI i) cc ck cl cr pc pk pf pt g nx en pn pe fr tk := by
  intro n
  induction n with
  | zero => intro i nx en h1 h2; omega
  | succ n ih =>
    intro i nx en h1 h2 X E
    rw [wX_buildPlainHeap_12]
    refine pk_le 6 i (fun h => ?_) (fun h => ⟨pk_in i 6 h, nm_r (e' := upd nx i (lh_hv 0)) (by rw [nI_clamp (by omega)]; rfl) ⟨pk_in i 6 h, nm_r (e' := upd en i (lh_hv 0)) (by rw [nI_clamp (by omega)]; rfl) (nm_r (nI_1 i) (ih (i + 1) _ _ (by omega) (by omega) (lh_Ah_s X) (lh_Ah_s E)))⟩⟩)
    have e : i = 6 := by omega
    rw [e] at X E
    exact lh_x_add (h0 := fun _ => 0) (e0 := fun _ => 0) hs S hg hl (fun _ => Nat.zero_le _) X E (fun o nx en X' E' => ⟨rfl, H1 o nx en X' E'⟩) (fun o nx en => ⟨rfl, H0 o nx en⟩)
theorem lh_x_build {post : Int32 → SX → Prop} {s : Nat} (hs : s < 2) (S : lh_St C W nc np cc ck cl cr pc pk pf pt) (hg : lh_A 6 g (lh_gf l)) (hl : ∀ a, lh_gf l a < 6)
    (H1 : lh_B C W nc np s l → ∀ nx en, lh_Ah 6 nx (lh_H W np s l) → lh_Ah 6 en (lh_Q W np s l) → post 1 (fc, cc, ck, cl, cr, pc, pk, pf, pt, g, nx, en, pn, pe, fr, tk)) (H0 : ¬ lh_B C W nc np s l → ∀ nx en, post 0 (fc, cc, ck, cl, cr, pc, pk, pf, pt, g, nx, en, pn, pe, fr, tk)) : wpX_buildPlainHeap post (fc, cc, ck, cl, cr, pc, pk, pf, pt, g, nx, en, pn, pe, fr, tk) (nI s) := by
  refine lh_x_ch (post := fun r_1 => (r_1 = 0 → post 0 (fc, cc, ck, cl, cr, pc, pk, pf, pt, g, nx, en, pn, pe, fr, tk)) ∧ (¬ r_1 = 0 → ∃ n12 : Nat, wX_buildPlainHeap_12 post (nI s) fc n12 0 cc ck cl cr pc pk pf pt g nx en pn pe fr tk)) hs S hg hl (fun c => br_f (by decide) ?_) (fun c => br_t rfl (H0 (fun z => c z.1) nx en))
  exact ⟨7, lh_x_build12 hs S hg hl (fun o nx en X E => H1 ⟨c, o⟩ nx en X E) (fun o nx en => H0 (fun z => o z.2) nx en) 7 0 nx en (by omega) (by omega) (fun j hj => absurd hj (Nat.not_lt_zero j)) (fun j hj => absurd hj (Nat.not_lt_zero j))⟩
theorem lh_x_leads5 {post : Int32 → Prop} {h : Nat → Nat} {a t : Nat} (ht : t < 6) (hb : lh_bd 6 h) (hx : lh_Ah 6 nx h) (H1 : (∃ q, lh_pth h t a q) → post 1) (H0 : (¬ ∃ q, lh_pth h t a q) → post 0) : ∀ (n i y : Nat) (q : List Nat), 6 < n + i → i ≤ 6 → y < 6 → q.length = i → lh_pre h t y a q → wX_leadsTo_5 post (nI t) fc cc ck cl cr pc pk pf pt g nx en pn pe fr tk n (nI y) (nI i) := by
  intro n
  induction n with
  | zero => intro i y q h1 h2; omega
  | succ n ih =>
    intro i y q h1 h2 hy ql B
    have e1 : nx (nI y).toNatClampNeg = lh_hv (h y) := lh_rdH hx hy (by decide)
    have b := hb.2 y
    have fin : (y = t ∨ 6 ≤ i) → wX_leadsTo_42 post (nI t) (nI y) fc cc ck cl cr pc pk pf pt g nx en pn pe fr tk := by
      intro z
      unfold wX_leadsTo_42
      refine pk_eq y t (fun w => H1 ⟨q, ?_⟩) (fun w => H0 ?_)
      · rw [w] at B; exact B
      · exact lh_far hb.1 B (by omega) w
    rw [wX_leadsTo_5]
    refine pk_le 6 i (fun z => fin (Or.inr z)) (fun z => pk_eq y t (fun w => fin (Or.inl w)) (fun w => ⟨pk_in y 6 hy, ?_⟩))
    rw [e1]
    by_cases c : h y = 0
    · exact br_t ((lh_hv_m1 _ (by omega)).mpr c) (H0 (lh_stop B w c))
    · refine br_f (fun z => c ((lh_hv_m1 _ (by omega)).mp z)) ⟨pk_in y 6 hy, nm_r (lh_hv_p c) (nm_r (nI_1 i) (ih (i + 1) (h y - 1) (q ++ [y]) (by omega) (by omega) (by omega) (by rw [List.length_append, ql]; rfl) (lh_pre_snoc w c q a B)))⟩
theorem lh_x_leads {post : Int32 → Prop} {h : Nat → Nat} {a t : Nat} (ha : a < 6) (ht : t < 6) (hb : lh_bd 6 h) (hx : lh_Ah 6 nx h) (H1 : (∃ q, lh_pth h t a q) → post 1) (H0 : (¬ ∃ q, lh_pth h t a q) → post 0) : wpX_leadsTo post (fc, cc, ck, cl, cr, pc, pk, pf, pt, g, nx, en, pn, pe, fr, tk) (nI a) (nI t) :=
  Exists.intro 7 (lh_x_leads5 ht hb hx H1 H0 7 0 a [] (by omega) (by omega) ha rfl (lh_pre_nil.mpr rfl))
theorem lh_x_cells4 {post : Int32 → Prop} {h : Nat → Nat} (hb : ∀ x, h x ≤ 6) (hx : lh_Ah 6 nx h) (H : post (nI (lh_cl h 6))) : ∀ (n i : Nat), 6 < n + i → i ≤ 6 → wX_countCells_4 post fc cc ck cl cr pc pk pf pt g nx en pn pe fr tk n (nI (lh_cl h i)) (nI i) := by
  intro n
  induction n with
  | zero => intro i h1 h2; omega
  | succ n ih =>
    intro i h1 h2
    rw [wX_countCells_4]
    refine pk_le 6 i (fun z => ?_) (fun z => ⟨pk_in i 6 z, ?_⟩)
    · have e : i = 6 := by omega
      rw [e]; exact H
    · have e1 : nx (nI i).toNatClampNeg = lh_hv (h i) := lh_rdH hx z (by decide)
      have b := hb i
      rw [e1]
      have w := ih (i + 1) (by omega) (by omega)
      by_cases c : h i = 0
      · have s : lh_cl h (i + 1) = lh_cl h i := if_pos c
        rw [s] at w
        exact br_t ((lh_hv_m1 _ (by omega)).mpr c) (nm_r (nI_1 i) w)
      · have s : lh_cl h (i + 1) = lh_cl h i + 1 := if_neg c
        rw [s] at w
        exact br_f (fun z => c ((lh_hv_m1 _ (by omega)).mp z)) (nm_r (nI_1 _) (nm_r (nI_1 i) w))
theorem lh_x_cells {post : Int32 → Prop} {h : Nat → Nat} (hb : ∀ x, h x ≤ 6) (hx : lh_Ah 6 nx h) (H : post (nI (lh_cl h 6))) : wpX_countCells post (fc, cc, ck, cl, cr, pc, pk, pf, pt, g, nx, en, pn, pe, fr, tk) :=
  Exists.intro 7 (lh_x_cells4 hb hx H 7 0 (by omega) (by omega))
theorem lh_x_hasl2 {post : Int32 → Prop} {e : Nat → Nat} (hb : ∀ x, e x ≤ 6) (hx : lh_Ah 6 en e) (H1 : lh_any6 e → post 1) (H0 : ¬ lh_any6 e → post 0) : ∀ (n i : Nat), 6 < n + i → i ≤ 6 → (∀ j, j < i → e j = 0) → wX_hasList_2 post fc cc ck cl cr pc pk pf pt g nx en pn pe fr tk n (nI i) := by
  intro n
  induction n with
  | zero => intro i h1 h2; omega
  | succ n ih =>
    intro i h1 h2 I
    rw [wX_hasList_2]
    refine pk_le 6 i (fun z => H0 ?_) (fun z => ⟨pk_in i 6 z, ?_⟩)
    · intro ⟨g, hg, eg⟩
      exact eg (I g (by omega))
    · have e1 : en (nI i).toNatClampNeg = lh_hv (e i) := lh_rdH hx z (by decide)
      have b := hb i
      rw [e1]
      by_cases c : e i = 0
      · refine br_t ((lh_hv_m1 _ (by omega)).mpr c) (nm_r (nI_1 i) (ih (i + 1) (by omega) (by omega) (fun j hj => ?_)))
        rcases lh_lt_s hj with y | y
        · exact I j y
        · rw [y]; exact c
      · exact br_f (fun z => c ((lh_hv_m1 _ (by omega)).mp z)) (H1 ⟨i, z, c⟩)
theorem lh_x_hasl {post : Int32 → Prop} {e : Nat → Nat} (hb : ∀ x, e x ≤ 6) (hx : lh_Ah 6 en e) (H1 : lh_any6 e → post 1) (H0 : ¬ lh_any6 e → post 0) : wpX_hasList post (fc, cc, ck, cl, cr, pc, pk, pf, pt, g, nx, en, pn, pe, fr, tk) :=
  Exists.intro 7 (lh_x_hasl2 hb hx H1 H0 7 0 (by omega) (by omega) (fun j hj => absurd hj (Nat.not_lt_zero j)))
end
