/-! THE COMPONENT: its small methods -/
def lh_St (C W nc np : Nat → Nat) (cc ck cl cr pc pk pf pt : Nat → Int32) : Prop :=
  ((∀ i, cc i = nI (nc i)) ∧ (∀ i, ck i = nI (C i / 36)) ∧ (∀ i, cl i = nI (C i % 36 / 6)) ∧ (∀ i, cr i = nI (C i % 6))) ∧ ((∀ i, pc i = nI (np i)) ∧ (∀ i, pk i = nI (W i / 36)) ∧ (∀ i, pf i = nI (W i % 36 / 6)) ∧ (∀ i, pt i = nI (W i % 6))) ∧ (∀ i, C i ≤ 71) ∧ (∀ i, W i ≤ 71) ∧ (∀ s, nc s ≤ 8) ∧ (∀ s, np s ≤ 6)
theorem lh_rdS {a : Nat → Int32} {F : Nat → Nat} (h : ∀ i, a i = nI (F i)) {k : Nat} (hk : k < 2 ^ 31) : a (nI k).toNatClampNeg = nI (F k) := by
  rw [nI_clamp hk]; exact h k
theorem lh_rdA {N : Nat} {a : Nat → Int32} {f : Nat → Nat} (h : lh_A N a f) {k : Nat} (hk : k < N) (hN : N < 2 ^ 31) : a (nI k).toNatClampNeg = nI (f k) := by
  rw [nI_clamp (by omega)]; exact h k hk
theorem lh_rdH {N : Nat} {a : Nat → Int32} {f : Nat → Nat} (h : lh_Ah N a f) {k : Nat} (hk : k < N) (hN : N < 2 ^ 31) : a (nI k).toNatClampNeg = lh_hv (f k) := by
  rw [nI_clamp (by omega)]; exact h k hk
theorem lh_rdB {N : Nat} {a : Nat → Int32} {f : Nat → Bool} (h : lh_Ab N a f) {k : Nat} (hk : k < N) (hN : N < 2 ^ 31) : a (nI k).toNatClampNeg = lh_bI (f k) := by
  rw [nI_clamp (by omega)]; exact h k hk
theorem lh_A_s {i : Nat} {a : Nat → Int32} {f : Nat → Nat} (h : lh_A i a f) : lh_A (i + 1) (upd a i (nI (f i))) f := by
  intro j hj
  by_cases e : j = i
  · rw [e, pk_us]
  · rw [pk_un e]; exact h j (by omega)
theorem lh_Ah_s {i : Nat} {a : Nat → Int32} {f : Nat → Nat} (h : lh_Ah i a f) : lh_Ah (i + 1) (upd a i (lh_hv (f i))) f := by
  intro j hj
  by_cases e : j = i
  · rw [e, pk_us]
  · rw [pk_un e]; exact h j (by omega)
theorem lh_Ab_s {i : Nat} {a : Nat → Int32} {f : Nat → Bool} (h : lh_Ab i a f) : lh_Ab (i + 1) (upd a i (lh_bI (f i))) f := by
  intro j hj
  by_cases e : j = i
  · rw [e, pk_us]
  · rw [pk_un e]; exact h j (by omega)
theorem lh_A_set {l : List Nat} {g : Nat → Int32} {k v : Nat} (h : lh_A 6 g (lh_gf l)) (hl : l.length = 6) (hk : k < 6) : lh_A 6 (upd g k (nI v)) (lh_gf (l.set k v)) := by
  intro i hi
  rw [lh_gf_set (by omega)]
  by_cases e : i = k
  · rw [if_pos e, e, pk_us]
  · rw [if_neg e, pk_un e]; exact h i hi
theorem lh_gf_set_lt {l : List Nat} {k v : Nat} (h : ∀ a, lh_gf l a < 6) (hk : k < l.length) (hv : v < 6) : ∀ a, lh_gf (l.set k v) a < 6 := by
  intro a
  rw [lh_gf_set hk]
  by_cases e : a = k
  · rw [if_pos e]; exact hv
  · rw [if_neg e]; exact h a
theorem lh_nar0 : vp_nar .boolean 0 = lh_bI false := by decide
theorem lh_nar1 : vp_nar .boolean 1 = lh_bI true := by decide
theorem lh_01 {r : Int32} (h : r = 0 ∨ r = 1) : narrow .boolean (.int r) = .int r := by
  rcases h with h | h
  · rw [h]; rfl
  · rw [h]; rfl
section
variable {fc : Int32} {cc ck cl cr pc pk pf pt g nx en pn pe fr tk : Nat → Int32} {C W nc np : Nat → Nat} {l : List Nat}
theorem lh_x_claim {post : Int32 → Prop} {x : Int32} (H1 : ∀ s, s < 2 → x = nI s → post 1) (H0 : (¬ ∃ s, s < 2 ∧ x = nI s) → post 0) : wpX_isClaim post x := by
  unfold wpX_isClaim
  rcases lh_arg x (n := 2) (by decide) with ⟨s, hs, e⟩ | h | ⟨h, h2⟩
  · subst e
    exact br_f (nI_pos (by omega)) (br_f (nI_ge (b := 2) hs (by decide)) (H1 s hs rfl))
  · refine br_t h (H0 ?_)
    intro ⟨s, hs, e⟩
    rw [e] at h
    exact nI_pos (by omega) h
  · refine br_f h (br_t (Int32.not_lt.mp h2) (H0 ?_))
    intro ⟨s, hs, e⟩
    rw [e] at h2
    exact h2 (nI_lt hs (by decide))
theorem lh_x_term {post : Int32 → Prop} {x : Int32} (H1 : ∀ s, s < 6 → x = nI s → post 1) (H0 : (¬ ∃ s, s < 6 ∧ x = nI s) → post 0) : wpX_isTerm post x := by
  unfold wpX_isTerm
  rcases lh_arg x (n := 6) (by decide) with ⟨s, hs, e⟩ | h | ⟨h, h2⟩
  · subst e
    exact br_f (nI_pos (by omega)) (br_f (nI_ge (b := 6) hs (by decide)) (H1 s hs rfl))
  · refine br_t h (H0 ?_)
    intro ⟨s, hs, e⟩
    rw [e] at h
    exact nI_pos (by omega) h
  · refine br_f h (br_t (Int32.not_lt.mp h2) (H0 ?_))
    intro ⟨s, hs, e⟩
    rw [e] at h2
    exact h2 (nI_lt hs (by decide))
theorem lh_x_first2 {post : SX → Prop} (H : ∀ g, lh_A 6 g (fun _ => 0) → post (fc, cc, ck, cl, cr, pc, pk, pf, pt, g, nx, en, pn, pe, fr, tk)) : ∀ (n i : Nat) (g : Nat → Int32), 6 < n + i → i ≤ 6 → lh_A i g (fun _ => 0) → wX_firstDivision_2 post fc n (nI i) cc ck cl cr pc pk pf pt g nx en pn pe fr tk := by
  intro n
  induction n with
  | zero => intro i g h1 h2; omega
  | succ n ih =>
    intro i g h1 h2 I
    rw [wX_firstDivision_2]
    refine pk_le 6 i (fun h => H g ?_) (fun h => ⟨pk_in i 6 h, nm_r (e' := upd g i (nI 0)) ?_ (nm_r (nI_1 i) (ih (i + 1) _ (by omega) (by omega) (lh_A_s I)))⟩)
    · have e : i = 6 := by omega
      rw [e] at I; exact I
    · rw [nI_clamp (by omega)]; rfl
theorem lh_D0 (a : Nat) : lh_gf (lh_D 0) a = 0 := by
  match a with
  | 0 => rfl
  | 1 => rfl
  | 2 => rfl
  | 3 => rfl
  | 4 => rfl
  | 5 => rfl
  | a + 6 => rfl
theorem lh_x_first {post : SX → Prop} (H : ∀ g, lh_A 6 g (lh_gf (lh_D 0)) → post (fc, cc, ck, cl, cr, pc, pk, pf, pt, g, nx, en, pn, pe, fr, tk)) : wpX_firstDivision post (fc, cc, ck, cl, cr, pc, pk, pf, pt, g, nx, en, pn, pe, fr, tk) :=
  Exists.intro 7 (lh_x_first2 (fun g hg => H g (fun i hi => by rw [lh_D0]; exact hg i hi)) 7 0 g (by omega) (by omega) (fun i hi => absurd hi (Nat.not_lt_zero i)))
theorem lh_x_gof4 {post : Int32 → Prop} {k : Nat} (hk : k ≤ 6) (hg : lh_A 6 g (lh_gf l)) (hl : ∀ a, lh_gf l a < 6) (H : post (nI (lh_gof l k))) : ∀ (n i : Nat), k < n + i → i ≤ k → wX_groupsOfFirst_4 post (nI k) fc cc ck cl cr pc pk pf pt g nx en pn pe fr tk n (nI (lh_gof l i)) (nI i) := by
  intro n
  induction n with
  | zero => intro i h1 h2; omega
  | succ n ih =>
    intro i h1 h2
    have b := lh_gof_le hl i
    rw [wX_groupsOfFirst_4]
    refine pk_le k i (fun h => ?_) (fun h => pk_le 6 i (fun h' => absurd h' (by omega)) (fun h' => ⟨pk_in i 6 h', ?_⟩))
    · have e : i = k := by omega
      rw [e]; exact H
    · have e : g (nI i).toNatClampNeg = nI (lh_gf l i) := lh_rdA hg (by omega) (by decide)
      have lt := hl i
      by_cases c : lh_gof l i ≤ lh_gf l i
      · have s : lh_gof l (i + 1) = lh_gf l i + 1 := if_pos c
        refine br_f ?_ ⟨pk_in i 6 h', nm_r (e' := nI (lh_gof l (i + 1))) ?_ (nm_r (nI_1 i) (ih (i + 1) (by omega) (by omega)))⟩
        · rw [e]; exact nI_nlt c (by omega)
        · rw [e, nI_1, s]
      · have s : lh_gof l (i + 1) = lh_gof l i := if_neg c
        refine br_t ?_ (nm_r (nI_1 i) ?_)
        · rw [e]; exact nI_lt (by omega) (by omega)
        · have w := ih (i + 1) (by omega) (by omega)
          rw [s] at w; exact w
theorem lh_x_gof {post : Int32 → Prop} {k : Nat} (hk : k ≤ 6) (hg : lh_A 6 g (lh_gf l)) (hl : ∀ a, lh_gf l a < 6) (H : post (nI (lh_gof l k))) : wpX_groupsOfFirst post (fc, cc, ck, cl, cr, pc, pk, pf, pt, g, nx, en, pn, pe, fr, tk) (nI k) :=
  Exists.intro (k + 1) (lh_x_gof4 hk hg hl H (k + 1) 0 (by omega) (by omega))
theorem lh_x_next2 {post : SX → Prop} : ∀ (n i : Nat) (l : List Nat) (g : Nat → Int32), i < n → i ≤ 5 → l.length = 6 → (∀ a, lh_gf l a < 6) → lh_A 6 g (lh_gf l) → (∀ g, lh_A 6 g (lh_gf (lh_ng i l)) → post (fc, cc, ck, cl, cr, pc, pk, pf, pt, g, nx, en, pn, pe, fr, tk)) → wX_nextDivision_2 post fc n (nI i) cc ck cl cr pc pk pf pt g nx en pn pe fr tk := by
  intro n
  induction n with
  | zero => intro i l g h1; omega
  | succ n ih =>
    intro i l g h1 h2 hlen hl hg K
    rw [wX_nextDivision_2]
    cases i with
    | zero => exact br_t (show nI 0 ≤ 0 from by decide) (K g hg)
    | succ i =>
      refine br_f (nI_nle (by omega) (by omega)) ⟨pk_in (i + 1) 6 (by omega), lh_x_gof (k := i + 1) (by omega) hg hl ?_⟩
      have e : g (nI (i + 1)).toNatClampNeg = nI (lh_gf l (i + 1)) := lh_rdA hg (by omega) (by decide)
      have b := lh_gof_le hl (i + 1)
      have lt := hl (i + 1)
      by_cases c : lh_gf l (i + 1) < lh_gof l (i + 1)
      · have s : lh_ng (i + 1) l = l.set (i + 1) (lh_gf l (i + 1) + 1) := if_pos c
        refine br_f ?_ ⟨pk_in (i + 1) 6 (by omega), pk_in (i + 1) 6 (by omega), nm_r (e' := upd g (i + 1) (nI (lh_gf l (i + 1) + 1))) ?_ (K _ ?_)⟩
        · rw [e]; exact nI_ge c (by omega)
        · rw [e, nI_clamp (by omega), nI_1]
        · rw [s]; exact lh_A_set hg hlen (by omega)
      · have s : lh_ng (i + 1) l = lh_ng i (l.set (i + 1) 0) := if_neg c
        refine br_t ?_ ⟨pk_in (i + 1) 6 (by omega), nm_r (e' := upd g (i + 1) (nI 0)) ?_ (nm_r (pk_m1 i) (ih i (l.set (i + 1) 0) _ (by omega) (by omega) (by rw [List.length_set]; exact hlen) (lh_gf_set_lt hl (by omega) (by omega)) (lh_A_set hg hlen (by omega)) ?_))⟩
        · rw [e]; exact nI_le (by omega) (by omega)
        · rw [nI_clamp (by omega)]; rfl
        · rw [← s]; exact K
theorem lh_x_next {post : SX → Prop} (hlen : l.length = 6) (hl : ∀ a, lh_gf l a < 6) (hg : lh_A 6 g (lh_gf l)) (H : ∀ g, lh_A 6 g (lh_gf (lh_ng 5 l)) → post (fc, cc, ck, cl, cr, pc, pk, pf, pt, g, nx, en, pn, pe, fr, tk)) : wpX_nextDivision post (fc, cc, ck, cl, cr, pc, pk, pf, pt, g, nx, en, pn, pe, fr, tk) :=
  Exists.intro 6 (lh_x_next2 6 5 l g (by omega) (by omega) hlen hl hg H)
theorem lh_x_ch2 {post : Int32 → Prop} {s : Nat} (hs : s < 2) (S : lh_St C W nc np cc ck cl cr pc pk pf pt) (hg : lh_A 6 g (lh_gf l)) (hl : ∀ a, lh_gf l a < 6) (H1 : lh_ch C nc s l → post 1) (H0 : ¬ lh_ch C nc s l → post 0) : ∀ (n i : Nat), nc s < n + i → i ≤ nc s → (∀ j, j < i → lh_cok C s l j) → wX_conditionsHold_2 post (nI s) fc cc ck cl cr pc pk pf pt g nx en pn pe fr tk n (nI i) := by
  obtain ⟨⟨s1, s2, s3, s4⟩, _, hC, _, hnc, _⟩ := S
  have h8 := hnc s
  intro n
  induction n with
  | zero => intro i h1 h2; omega
  | succ n ih =>
    intro i h1 h2 I
    have hk : C (8 * s + i) ≤ 71 := hC _
    have e0 : cc (nI s).toNatClampNeg = nI (nc s) := lh_rdS s1 (by omega)
    have e1 : cl (nI (8 * s + i)).toNatClampNeg = nI (C (8 * s + i) % 36 / 6) := lh_rdS s3 (by omega)
    have e2 : cr (nI (8 * s + i)).toNatClampNeg = nI (C (8 * s + i) % 6) := lh_rdS s4 (by omega)
    have e3 : ck (nI (8 * s + i)).toNatClampNeg = nI (C (8 * s + i) / 36) := lh_rdS s2 (by omega)
    have eL : g (cl (nI (8 * s + i)).toNatClampNeg).toNatClampNeg = nI (lh_gf l (C (8 * s + i) % 36 / 6)) := by rw [e1]; exact lh_rdA hg (by omega) (by decide)
    have eR : g (cr (nI (8 * s + i)).toNatClampNeg).toNatClampNeg = nI (lh_gf l (C (8 * s + i) % 6)) := by rw [e2]; exact lh_rdA hg (by omega) (by decide)
    have l1 := hl (C (8 * s + i) % 36 / 6)
    have l2 := hl (C (8 * s + i) % 6)
    rw [wX_conditionsHold_2]
    refine ⟨pk_in s 2 hs, pk_le (nc s) i (fun h => H1 ?_) (fun h => nm_r (lh_s8 s i) ⟨pk_in (8 * s + i) 16 (by omega), ⟨by rw [e1]; exact vp_in_nI (by omega) (by decide), ⟨pk_in (8 * s + i) 16 (by omega), ⟨by rw [e2]; exact vp_in_nI (by omega) (by decide), ?_⟩⟩⟩⟩) e0⟩
    · have e : i = nc s := by omega
      rw [e] at I; exact I
    · rw [eL, eR]
      unfold wX_conditionsHold_49 wX_conditionsHold_67
      rw [e3]
      have next : lh_cok C s l i → wX_conditionsHold_2 post (nI s) fc cc ck cl cr pc pk pf pt g nx en pn pe fr tk n (nI (i + 1)) := fun c => ih (i + 1) (by omega) (by omega) (fun j hj => by
        rcases lh_lt_s hj with z | z
        · exact I j z
        · rw [z]; exact c)
      have bad : ¬ lh_cok C s l i → post 0 := fun c => H0 (fun z => c (z i h))
      refine pk_eq (lh_gf l (C (8 * s + i) % 36 / 6)) (lh_gf l (C (8 * s + i) % 6)) (fun q => ?_) (fun q => ?_)
      · by_cases c : C (8 * s + i) < 36
        · exact ⟨pk_in (8 * s + i) 16 (by omega), br_t ((lh_k0 _ (by omega)).mpr c) (br_t rfl (nm_r (nI_1 i) (next ⟨fun _ => c, fun _ => q⟩)))⟩
        · exact ⟨pk_in (8 * s + i) 16 (by omega), br_f (fun z => c ((lh_k0 _ (by omega)).mp z)) (br_f (by decide) (bad (fun z => c (z.mp q))))⟩
      · by_cases c : C (8 * s + i) < 36
        · exact ⟨pk_in (8 * s + i) 16 (by omega), br_t ((lh_k0 _ (by omega)).mpr c) (br_f (by decide) (bad (fun z => q (z.mpr c))))⟩
        · exact ⟨pk_in (8 * s + i) 16 (by omega), br_f (fun z => c ((lh_k0 _ (by omega)).mp z)) (br_t rfl (nm_r (nI_1 i) (next ⟨fun z => absurd z q, fun z => absurd z c⟩)))⟩
theorem lh_x_ch {post : Int32 → Prop} {s : Nat} (hs : s < 2) (S : lh_St C W nc np cc ck cl cr pc pk pf pt) (hg : lh_A 6 g (lh_gf l)) (hl : ∀ a, lh_gf l a < 6) (H1 : lh_ch C nc s l → post 1) (H0 : ¬ lh_ch C nc s l → post 0) : wpX_conditionsHold post (fc, cc, ck, cl, cr, pc, pk, pf, pt, g, nx, en, pn, pe, fr, tk) (nI s) :=
  Exists.intro (nc s + 1) (lh_x_ch2 hs S hg hl H1 H0 (nc s + 1) 0 (by omega) (by omega) (fun j hj => absurd hj (Nat.not_lt_zero j)))
end
