/-! THE REFERENCE: its small methods -/
def lh_Sy (C W nc np : Nat → Nat) (cs ns ps ms dv : Nat → Int32) : Prop :=
  (∀ i, cs i = nI (C i)) ∧ (∀ i, ns i = nI (nc i)) ∧ (∀ i, ps i = nI (W i)) ∧ (∀ i, ms i = nI (np i)) ∧ (∀ j, j < 203 → dv j = nI (lh_Ec j)) ∧ (∀ i, C i ≤ 71) ∧ (∀ i, W i ≤ 71) ∧ (∀ s, nc s ≤ 8) ∧ (∀ s, np s ≤ 6)
section
variable {nl : Int32} {cs ns ps ms dv hd us : Nat → Int32} {C W nc np : Nat → Nat}
theorem lh_y_claim {post : Int32 → Prop} {x : Int32} (H1 : ∀ s, s < 2 → x = nI s → post 1) (H0 : (¬ ∃ s, s < 2 ∧ x = nI s) → post 0) : wpY_isClaim post (nl, cs, ns, ps, ms, dv, hd, us) x := by
  by_cases a : x = 0
  · exact br_t a (H1 0 (by decide) a)
  · by_cases b : x = 1
    · exact br_f a (br_t b (H1 1 (by decide) b))
    · refine br_f a (br_f b (H0 ?_))
      intro ⟨s, hs, e⟩
      have z : s = 0 ∨ s = 1 := by omega
      rcases z with z | z
      · rw [z] at e; exact a e
      · rw [z] at e; exact b e
theorem lh_y_name {post : Int32 → Prop} {x : Int32} (H1 : ∀ s, s < 6 → x = nI s → post 1) (H0 : (¬ ∃ s, s < 6 ∧ x = nI s) → post 0) : wpY_isName post (nl, cs, ns, ps, ms, dv, hd, us) x := by
  rcases lh_arg x (n := 6) (by decide) with ⟨s, hs, e⟩ | h | ⟨h, h2⟩
  · subst e
    exact br_f (nI_pos (by omega)) (br_f (nI_nlt (a := 5) (b := s) (by omega) (by decide)) (H1 s hs rfl))
  · refine br_t h (H0 ?_)
    intro ⟨s, hs, e⟩
    rw [e] at h
    exact nI_pos (by omega) h
  · have n6 : ¬ ∃ s, s < 6 ∧ x = nI s := by
      intro ⟨s, hs, e⟩
      rw [e] at h2
      exact h2 (nI_lt hs (by decide))
    obtain ⟨j, hj, e⟩ := nI_of h
    subst e
    have j6 : 6 ≤ j := by
      by_cases c : 6 ≤ j
      · exact c
      · exact absurd ⟨j, by omega, rfl⟩ n6
    exact br_f h (br_t (nI_lt (a := 5) (b := j) (by omega) hj) (H0 n6))
theorem lh_y_grp {post : Int32 → Prop} {d a : Nat} (S : lh_Sy C W nc np cs ns ps ms dv) (h2 : d < 203) (ha : a < 6) (H : post (nI (lh_gf (lh_E d) a))) : wpY_group post (nl, cs, ns, ps, ms, dv, hd, us) (nI d) (nI a) := by
  have e : ((dv (nI d).toNatClampNeg) >>> ((3 * nI a) &&& 31)) &&& 7 = nI (lh_gf (lh_E d) a) := by
    rw [nI_clamp (by omega), S.2.2.2.2.1 d h2, show (3 : Int32) * nI a = nI (3 * a) from pk_mul 3 a]
    exact lh_sh7 ha (lh_Ec_lt d h2)
  refine And.intro (pk_in d 203 h2) ?_
  rw [e]; exact H
theorem lh_y_al2 {post : Int32 → Prop} {s d : Nat} (hs : s < 2) (h2 : d < 203) (S : lh_Sy C W nc np cs ns ps ms dv) (H1 : lh_ch C nc s (lh_E d) → post 1) (H0 : ¬ lh_ch C nc s (lh_E d) → post 0) : ∀ (n i : Nat), nc s < n + i → i ≤ nc s → (∀ j, j < i → lh_cok C s (lh_E d) j) → wY_allows_2 post (nI s) (nI d) nl cs ns ps ms dv hd us n (nI i) := by
  have h8 := S.2.2.2.2.2.2.2.1 s
  intro n
  induction n with
  | zero => intro i h1 h2; omega
  | succ n ih =>
    intro i h1 h2' I
    have hk : C (8 * s + i) ≤ 71 := S.2.2.2.2.2.1 _
    have e0 : ns (nI s).toNatClampNeg = nI (nc s) := lh_rdS S.2.1 (by omega)
    have e1 : cs (nI (8 * s + i)).toNatClampNeg = nI (C (8 * s + i)) := lh_rdS S.1 (by omega)
    have l1 := (lh_E_wf d h2).2.1 (C (8 * s + i) % 36 / 6)
    have l2 := (lh_E_wf d h2).2.1 (C (8 * s + i) % 6)
    rw [wY_allows_2]
    refine ⟨pk_in s 2 hs, pk_le (nc s) i (fun z => H1 ?_) (fun z => ?_) e0⟩
    · have e : i = nc s := by omega
      rw [e] at I; exact I
    · have next : lh_cok C s (lh_E d) i → wY_allows_2 post (nI s) (nI d) nl cs ns ps ms dv hd us n (nI (i + 1)) := fun c => ih (i + 1) (by omega) (by omega) (fun j hj => by
        rcases lh_lt_s hj with z | z
        · exact I j z
        · rw [z]; exact c)
      have bad : ¬ lh_cok C s (lh_E d) i → post 0 := fun c => H0 (fun y => c (y i z))
      rw [lh_8s]
      refine ⟨pk_in (8 * s + i) 16 (by omega), nm_r e1 ?_⟩
      rw [lh_w36 _ (by omega), lh_w6 _ (by omega)]
      refine ⟨by decide, by decide, lh_y_grp S h2 (by omega) ⟨by decide, lh_y_grp S h2 (by omega) ?_⟩⟩
      refine pk_eq (lh_gf (lh_E d) (C (8 * s + i) % 36 / 6)) (lh_gf (lh_E d) (C (8 * s + i) % 6)) (fun q => ?_) (fun q => ?_)
      · by_cases c : C (8 * s + i) < 36
        · exact br_t ((lh_lt36 _ (by omega)).mpr c) (br_f (by decide) (nm_r (nI_1 i) (next ⟨fun _ => c, fun _ => q⟩)))
        · exact br_f (fun y => c ((lh_lt36 _ (by omega)).mp y)) (br_t rfl (bad (fun y => c (y.mp q))))
      · by_cases c : C (8 * s + i) < 36
        · exact br_t ((lh_lt36 _ (by omega)).mpr c) (br_t rfl (bad (fun y => q (y.mpr c))))
        · exact br_f (fun y => c ((lh_lt36 _ (by omega)).mp y)) (br_f (by decide) (nm_r (nI_1 i) (next ⟨fun y => absurd y q, fun y => absurd y c⟩)))
theorem lh_y_al {post : Int32 → Prop} {s d : Nat} (hs : s < 2) (h2 : d < 203) (S : lh_Sy C W nc np cs ns ps ms dv) (H1 : lh_ch C nc s (lh_E d) → post 1) (H0 : ¬ lh_ch C nc s (lh_E d) → post 0) : wpY_allows post (nl, cs, ns, ps, ms, dv, hd, us) (nI s) (nI d) :=
  Exists.intro (nc s + 1) (lh_y_al2 hs h2 S H1 H0 (nc s + 1) 0 (by omega) (by omega) (fun j hj => absurd hj (Nat.not_lt_zero j)))
theorem lh_y_from {post : Int32 → Prop} {s d i : Nat} (hs : s < 2) (h2 : d < 203) (hi : i < 6) (S : lh_Sy C W nc np cs ns ps ms dv) (H : post (nI (lh_pa W s (lh_E d) i))) : wpY_from post (nl, cs, ns, ps, ms, dv, hd, us) (nI s) (nI d) (nI i) := by
  have hk : W (6 * s + i) ≤ 71 := S.2.2.2.2.2.2.1 _
  have e1 : ps (nI (6 * s + i)).toNatClampNeg = nI (W (6 * s + i)) := lh_rdS S.2.2.1 (by omega)
  unfold wpY_from
  dsimp only
  rw [lh_6s, e1, lh_w36 _ (by omega)]
  exact ⟨pk_in (6 * s + i) 12 (by omega), by decide, by decide, lh_y_grp S h2 (by omega) H⟩
theorem lh_y_to {post : Int32 → Prop} {s d i : Nat} (hs : s < 2) (h2 : d < 203) (hi : i < 6) (S : lh_Sy C W nc np cs ns ps ms dv) (H : post (nI (lh_pt W s (lh_E d) i))) : wpY_to post (nl, cs, ns, ps, ms, dv, hd, us) (nI s) (nI d) (nI i) := by
  have hk : W (6 * s + i) ≤ 71 := S.2.2.2.2.2.2.1 _
  have e1 : ps (nI (6 * s + i)).toNatClampNeg = nI (W (6 * s + i)) := lh_rdS S.2.2.1 (by omega)
  unfold wpY_to
  dsimp only
  rw [lh_6s, e1, lh_w6 _ (by omega)]
  exact ⟨pk_in (6 * s + i) 12 (by omega), by decide, lh_y_grp S h2 (by omega) H⟩
theorem lh_y_emp {post : Int32 → Prop} {s d i : Nat} (hs : s < 2) (h2 : d < 203) (hi : i < 6) (S : lh_Sy C W nc np cs ns ps ms dv) (H1 : (lh_pk W s i = true ∧ lh_pa W s (lh_E d) i = lh_pt W s (lh_E d) i) → post 1) (H0 : ¬ (lh_pk W s i = true ∧ lh_pa W s (lh_E d) i = lh_pt W s (lh_E d) i) → post 0) : wpY_isEmpty post (nl, cs, ns, ps, ms, dv, hd, us) (nI s) (nI d) (nI i) := by
  have hk : W (6 * s + i) ≤ 71 := S.2.2.2.2.2.2.1 _
  have e1 : ps (nI (6 * s + i)).toNatClampNeg = nI (W (6 * s + i)) := lh_rdS S.2.2.1 (by omega)
  have l1 : lh_pa W s (lh_E d) i < 6 := (lh_E_wf d h2).2.1 _
  have l2 : lh_pt W s (lh_E d) i < 6 := (lh_E_wf d h2).2.1 _
  unfold wpY_isEmpty
  dsimp only
  rw [lh_6s, e1]
  refine ⟨pk_in (6 * s + i) 12 (by omega), ?_⟩
  by_cases c : W (6 * s + i) < 36
  · exact br_t ((lh_lt36 _ (by omega)).mpr c) (H0 (fun z => absurd (of_decide_eq_true z.1) (by omega)))
  · exact br_f (fun y => c ((lh_lt36 _ (by omega)).mp y)) (lh_y_from hs h2 hi S (lh_y_to hs h2 hi S (pk_eq (lh_pa W s (lh_E d) i) (lh_pt W s (lh_E d) i) (fun q => H1 ⟨lh_pk_t (by omega), q⟩) (fun q => H0 (fun z => q z.2)))))
theorem lh_y_b44 {post : Int32 → SY → Prop} {s d : Nat} (hs : s < 2) (h2 : d < 203) (S : lh_Sy C W nc np cs ns ps ms dv)
    (H1 : lh_ok W np s (lh_E d) → ∀ hd, lh_Ah 7 hd (lh_H W np s (lh_E d)) → post 1 (nI (lh_gf (lh_E d) 5), cs, ns, ps, ms, dv, hd, us)) (H0 : ¬ lh_ok W np s (lh_E d) → ∀ hd, post 0 (nI (lh_gf (lh_E d) 5), cs, ns, ps, ms, dv, hd, us)) :
    ∀ (n i : Nat) (hd : Nat → Int32), np s < n + i → i ≤ np s → lh_oks (fun _ => 0) (lh_gf (lh_E d) 5) (lh_pa W s (lh_E d)) (lh_pt W s (lh_E d)) (lh_pk W s) i → lh_Ah 7 hd (lh_hp (fun _ => 0) (lh_pa W s (lh_E d)) (lh_pt W s (lh_E d)) (lh_pk W s) i) → wY_build_44 post (nI s) (nI d) (nI (lh_gf (lh_E d) 5)) n (nI i) cs ns ps ms dv hd us := by
  have h6 := S.2.2.2.2.2.2.2.2 s
  intro n
  induction n with
  | zero => intro i hd h1 h2; omega
  | succ n ih =>
    intro i hd h1 h2' O X
    have e0 : ms (nI s).toNatClampNeg = nI (np s) := lh_rdS S.2.2.2.1 (by omega)
    have l1 : lh_pa W s (lh_E d) i < 6 := (lh_E_wf d h2).2.1 _
    have l2 : lh_pt W s (lh_E d) i < 6 := (lh_E_wf d h2).2.1 _
    have l3 : lh_gf (lh_E d) 5 < 6 := (lh_E_wf d h2).2.1 _
    rw [wY_build_44]
    refine ⟨pk_in s 2 hs, pk_le (np s) i (fun z => ?_) (fun z => lh_y_from hs h2 (by omega) S (lh_y_emp hs h2 (by omega) S (fun e => br_f (by decide) (nm_r (nI_1 i) (ih (i + 1) hd (by omega) (by omega) (lh_oks_s O (fun y => absurd e y)) ?_))) (fun e => br_t rfl (pk_eq (lh_pa W s (lh_E d) i) (lh_gf (lh_E d) 5) (fun q => H0 (fun o => (o i z e).1 q) hd) (fun q => ⟨pk_in (lh_pa W s (lh_E d) i) 7 (by omega), ?_⟩))))) e0⟩
    · have e : i = np s := by omega
      rw [e] at O X
      exact H1 O hd X
    · rw [lh_hp_e e]; exact X
    · have e1 : hd (nI (lh_pa W s (lh_E d) i)).toNatClampNeg = lh_hv (lh_hp (fun _ => 0) (lh_pa W s (lh_E d)) (lh_pt W s (lh_E d)) (lh_pk W s) i (lh_pa W s (lh_E d) i)) := lh_rdH X (by omega) (by decide)
      have b : lh_hp (fun _ => 0) (lh_pa W s (lh_E d)) (lh_pt W s (lh_E d)) (lh_pk W s) i (lh_pa W s (lh_E d) i) ≤ 6 := lh_hp_le (fun j _ => (lh_E_wf d h2).2.1 _) (fun _ => Nat.zero_le _) _
      rw [e1]
      by_cases c : lh_hp (fun _ => 0) (lh_pa W s (lh_E d)) (lh_pt W s (lh_E d)) (lh_pk W s) i (lh_pa W s (lh_E d) i) = 0
      · refine br_t ((lh_hv_neg _ (by omega)).mpr c) (lh_y_to hs h2 (by omega) S ⟨pk_in (lh_pa W s (lh_E d) i) 7 (by omega), nm_r (e' := upd hd (lh_pa W s (lh_E d) i) (lh_hv (lh_pt W s (lh_E d) i + 1))) (by rw [nI_clamp (by omega)]; rfl) (nm_r (nI_1 i) (ih (i + 1) _ (by omega) (by omega) (lh_oks_s O (fun _ => ⟨q, c⟩)) ?_))⟩)
        rw [lh_hp_n e]; exact lh_Ah_up X _ _
      · exact br_f (fun y => c ((lh_hv_neg _ (by omega)).mp y)) (H0 (fun o => c (o i z e).2) hd)
theorem lh_y_b12 {post : Int32 → SY → Prop} {s d : Nat} (hs : s < 2) (h2 : d < 203) (S : lh_Sy C W nc np cs ns ps ms dv)
    (H1 : lh_B C W nc np s (lh_E d) → ∀ hd, lh_Ah 7 hd (lh_H W np s (lh_E d)) → post 1 (nI (lh_gf (lh_E d) 5), cs, ns, ps, ms, dv, hd, us)) (H0 : ¬ lh_B C W nc np s (lh_E d) → ∀ (hd : Nat → Int32), post 0 (nI (lh_gf (lh_E d) 5), cs, ns, ps, ms, dv, hd, us)) :
    ∀ (n i : Nat) (hd : Nat → Int32), 7 < n + i → i ≤ 7 → lh_Ah i hd (fun _ => 0) → wY_build_12 post (nI s) (nI d) (nI (lh_gf (lh_E d) 5)) n (nI i) cs ns ps ms dv hd us := by
  intro n
  induction n with
  | zero => intro i hd h1 h2; omega
  | succ n ih =>
    intro i hd h1 h2' X
    rw [wY_build_12]
    refine pk_le 7 i (fun z => ?_) (fun z => ⟨pk_in i 7 z, nm_r (e' := upd hd i (lh_hv 0)) (by rw [nI_clamp (by omega)]; rfl) (nm_r (nI_1 i) (ih (i + 1) _ (by omega) (by omega) (lh_Ah_s X)))⟩)
    have e : i = 7 := by omega
    rw [e] at X
    exact lh_y_al (post := fun r_11 => (r_11 = 0 → post 0 (nI (lh_gf (lh_E d) 5), cs, ns, ps, ms, dv, hd, us)) ∧ (¬ r_11 = 0 → ∃ n44 : Nat, wY_build_44 post (nI s) (nI d) (nI (lh_gf (lh_E d) 5)) n44 0 cs ns ps ms dv hd us)) hs h2 S (fun c => br_f (by decide) ⟨np s + 1, lh_y_b44 hs h2 S (fun o hd X' => H1 ⟨c, o⟩ hd X') (fun o hd => H0 (fun y => o y.2) hd) (np s + 1) 0 hd (by omega) (by omega) (fun j hj => absurd hj (Nat.not_lt_zero j)) X⟩) (fun c => br_t rfl (H0 (fun y => c y.1) hd))
theorem lh_y_build {post : Int32 → SY → Prop} {s d : Nat} (hs : s < 2) (h2 : d < 203) (S : lh_Sy C W nc np cs ns ps ms dv)
    (H1 : lh_B C W nc np s (lh_E d) → ∀ hd, lh_Ah 7 hd (lh_H W np s (lh_E d)) → post 1 (nI (lh_gf (lh_E d) 5), cs, ns, ps, ms, dv, hd, us)) (H0 : ¬ lh_B C W nc np s (lh_E d) → ∀ (hd : Nat → Int32), post 0 (nI (lh_gf (lh_E d) 5), cs, ns, ps, ms, dv, hd, us)) : wpY_build post (nl, cs, ns, ps, ms, dv, hd, us) (nI s) (nI d) :=
  lh_y_grp (a := 5) (nl := nl) (hd := hd) (us := us) (post := fun r_1 => ∃ n12 : Nat, wY_build_12 post (nI s) (nI d) r_1 n12 0 cs ns ps ms dv hd us) S h2 (by decide) ⟨8, lh_y_b12 hs h2 S H1 H0 8 0 hd (by omega) (by omega) (fun j hj => absurd hj (Nat.not_lt_zero j))⟩
theorem lh_y_cells4 {post : Int32 → Prop} {h : Nat → Nat} (hb : ∀ x, h x ≤ 6) (hx : lh_Ah 7 hd h) (H : post (nI (lh_cl h 7))) : ∀ (n i : Nat), 7 < n + i → i ≤ 7 → wY_cells_4 post nl cs ns ps ms dv hd us n (nI (lh_cl h i)) (nI i) := by
  intro n
  induction n with
  | zero => intro i h1 h2; omega
  | succ n ih =>
    intro i h1 h2
    rw [wY_cells_4]
    refine pk_le 7 i (fun z => ?_) (fun z => ⟨pk_in i 7 z, ?_⟩)
    · have e : i = 7 := by omega
      rw [e]; exact H
    · have e1 : hd (nI i).toNatClampNeg = lh_hv (h i) := lh_rdH hx z (by decide)
      have b := hb i
      rw [e1]
      have w := ih (i + 1) (by omega) (by omega)
      by_cases c : h i = 0
      · have s : lh_cl h (i + 1) = lh_cl h i := if_pos c
        rw [s] at w
        exact br_t ((lh_hv_neg _ (by omega)).mpr c) (nm_r (nI_1 i) w)
      · have s : lh_cl h (i + 1) = lh_cl h i + 1 := if_neg c
        rw [s] at w
        exact br_f (fun z => c ((lh_hv_neg _ (by omega)).mp z)) (nm_r (nI_1 _) (nm_r (nI_1 i) w))
theorem lh_y_cells {post : Int32 → Prop} {h : Nat → Nat} (hb : ∀ x, h x ≤ 6) (h6 : h 6 = 0) (hx : lh_Ah 7 hd h) (H : post (nI (lh_cl h 6))) : wpY_cells post (nl, cs, ns, ps, ms, dv, hd, us) :=
  Exists.intro 8 (lh_y_cells4 hb hx (by rw [lh_cl_7 h6]; exact H) 8 0 (by omega) (by omega))
theorem lh_y_cells4' {post : Int32 → Prop} (H : ∀ r, post r) : ∀ (n i : Nat) (x : Int32), 7 < n + i → i ≤ 7 → wY_cells_4 post nl cs ns ps ms dv hd us n x (nI i) := by
  intro n
  induction n with
  | zero => intro i x h1 h2; omega
  | succ n ih =>
    intro i x h1 h2
    rw [wY_cells_4]
    exact pk_le 7 i (fun z => H x) (fun z => ⟨pk_in i 7 z, br_c (fun _ => nm_r (nI_1 i) (ih (i + 1) _ (by omega) (by omega))) (fun _ => nm_e (nm_r (nI_1 i) (ih (i + 1) _ (by omega) (by omega))))⟩)
theorem lh_y_cells' {post : Int32 → Prop} (H : ∀ r, post r) : wpY_cells post (nl, cs, ns, ps, ms, dv, hd, us) := Exists.intro 8 (lh_y_cells4' H 8 0 0 (by omega) (by omega))
theorem lh_y_src4 {post : Int32 → Prop} {h : Nat → Nat} (hb : ∀ x, h x ≤ 6) (hx : lh_Ah 7 hd h) (H : post (nI (lh_src h 7))) : ∀ (n i : Nat), 7 < n + i → i ≤ 7 → wY_sources_4 post nl cs ns ps ms dv hd us n (nI (lh_src h i)) (nI i) := by
  intro n
  induction n with
  | zero => intro i h1 h2; omega
  | succ n ih =>
    intro i h1 h2
    rw [wY_sources_4]
    refine pk_le 7 i (fun z => ?_) (fun z => ⟨pk_in i 7 z, ?_⟩)
    · have e : i = 7 := by omega
      rw [e]; exact H
    · have e1 : hd (nI i).toNatClampNeg = lh_hv (h i) := lh_rdH hx z (by decide)
      have b := hb i
      rw [e1]
      have w := ih (i + 1) (by omega) (by omega)
      by_cases c : h i = 0
      · have s : lh_src h (i + 1) = lh_src h i := if_pos c
        rw [s] at w
        exact br_t ((lh_hv_neg _ (by omega)).mpr c) (nm_r (nI_1 i) w)
      · have s : lh_src h (i + 1) = lh_src h i ||| 2 ^ i := if_neg c
        rw [s] at w
        exact br_f (fun z => c ((lh_hv_neg _ (by omega)).mp z)) (nm_r (by rw [lh_1sh i z, lh_or]) (nm_r (nI_1 i) w))
theorem lh_y_src {post : Int32 → Prop} {h : Nat → Nat} (hb : ∀ x, h x ≤ 6) (hx : lh_Ah 7 hd h) (H : post (nI (lh_src h 7))) : wpY_sources post (nl, cs, ns, ps, ms, dv, hd, us) :=
  Exists.intro 8 (lh_y_src4 hb hx H 8 0 (by omega) (by omega))
theorem lh_y_comes5 {post : Int32 → Prop} {h : Nat → Nat} {a t n5 : Nat} (ht : t < 6) (h5 : n5 < 6) (h50 : h n5 = 0) (hb : lh_bd 6 h) (hx : lh_Ah 7 hd h) (H1 : (∃ q, lh_pth h t a q) → post 1) (H0 : (¬ ∃ q, lh_pth h t a q) → post 0) : ∀ (n i y : Nat) (q : List Nat), 8 < n + i → i ≤ 8 → y < 6 → q.length = i → lh_pre h t y a q → wY_comes_5 post (nI t) (nI n5) cs ns ps ms dv hd us n (nI y) (nI i) := by
  intro n
  induction n with
  | zero => intro i y q h1 h2; omega
  | succ n ih =>
    intro i y q h1 h2 hy ql B
    have e1 : hd (nI y).toNatClampNeg = lh_hv (h y) := lh_rdH hx (by omega) (by decide)
    have b := hb.2 y
    rw [wY_comes_5]
    refine pk_le 8 i (fun z => ?_) (fun z => pk_eq y t (fun w => H1 ⟨q, ?_⟩) (fun w => pk_eq y n5 (fun v => H0 (lh_stop B w (by rw [v]; exact h50))) (fun v => ⟨pk_in y 7 (by omega), ?_⟩)))
    · by_cases w : y = t
      · rw [w] at B
        have k := lh_fewN (lh_pth_nodup q a B) (fun g hg => hb.1 g (lh_pre_cell q a B g hg))
        omega
      · exact H0 (lh_far hb.1 B (by omega) w)
    · rw [w] at B; exact B
    · rw [e1]
      by_cases c : h y = 0
      · exact br_f (fun v => absurd c ((lh_hv_pos _ (by omega)).mp v)) (H0 (lh_stop B w c))
      · exact br_t ((lh_hv_pos _ (by omega)).mpr c) ⟨pk_in y 7 (by omega), nm_r (lh_hv_p c) (nm_r (nI_1 i) (ih (i + 1) (h y - 1) (q ++ [y]) (by omega) (by omega) (by omega) (by rw [List.length_append, ql]; rfl) (lh_pre_snoc w c q a B)))⟩
theorem lh_y_comes {post : Int32 → Prop} {h : Nat → Nat} {a t n5 : Nat} (ha : a < 6) (ht : t < 6) (h5 : n5 < 6) (h50 : h n5 = 0) (hb : lh_bd 6 h) (hx : lh_Ah 7 hd h) (H1 : (∃ q, lh_pth h t a q) → post 1) (H0 : (¬ ∃ q, lh_pth h t a q) → post 0) : wpY_comes post (nI n5, cs, ns, ps, ms, dv, hd, us) (nI a) (nI t) :=
  Exists.intro 9 (lh_y_comes5 ht h5 h50 hb hx H1 H0 9 0 a [] (by omega) (by omega) ha rfl (lh_pre_nil.mpr rfl))
theorem lh_y_hl2 {post : Int32 → Prop} {s d : Nat} (hs : s < 2) (h2 : d < 203) (S : lh_Sy C W nc np cs ns ps ms dv) (H1 : (∃ i, i < np s ∧ lh_pk W s i = true ∧ lh_pa W s (lh_E d) i ≠ lh_pt W s (lh_E d) i) → post 1) (H0 : (¬ ∃ i, i < np s ∧ lh_pk W s i = true ∧ lh_pa W s (lh_E d) i ≠ lh_pt W s (lh_E d) i) → post 0) : ∀ (n i : Nat), np s < n + i → i ≤ np s → (∀ j, j < i → ¬ (lh_pk W s j = true ∧ lh_pa W s (lh_E d) j ≠ lh_pt W s (lh_E d) j)) → wY_hasLists_2 post (nI s) (nI d) nl cs ns ps ms dv hd us n (nI i) := by
  have h6 := S.2.2.2.2.2.2.2.2 s
  intro n
  induction n with
  | zero => intro i h1 h2; omega
  | succ n ih =>
    intro i h1 h2' I
    have hk : W (6 * s + i) ≤ 71 := S.2.2.2.2.2.2.1 _
    have e0 : ms (nI s).toNatClampNeg = nI (np s) := lh_rdS S.2.2.2.1 (by omega)
    have e1 : ps (nI (6 * s + i)).toNatClampNeg = nI (W (6 * s + i)) := lh_rdS S.2.2.1 (by omega)
    rw [wY_hasLists_2]
    refine ⟨pk_in s 2 hs, pk_le (np s) i (fun z => H0 ?_) (fun z => ?_) e0⟩
    · intro ⟨j, hj, a, b⟩
      exact I j (by omega) ⟨a, b⟩
    · have next : ¬ (lh_pk W s i = true ∧ lh_pa W s (lh_E d) i ≠ lh_pt W s (lh_E d) i) → wY_hasLists_2 post (nI s) (nI d) nl cs ns ps ms dv hd us n (nI (i + 1)) := fun c => ih (i + 1) (by omega) (by omega) (fun j hj => by
        rcases lh_lt_s hj with y | y
        · exact I j y
        · rw [y]; exact c)
      rw [lh_6s, e1]
      refine ⟨pk_in (6 * s + i) 12 (by omega), ?_⟩
      by_cases c : W (6 * s + i) < 36
      · exact br_t ((lh_lt36 _ (by omega)).mpr c) (nm_r (nI_1 i) (next (fun y => absurd (of_decide_eq_true y.1) (by omega))))
      · exact br_f (fun y => c ((lh_lt36 _ (by omega)).mp y)) (lh_y_emp hs h2 (by omega) S (fun y => br_f (by decide) (nm_r (nI_1 i) (next (fun v => v.2 y.2)))) (fun y => br_t rfl (H1 ⟨i, z, lh_pk_t (by omega), fun v => y ⟨lh_pk_t (by omega), v⟩⟩)))
theorem lh_y_hl {post : Int32 → Prop} {s d : Nat} (hs : s < 2) (h2 : d < 203) (S : lh_Sy C W nc np cs ns ps ms dv) (ok : lh_ok W np s (lh_E d)) (H1 : lh_any6 (lh_Q W np s (lh_E d)) → post 1) (H0 : ¬ lh_any6 (lh_Q W np s (lh_E d)) → post 0) : wpY_hasLists post (nl, cs, ns, ps, ms, dv, hd, us) (nI s) (nI d) := by
  have w := lh_E_wf d h2
  have q : (∃ i, i < np s ∧ lh_pk W s i = true ∧ lh_pa W s (lh_E d) i ≠ lh_pt W s (lh_E d) i) ↔ lh_any6 (lh_Q W np s (lh_E d)) := by
    constructor
    · intro ⟨i, a, b, c⟩
      exact ⟨lh_pa W s (lh_E d) i, w.2.1 _, (lh_Q_ne ok).mpr ⟨i, a, b, c, rfl⟩⟩
    · intro ⟨g, _, z⟩
      obtain ⟨i, a, b, c, _⟩ := (lh_Q_ne ok).mp z
      exact ⟨i, a, b, c⟩
  exact Exists.intro (np s + 1) (lh_y_hl2 hs h2 S (fun y => H1 (q.mp y)) (fun y => H0 (fun v => y (q.mpr v))) (np s + 1) 0 (by omega) (by omega) (fun j hj => absurd hj (Nat.not_lt_zero j)))
end
