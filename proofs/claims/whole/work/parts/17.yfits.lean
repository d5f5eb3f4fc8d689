/-! THE REFERENCE: does claim 1 fit -/
section
variable {nl : Int32} {cs ns ps ms dv hd us : Nat → Int32} {C W nc np : Nat → Nat}
theorem lh_y_wc {post : Int32 → SY → Prop} {h : Nat → Nat} {a t n5 m : Nat} {t0 : Nat → Bool} (ha : a < 7) (ht : t < 7) (h5 : n5 < 7) (h50 : h n5 = 0) (hb : lh_bd 7 h) (hx : lh_Ah 7 hd h) (hm : lh_Ab 7 us t0)
    (H1 : h a = t + 1 → t0 a = false → ∀ us, lh_Ab 7 us (lh_mk t0 [a]) → post 1 (nI n5, cs, ns, ps, ms, dv, hd, us)) (H0 : ¬ (h a = t + 1 ∧ t0 a = false) → ∀ us, post 0 (nI n5, cs, ns, ps, ms, dv, hd, us)) : wY_walk_53 post (nI t) 0 (nI n5) (m + 1 + 1) (nI a) 1 cs ns ps ms dv hd us := by
  have e1 : hd (nI a).toNatClampNeg = lh_hv (h a) := lh_rdH hx ha (by decide)
  have e2 : us (nI a).toNatClampNeg = lh_bI (t0 a) := lh_rdB hm ha (by decide)
  have ca : (nI a).toNatClampNeg = a := nI_clamp (by omega)
  have b := hb.2 a
  rw [wY_walk_53]
  refine br_f (by decide) (pk_eq a n5 (fun v => H0 (fun z => ?_) us) (fun v => ⟨pk_in a 7 ha, ?_⟩))
  · rw [v, h50] at z; exact absurd z.1 (by omega)
  · rw [e1, e2]
    by_cases c : h a = 0
    · exact br_t ((lh_hv_neg _ (by omega)).mpr c) (H0 (fun z => by rw [c] at z; exact absurd z.1 (by omega)) us)
    · refine br_f (fun z => c ((lh_hv_neg _ (by omega)).mp z)) ⟨pk_in a 7 ha, ?_⟩
      cases d : t0 a with
      | true => exact br_f (by decide) (H0 (fun z => absurd (d.symm.trans z.2) (by decide)) us)
      | false =>
        refine br_t rfl ⟨pk_in a 7 ha, nm_r (e' := upd us a (lh_bI true)) (by rw [ca, lh_nar1]) ⟨pk_in a 7 ha, nm_r (lh_hv_p c) (br_t rfl ?_)⟩⟩
        have M : lh_Ab 7 us (lh_mk t0 []) := by rw [lh_mk_nil]; exact hm
        rw [wY_walk_53]
        exact br_t rfl (pk_eq (h a - 1) t (fun q => H1 (by omega) d _ (lh_Ab_mk M)) (fun q => H0 (fun z => q (by omega)) _))
theorem lh_y_wl {post : Int32 → SY → Prop} {h : Nat → Nat} {a t n5 : Nat} {t0 : Nat → Bool} (ht : t < 7) (h5 : n5 < 7) (h50 : h n5 = 0) (hb : lh_bd 7 h) (hx : lh_Ah 7 hd h)
    (H1 : ∀ (q : List Nat) (us : Nat → Int32), lh_way h t a t0 q → lh_Ab 7 us (lh_mk t0 q) → post 1 (nI n5, cs, ns, ps, ms, dv, hd, us)) (H0 : (¬ ∃ q, lh_way h t a t0 q) → ∀ us, post 0 (nI n5, cs, ns, ps, ms, dv, hd, us)) :
    ∀ (n y : Nat) (q : List Nat) (us : Nat → Int32), 8 < n + q.length → y ≠ t → y < 7 → lh_beg h t y a t0 q → lh_Ab 7 us (lh_mk t0 q) → wY_walk_53 post (nI t) 1 (nI n5) n (nI y) 1 cs ns ps ms dv hd us := by
  intro n
  induction n with
  | zero =>
    intro y q us h1 _ _ B
    have := lh_beg_len B hb.1
    omega
  | succ n ih =>
    intro y q us h1 yt hy B M
    have ql := lh_beg_len B hb.1
    have e1 : hd (nI y).toNatClampNeg = lh_hv (h y) := lh_rdH hx hy (by decide)
    have e2 : us (nI y).toNatClampNeg = lh_bI (lh_mk t0 q y) := lh_rdB M hy (by decide)
    have cy : (nI y).toNatClampNeg = y := nI_clamp (by omega)
    have b := hb.2 y
    rw [wY_walk_53]
    refine br_f (by decide) (pk_eq y n5 (fun v => H0 (lh_beg_bad B yt (Or.inl (by rw [v]; exact h50))) us) (fun v => ⟨pk_in y 7 hy, ?_⟩))
    rw [e1, e2]
    by_cases c : h y = 0
    · exact br_t ((lh_hv_neg _ (by omega)).mpr c) (H0 (lh_beg_bad B yt (Or.inl c)) us)
    · refine br_f (fun z => c ((lh_hv_neg _ (by omega)).mp z)) ⟨pk_in y 7 hy, ?_⟩
      cases d : lh_mk t0 q y with
      | true => exact br_f (by decide) (H0 (lh_beg_bad B yt (Or.inr d)) us)
      | false =>
        have B' := lh_beg_step B yt c d
        refine br_t rfl ⟨pk_in y 7 hy, nm_r (e' := upd us y (lh_bI true)) (by rw [cy, lh_nar1]) ⟨pk_in y 7 hy, nm_r (lh_hv_p c) (br_f (by decide) (pk_eq (h y - 1) t (fun w => ?_) (fun w => ?_)))⟩⟩
        · obtain ⟨m, rfl⟩ : ∃ m, n = m + 1 := ⟨n - 1, by omega⟩
          rw [wY_walk_53]
          rw [w] at B'
          exact br_t rfl (pk_eq (h y - 1) t (fun _ => H1 (q ++ [y]) _ (lh_beg_end B') (lh_Ab_mk M)) (fun z => absurd w z))
        · refine ih (h y - 1) (q ++ [y]) _ ?_ w (by omega) B' (lh_Ab_mk M)
          rw [List.length_append, List.length_cons, List.length_nil]; omega
theorem lh_y_walk {post : Int32 → SY → Prop} {h : Nat → Nat} {n5 d i : Nat} {t0 : Nat → Bool} (h2 : d < 203) (hi : i < 6) (h5 : n5 < 7) (h50 : h n5 = 0) (hb : lh_bd 7 h) (hx : lh_Ah 7 hd h) (hm : lh_Ab 7 us t0) (S : lh_Sy C W nc np cs ns ps ms dv)
    (H1 : ∀ (r : List Nat) (us : Nat → Int32), lh_one h (fun _ => True) (lh_pa W 1 (lh_E d) i) (lh_pt W 1 (lh_E d) i) (lh_pk W 1 i) t0 r → lh_Ab 7 us (lh_mk t0 r) → post 1 (nI n5, cs, ns, ps, ms, dv, hd, us)) (H0 : (¬ ∃ r, lh_one h (fun _ => True) (lh_pa W 1 (lh_E d) i) (lh_pt W 1 (lh_E d) i) (lh_pk W 1 i) t0 r) → ∀ us, post 0 (nI n5, cs, ns, ps, ms, dv, hd, us)) : wpY_walk post (nI n5, cs, ns, ps, ms, dv, hd, us) (nI d) (nI i) := by
  have hk : W (6 * 1 + i) ≤ 71 := S.2.2.2.2.2.2.1 _
  have e1 : ps (nI (6 * 1 + i)).toNatClampNeg = nI (W (6 * 1 + i)) := lh_rdS S.2.2.1 (by omega)
  have e6 : (6 : Int32) + nI i = nI (6 * 1 + i) := nI_add 6 i
  have l1 : lh_pa W 1 (lh_E d) i < 6 := (lh_E_wf d h2).2.1 _
  have l2 : lh_pt W 1 (lh_E d) i < 6 := (lh_E_wf d h2).2.1 _
  refine lh_y_from (s := 1) (by decide) h2 hi S (lh_y_to (s := 1) (by decide) h2 hi S (lh_y_emp (s := 1) (by decide) h2 hi S (fun y => br_f (by decide) ?_) (fun y => br_t rfl ?_)))
  · refine H1 [] us ?_ (by rw [lh_mk_nil]; exact hm)
    rw [y.1, y.2]
    exact lh_one_empty
  · rw [e6, e1]
    refine ⟨pk_in (6 * 1 + i) 12 (by omega), ?_⟩
    by_cases c : W (6 * 1 + i) < 36
    · have kf : lh_pk W 1 i = false := lh_pk_f (by omega)
      rw [kf] at H1 H0
      exact br_t ((lh_lt36 _ (by omega)).mpr c) ⟨0 + 1 + 1, lh_y_wc (by omega) (by omega) h5 h50 hb hx hm (fun a1 a2 us M => H1 _ us (lh_one_cell.mpr ⟨rfl, a1, trivial, a2⟩) M) (fun z us => H0 (fun ⟨r, R⟩ => z ⟨(lh_one_cell.mp R).2.1, (lh_one_cell.mp R).2.2.2⟩) us)⟩
    · have kt : lh_pk W 1 i = true := lh_pk_t (by omega)
      rw [kt] at H1 H0 y
      exact br_f (fun z => c ((lh_lt36 _ (by omega)).mp z)) ⟨9, lh_y_wl (by omega) h5 h50 hb hx (fun q us w M => H1 q us (lh_one_list.mpr w) M) (fun z us => H0 (lh_no_one z) us) 9 _ [] us (by decide) (fun z => y ⟨rfl, z⟩) (by omega) lh_beg0 (by rw [lh_mk_nil]; exact hm)⟩
theorem lh_y_f63 {post : Int32 → SY → Prop} {b : Bool} {h : Nat → Nat} {t0 : Nat → Bool} (hb : lh_bd 7 h) (hx : lh_Ah 7 hd h) (hm : lh_Ab 7 us t0) (H1 : (b = true → ∀ g, h g ≠ 0 → t0 g = true) → post 1 (nl, cs, ns, ps, ms, dv, hd, us)) (H0 : ¬ (b = true → ∀ g, h g ≠ 0 → t0 g = true) → post 0 (nl, cs, ns, ps, ms, dv, hd, us)) : ∀ (n i : Nat), 7 < n + i → i ≤ 7 → (b = true → ∀ g, g < i → h g ≠ 0 → t0 g = true) → wY_fits_63 post (lh_bI (!b)) nl cs ns ps ms dv hd us n (nI i) := by
  intro n
  induction n with
  | zero => intro i h1 h2; omega
  | succ n ih =>
    intro i h1 h2 I
    rw [wY_fits_63]
    refine pk_le 7 i (fun z => H1 (fun y g hg => I y g (by have := hb.1 g hg; omega) hg)) (fun z => ⟨pk_in i 7 z, ?_⟩)
    have e1 : hd (nI i).toNatClampNeg = lh_hv (h i) := lh_rdH hx z (by decide)
    have e2 : us (nI i).toNatClampNeg = lh_bI (t0 i) := lh_rdB hm z (by decide)
    have b7 := hb.2 i
    have next : (b = true → h i ≠ 0 → t0 i = true) → wY_fits_63 post (lh_bI (!b)) nl cs ns ps ms dv hd us n (nI (i + 1)) := fun c => ih (i + 1) (by omega) (by omega) (fun y j hj => by
      rcases lh_lt_s hj with v | v
      · exact I y j v
      · rw [v]; exact c y)
    rw [e1, e2]
    by_cases c : h i = 0
    · exact br_t ((lh_hv_neg _ (by omega)).mpr c) (nm_r (nI_1 i) (next (fun _ y => absurd c y)))
    · refine br_f (fun y => c ((lh_hv_neg _ (by omega)).mp y)) ⟨pk_in i 7 z, ?_⟩
      cases d : t0 i with
      | true => exact br_f (by decide) (nm_r (nI_1 i) (next (fun _ _ => d)))
      | false =>
        cases b with
        | true => exact br_t rfl (br_t rfl (H0 (fun y => absurd (d.symm.trans (y rfl i c)) (by decide))))
        | false => exact br_t rfl (br_f (by decide) (nm_r (nI_1 i) (next (fun y => absurd y (by decide)))))
theorem lh_y_f34 {post : Int32 → SY → Prop} {b : Bool} {h : Nat → Nat} {n5 d : Nat} (h2 : d < 203) (h5 : n5 < 7) (h50 : h n5 = 0) (hb : lh_bd 7 h) (hx : lh_Ah 7 hd h) (S : lh_Sy C W nc np cs ns ps ms dv)
    (H1 : (∃ q, lh_fit h (fun _ => True) (np 1) (lh_pa W 1 (lh_E d)) (lh_pt W 1 (lh_E d)) (lh_pk W 1) (b = true) q) → ∀ us, post 1 (nI n5, cs, ns, ps, ms, dv, hd, us)) (H0 : (¬ ∃ q, lh_fit h (fun _ => True) (np 1) (lh_pa W 1 (lh_E d)) (lh_pt W 1 (lh_E d)) (lh_pk W 1) (b = true) q) → ∀ us, post 0 (nI n5, cs, ns, ps, ms, dv, hd, us)) :
    ∀ (n i : Nat) (us : Nat → Int32) (t0 : Nat → Bool) (q : Nat → List Nat), np 1 < n + i → i ≤ np 1 → lh_pf h (fun _ => True) i (lh_pa W 1 (lh_E d)) (lh_pt W 1 (lh_E d)) (lh_pk W 1) t0 q → lh_Ab 7 us t0 → wY_fits_34 post (nI d) (lh_bI (!b)) n (nI i) (nI n5) cs ns ps ms dv hd us := by
  have h6 := S.2.2.2.2.2.2.2.2 1
  intro n
  induction n with
  | zero => intro i us t0 q h1 h2; omega
  | succ n ih =>
    intro i us t0 q h1 h2' P M
    rw [wY_fits_34]
    refine pk_le (np 1) i (fun z => ?_) (fun z => ?_) (S.2.2.2.1 1)
    · have ei : i = np 1 := by omega
      rw [ei] at P
      have PE := lh_pf_end (wh := b = true) P
      exact ⟨8, lh_y_f63 hb hx M (fun y => H1 (PE.mpr y) us) (fun y => H0 (fun v => y (PE.mp v)) us) 8 0 (by omega) (by omega) (fun _ j hj => absurd hj (Nat.not_lt_zero j))⟩
    · exact lh_y_walk h2 (by omega) h5 h50 hb hx M S (fun r us R M' => br_f (by decide) (nm_r (nI_1 i) (ih (i + 1) us _ _ (by omega) (by omega) (lh_pf_step P R) M'))) (fun N us => br_t rfl (H0 (lh_pf_fail P z N) us))
theorem lh_y_f13 {post : Int32 → SY → Prop} {x1 x2 : Int32} (H : ∀ us, lh_Ab 7 us (fun _ => false) → ∃ m, wY_fits_34 post x1 x2 m 0 nl cs ns ps ms dv hd us) : ∀ (n i : Nat) (us : Nat → Int32), 7 < n + i → i ≤ 7 → lh_Ab i us (fun _ => false) → wY_fits_13 post x1 x2 nl n (nI i) cs ns ps ms dv hd us := by
  intro n
  induction n with
  | zero => intro i us h1 h2; omega
  | succ n ih =>
    intro i us h1 h2 M
    rw [wY_fits_13]
    refine pk_le 7 i (fun z => ?_) (fun z => ⟨pk_in i 7 z, nm_r (e' := upd us i (lh_bI false)) (by rw [nI_clamp (by omega), lh_nar0]) (nm_r (nI_1 i) (ih (i + 1) _ (by omega) (by omega) (lh_Ab_s M)))⟩)
    have e : i = 7 := by omega
    rw [e] at M
    exact H us M
theorem lh_y_fits {post : Int32 → SY → Prop} {b : Bool} {h : Nat → Nat} {n5 d : Nat} (h2 : d < 203) (h5 : n5 < 7) (h50 : h n5 = 0) (hb : lh_bd 7 h) (hx : lh_Ah 7 hd h) (S : lh_Sy C W nc np cs ns ps ms dv)
    (H1 : lh_yf C W nc np (b = true) (lh_E d) h → ∀ us, post 1 (nI n5, cs, ns, ps, ms, dv, hd, us)) (H0 : ¬ lh_yf C W nc np (b = true) (lh_E d) h → ∀ us, post 0 (nI n5, cs, ns, ps, ms, dv, hd, us)) : wpY_fits post (nI n5, cs, ns, ps, ms, dv, hd, us) (nI d) (lh_bI (!b)) :=
  lh_y_al (s := 1) (nl := nI n5) (hd := hd) (us := us) (post := fun r_1 => (r_1 = 0 → post 0 (nI n5, cs, ns, ps, ms, dv, hd, us)) ∧ (¬ r_1 = 0 → ∃ n13 : Nat, wY_fits_13 post (nI d) (lh_bI (!b)) (nI n5) n13 0 cs ns ps ms dv hd us)) (by decide) h2 S (fun c => br_f (by decide) ⟨8, lh_y_f13 (fun us M => ⟨np 1 + 1, lh_y_f34 h2 h5 h50 hb hx S (fun w us => H1 ⟨c, w⟩ us) (fun w us => H0 (fun z => w z.2) us) (np 1 + 1) 0 us (fun _ => false) (fun _ => []) (by omega) (by omega) lh_pf_0 M⟩) 8 0 us (by omega) (by omega) (fun j hj => absurd hj (Nat.not_lt_zero j))⟩) (fun c => br_t rfl (H0 (fun z => c z.1) us))
theorem lh_y_there2 {post : Int32 → Prop} {d f : Nat} (h2 : d < 203) (hf : f < 7) (S : lh_Sy C W nc np cs ns ps ms dv) (H1 : (∃ a, a < 6 ∧ lh_gf (lh_E d) a = f) → post 1) (H0 : (¬ ∃ a, a < 6 ∧ lh_gf (lh_E d) a = f) → post 0) : ∀ (n i : Nat), 6 < n + i → i ≤ 6 → (∀ a, a < i → lh_gf (lh_E d) a ≠ f) → wY_isThere_2 post (nI d) (nI f) nl cs ns ps ms dv hd us n (nI i) := by
  intro n
  induction n with
  | zero => intro i h1 h2; omega
  | succ n ih =>
    intro i h1 h2' I
    have l1 := (lh_E_wf d h2).2.1 i
    rw [wY_isThere_2]
    refine pk_le 6 i (fun z => H0 ?_) (fun z => lh_y_grp S h2 z (pk_eq (lh_gf (lh_E d) i) f (fun q => H1 ⟨i, z, q⟩) (fun q => nm_r (nI_1 i) (ih (i + 1) (by omega) (by omega) (fun j hj => ?_)))))
    · intro ⟨a, ha, e⟩
      exact I a (by omega) e
    · rcases lh_lt_s hj with v | v
      · exact I j v
      · rw [v]; exact q
theorem lh_y_there {post : Int32 → Prop} {d f : Nat} (h2 : d < 203) (hf : f < 7) (S : lh_Sy C W nc np cs ns ps ms dv) (H1 : (∃ a, a < 6 ∧ lh_gf (lh_E d) a = f) → post 1) (H0 : (¬ ∃ a, a < 6 ∧ lh_gf (lh_E d) a = f) → post 0) : wpY_isThere post (nl, cs, ns, ps, ms, dv, hd, us) (nI d) (nI f) :=
  Exists.intro 7 (lh_y_there2 h2 hf S H1 H0 7 0 (by omega) (by omega) (fun j hj => absurd hj (Nat.not_lt_zero j)))
end
