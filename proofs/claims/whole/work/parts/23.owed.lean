/-! WHAT IS OWED: questions -/
theorem i_vc_divisions {k : Nat} {u : SX} {v : SY} (I : i_Rel k u v) (hk : k + 4 ≤ 2048) (v1 : Int32) : wpX_divisions (fun r u' => wpY_divisions (fun r' v' => r' = r ∧ i_Rel (k + 4) u' v') v v1) u v1 := by
  obtain ⟨fc, cc, ck, cl, cr, pc, pk, pf, pt, g, nx, en, pn, pe, fr, tk⟩ := u
  obtain ⟨nl, cs, ns, ps, ms, dv, hd, us⟩ := v
  obtain ⟨C, W, nc, np, S, Y⟩ := I
  refine lh_x_div S (fun s hs e fc g nx en pn pe fr tk => ?_) (fun h => lh_y_g1 (nl := nl) (cs := cs) (ns := ns) (ps := ps) (ms := ms) (dv := dv) (hd := hd) (us := us) (fun s hs e => absurd ⟨s, hs, e⟩ h) (fun _ => ⟨rfl, lh_mkR S Y⟩))
  subst e
  exact lh_y_g1 (nl := nl) (cs := cs) (ns := ns) (ps := ps) (ms := ms) (dv := dv) (hd := hd) (us := us) (fun _ _ _ => ⟨204, lh_y_div14 hs Y (fun nl hd us => ⟨by rw [lh_ct_eq], lh_mkR S Y⟩) 204 0 nl hd us (by omega) (by omega)⟩) (fun h => absurd ⟨s, hs, rfl⟩ h)
theorem i_vc_possible {k : Nat} {u : SX} {v : SY} (I : i_Rel k u v) (hk : k + 4 ≤ 2048) (v1 : Int32) : wpX_possible (fun r u' => wpY_possible (fun r' v' => r' = r ∧ i_Rel (k + 4) u' v') v v1) u v1 := by
  obtain ⟨fc, cc, ck, cl, cr, pc, pk, pf, pt, g, nx, en, pn, pe, fr, tk⟩ := u
  obtain ⟨nl, cs, ns, ps, ms, dv, hd, us⟩ := v
  obtain ⟨C, W, nc, np, S, Y⟩ := I
  unfold wpX_possible
  dsimp only
  refine lh_x_div S (fun s hs e fc g nx en pn pe fr tk => ?_) (fun h => ?_)
  rotate_left
  · exact br_t (show (-1 : Int32) ≤ 0 from by decide) (lh_y_g1 (nl := nl) (cs := cs) (ns := ns) (ps := ps) (ms := ms) (dv := dv) (hd := hd) (us := us) (fun s hs e => absurd ⟨s, hs, e⟩ h) (fun _ => ⟨rfl, lh_mkR S Y⟩))
  subst e
  have Q := lh_ct_pos (G := lh_D) (P := lh_B C W nc np s) 203
  have R := lh_all2 (P := fun l => ¬ lh_B C W nc np s l) (Q := fun l => ¬ lh_B C W nc np s l) (fun l _ => Iff.rfl)
  have b : lh_ct lh_D (lh_Bb (lh_B C W nc np s)) 203 ≤ 203 := lh_ct_le
  refine pk_le (lh_ct lh_D (lh_Bb (lh_B C W nc np s)) 203) 0 (fun z => ?_) (fun z => ?_)
  · have all : ∀ i, i < 203 → (fun l => ¬ lh_B C W nc np s l) (lh_E i) := R.mp (fun i hi B => absurd (Q.mpr ⟨i, hi, B⟩) (by omega))
    exact lh_y_g1 (nl := nl) (cs := cs) (ns := ns) (ps := ps) (ms := ms) (dv := dv) (hd := hd) (us := us) (fun _ _ _ => ⟨204, lh_y_poss12 hs Y (fun _ nl hd us => ⟨rfl, lh_mkR S Y⟩) (fun h => absurd all h) 204 0 nl hd us (by omega) (by omega) (fun j hj => absurd hj (Nat.not_lt_zero j))⟩) (fun h => absurd ⟨s, hs, rfl⟩ h)
  · obtain ⟨i, hi, B⟩ := Q.mp z
    exact lh_y_g1 (nl := nl) (cs := cs) (ns := ns) (ps := ps) (ms := ms) (dv := dv) (hd := hd) (us := us) (fun _ _ _ => ⟨204, lh_y_poss12 hs Y (fun h => absurd B (R.mpr h i hi)) (fun _ nl hd us => ⟨rfl, lh_mkR S Y⟩) 204 0 nl hd us (by omega) (by omega) (fun j hj => absurd hj (Nat.not_lt_zero j))⟩) (fun h => absurd ⟨s, hs, rfl⟩ h)
theorem i_vc_alwaysSame {k : Nat} {u : SX} {v : SY} (I : i_Rel k u v) (hk : k + 4 ≤ 2048) (v1 : Int32) (v2 : Int32) (v3 : Int32) : wpX_alwaysSame (fun r u' => wpY_alwaysSame (fun r' v' => r' = r ∧ i_Rel (k + 4) u' v') v v1 v2 v3) u v1 v2 v3 := by
  obtain ⟨fc, cc, ck, cl, cr, pc, pk, pf, pt, g, nx, en, pn, pe, fr, tk⟩ := u
  obtain ⟨nl, cs, ns, ps, ms, dv, hd, us⟩ := v
  obtain ⟨C, W, nc, np, S, Y⟩ := I
  refine lh_x_g3 (fun s a b hs ha hb e1 e2 e3 => ?_) (fun h => lh_y_g3 (nl := nl) (cs := cs) (ns := ns) (ps := ps) (ms := ms) (dv := dv) (hd := hd) (us := us) (fun s a b hs ha hb e1 e2 e3 => absurd ⟨s, a, b, hs, ha, hb, e1, e2, e3⟩ h) (fun _ => ⟨rfl, lh_mkR S Y⟩))
  subst e1; subst e2; subst e3
  have G : lh_g3 (nI s) (nI a) (nI b) := ⟨s, a, b, hs, ha, hb, rfl, rfl, rfl⟩
  have R := lh_all2 (P := fun l => lh_gf l a ≠ lh_gf l b → ¬ lh_B C W nc np s l) (Q := fun l => ¬ (lh_gf l a = lh_gf l b ↔ true = true) → ¬ lh_B C W nc np s l) (fun l _ => ⟨fun h y => h (fun v => y ⟨fun _ => rfl, fun _ => v⟩), fun h y => h (fun v => y (v.mpr rfl))⟩)
  refine lh_x_first (fun g hg => ⟨204, lh_x_as30 hs ha hb S (fun all fc g nx en pn pe fr tk => ?_) (fun all fc g nx en pn pe fr tk => ?_) 204 0 fc g nx en pn pe fr tk (by omega) (by omega) hg (fun j hj => absurd hj (Nat.not_lt_zero j))⟩)
  · exact lh_y_g3 (nl := nl) (cs := cs) (ns := ns) (ps := ps) (ms := ms) (dv := dv) (hd := hd) (us := us) (fun _ _ _ _ _ _ _ _ _ => Exists.intro 204 (lh_y_alw3 (wt := true) hs ha hb Y (fun _ nl hd us => br_f (by decide) ⟨rfl, lh_mkR S Y⟩) (fun h => absurd (R.mp all) h) 204 0 nl hd us (by omega) (by omega) (fun j hj => absurd hj (Nat.not_lt_zero j)))) (fun h => absurd G h)
  · exact lh_y_g3 (nl := nl) (cs := cs) (ns := ns) (ps := ps) (ms := ms) (dv := dv) (hd := hd) (us := us) (fun _ _ _ _ _ _ _ _ _ => Exists.intro 204 (lh_y_alw3 (wt := true) hs ha hb Y (fun h => absurd (R.mpr h) all) (fun _ nl hd us => br_t rfl ⟨rfl, lh_mkR S Y⟩) 204 0 nl hd us (by omega) (by omega) (fun j hj => absurd hj (Nat.not_lt_zero j)))) (fun h => absurd G h)
theorem i_vc_neverSame {k : Nat} {u : SX} {v : SY} (I : i_Rel k u v) (hk : k + 4 ≤ 2048) (v1 : Int32) (v2 : Int32) (v3 : Int32) : wpX_neverSame (fun r u' => wpY_neverSame (fun r' v' => r' = r ∧ i_Rel (k + 4) u' v') v v1 v2 v3) u v1 v2 v3 := by
  obtain ⟨fc, cc, ck, cl, cr, pc, pk, pf, pt, g, nx, en, pn, pe, fr, tk⟩ := u
  obtain ⟨nl, cs, ns, ps, ms, dv, hd, us⟩ := v
  obtain ⟨C, W, nc, np, S, Y⟩ := I
  refine lh_x_g3 (fun s a b hs ha hb e1 e2 e3 => ?_) (fun h => lh_y_g3 (nl := nl) (cs := cs) (ns := ns) (ps := ps) (ms := ms) (dv := dv) (hd := hd) (us := us) (fun s a b hs ha hb e1 e2 e3 => absurd ⟨s, a, b, hs, ha, hb, e1, e2, e3⟩ h) (fun _ => ⟨rfl, lh_mkR S Y⟩))
  subst e1; subst e2; subst e3
  have G : lh_g3 (nI s) (nI a) (nI b) := ⟨s, a, b, hs, ha, hb, rfl, rfl, rfl⟩
  have R := lh_all2 (P := fun l => lh_gf l a = lh_gf l b → ¬ lh_B C W nc np s l) (Q := fun l => ¬ (lh_gf l a = lh_gf l b ↔ false = true) → ¬ lh_B C W nc np s l) (fun l _ => ⟨fun h y => by
    by_cases v : lh_gf l a = lh_gf l b
    · exact h v
    · exact absurd ⟨fun u => absurd u v, fun u => absurd u (by decide)⟩ y, fun h y => h (fun v => absurd (v.mp y) (by decide))⟩)
  refine lh_x_first (fun g hg => ⟨204, lh_x_ns30 hs ha hb S (fun all fc g nx en pn pe fr tk => ?_) (fun all fc g nx en pn pe fr tk => ?_) 204 0 fc g nx en pn pe fr tk (by omega) (by omega) hg (fun j hj => absurd hj (Nat.not_lt_zero j))⟩)
  · exact lh_y_g3 (nl := nl) (cs := cs) (ns := ns) (ps := ps) (ms := ms) (dv := dv) (hd := hd) (us := us) (fun _ _ _ _ _ _ _ _ _ => Exists.intro 204 (lh_y_alw3 (wt := false) hs ha hb Y (fun _ nl hd us => br_f (by decide) ⟨rfl, lh_mkR S Y⟩) (fun h => absurd (R.mp all) h) 204 0 nl hd us (by omega) (by omega) (fun j hj => absurd hj (Nat.not_lt_zero j)))) (fun h => absurd G h)
  · exact lh_y_g3 (nl := nl) (cs := cs) (ns := ns) (ps := ps) (ms := ms) (dv := dv) (hd := hd) (us := us) (fun _ _ _ _ _ _ _ _ _ => Exists.intro 204 (lh_y_alw3 (wt := false) hs ha hb Y (fun h => absurd (R.mpr h) all) (fun _ nl hd us => br_t rfl ⟨rfl, lh_mkR S Y⟩) 204 0 nl hd us (by omega) (by omega) (fun j hj => absurd hj (Nat.not_lt_zero j)))) (fun h => absurd G h)
theorem i_vc_held {k : Nat} {u : SX} {v : SY} (I : i_Rel k u v) (hk : k + 4 ≤ 2048) (v1 : Int32) (v2 : Int32) : wpX_held (fun r u' => wpY_held (fun r' v' => r' = r ∧ i_Rel (k + 4) u' v') v v1 v2) u v1 v2 := by
  obtain ⟨fc, cc, ck, cl, cr, pc, pk, pf, pt, g, nx, en, pn, pe, fr, tk⟩ := u
  obtain ⟨nl, cs, ns, ps, ms, dv, hd, us⟩ := v
  obtain ⟨C, W, nc, np, S, Y⟩ := I
  refine lh_x_g2 (fun s a hs ha e1 e2 => ?_) (fun h => lh_y_g2 (nl := nl) (cs := cs) (ns := ns) (ps := ps) (ms := ms) (dv := dv) (hd := hd) (us := us) (fun s a hs ha e1 e2 => absurd ⟨s, a, hs, ha, e1, e2⟩ h) (fun _ => ⟨rfl, lh_mkR S Y⟩))
  subst e1; subst e2
  have G : lh_g2 (nI s) (nI a) := ⟨s, a, hs, ha, rfl, rfl⟩
  have R := lh_all2 (P := fun l => lh_B C W nc np s l → lh_H W np s l (lh_gf l a) ≠ 0) (Q := fun l => lh_B C W nc np s l → lh_H W np s l (lh_gf l a) ≠ 0) (fun l _ => Iff.rfl)
  refine lh_x_first (fun g hg => ⟨204, lh_x_held22 hs ha S (fun all fc g nx en pn pe fr tk => ?_) (fun all fc g nx en pn pe fr tk => ?_) 204 0 fc g nx en pn pe fr tk (by omega) (by omega) hg (fun j hj => absurd hj (Nat.not_lt_zero j))⟩)
  · exact lh_y_g2 (nl := nl) (cs := cs) (ns := ns) (ps := ps) (ms := ms) (dv := dv) (hd := hd) (us := us) (fun _ _ _ _ _ _ => Exists.intro 204 (lh_y_held20 hs ha Y (fun _ nl hd us => ⟨rfl, lh_mkR S Y⟩) (fun h => absurd (R.mp all) h) 204 0 nl hd us (by omega) (by omega) (fun j hj => absurd hj (Nat.not_lt_zero j)))) (fun h => absurd G h)
  · exact lh_y_g2 (nl := nl) (cs := cs) (ns := ns) (ps := ps) (ms := ms) (dv := dv) (hd := hd) (us := us) (fun _ _ _ _ _ _ => Exists.intro 204 (lh_y_held20 hs ha Y (fun h => absurd (R.mpr h) all) (fun _ nl hd us => ⟨rfl, lh_mkR S Y⟩) 204 0 nl hd us (by omega) (by omega) (fun j hj => absurd hj (Nat.not_lt_zero j)))) (fun h => absurd G h)
theorem i_vc_reaches {k : Nat} {u : SX} {v : SY} (I : i_Rel k u v) (hk : k + 4 ≤ 2048) (v1 : Int32) (v2 : Int32) (v3 : Int32) : wpX_reaches (fun r u' => wpY_reaches (fun r' v' => r' = r ∧ i_Rel (k + 4) u' v') v v1 v2 v3) u v1 v2 v3 := by
  obtain ⟨fc, cc, ck, cl, cr, pc, pk, pf, pt, g, nx, en, pn, pe, fr, tk⟩ := u
  obtain ⟨nl, cs, ns, ps, ms, dv, hd, us⟩ := v
  obtain ⟨C, W, nc, np, S, Y⟩ := I
  refine lh_x_g3 (fun s a b hs ha hb e1 e2 e3 => ?_) (fun h => lh_y_g3 (nl := nl) (cs := cs) (ns := ns) (ps := ps) (ms := ms) (dv := dv) (hd := hd) (us := us) (fun s a b hs ha hb e1 e2 e3 => absurd ⟨s, a, b, hs, ha, hb, e1, e2, e3⟩ h) (fun _ => ⟨rfl, lh_mkR S Y⟩))
  subst e1; subst e2; subst e3
  have G : lh_g3 (nI s) (nI a) (nI b) := ⟨s, a, b, hs, ha, hb, rfl, rfl, rfl⟩
  have R := lh_all2 (P := fun l => lh_B C W nc np s l → ∃ q, lh_pth (lh_H W np s l) (lh_gf l b) (lh_gf l a) q) (Q := fun l => lh_B C W nc np s l → ∃ q, lh_pth (lh_H W np s l) (lh_gf l b) (lh_gf l a) q) (fun l _ => Iff.rfl)
  refine lh_x_first (fun g hg => ⟨204, lh_x_reach30 hs ha hb S (fun all fc g nx en pn pe fr tk => ?_) (fun all fc g nx en pn pe fr tk => ?_) 204 0 fc g nx en pn pe fr tk (by omega) (by omega) hg (fun j hj => absurd hj (Nat.not_lt_zero j))⟩)
  · exact lh_y_g3 (nl := nl) (cs := cs) (ns := ns) (ps := ps) (ms := ms) (dv := dv) (hd := hd) (us := us) (fun _ _ _ _ _ _ _ _ _ => Exists.intro 204 (lh_y_reach29 hs ha hb Y (fun _ nl hd us => ⟨rfl, lh_mkR S Y⟩) (fun h => absurd (R.mp all) h) 204 0 nl hd us (by omega) (by omega) (fun j hj => absurd hj (Nat.not_lt_zero j)))) (fun h => absurd G h)
  · exact lh_y_g3 (nl := nl) (cs := cs) (ns := ns) (ps := ps) (ms := ms) (dv := dv) (hd := hd) (us := us) (fun _ _ _ _ _ _ _ _ _ => Exists.intro 204 (lh_y_reach29 hs ha hb Y (fun h => absurd (R.mpr h) all) (fun _ nl hd us => ⟨rfl, lh_mkR S Y⟩) 204 0 nl hd us (by omega) (by omega) (fun j hj => absurd hj (Nat.not_lt_zero j)))) (fun h => absurd G h)
