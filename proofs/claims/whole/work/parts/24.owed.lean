/-! WHAT IS OWED: the last questions -/
theorem i_vc_least {k : Nat} {u : SX} {v : SY} (I : i_Rel k u v) (hk : k + 4 ≤ 2048) (v1 : Int32) : wpX_least (fun r u' => wpY_least (fun r' v' => r' = r ∧ i_Rel (k + 4) u' v') v v1) u v1 := by
  obtain ⟨fc, cc, ck, cl, cr, pc, pk, pf, pt, g, nx, en, pn, pe, fr, tk⟩ := u
  obtain ⟨nl, cs, ns, ps, ms, dv, hd, us⟩ := v
  obtain ⟨C, W, nc, np, S, Y⟩ := I
  refine lh_x_g1 (fun s hs e => ?_) (fun h => lh_y_g1 (nl := nl) (cs := cs) (ns := ns) (ps := ps) (ms := ms) (dv := dv) (hd := hd) (us := us) (fun s hs e => absurd ⟨s, hs, e⟩ h) (fun _ => ⟨rfl, lh_mkR S Y⟩))
  subst e
  have G : lh_g1 (nI s) := ⟨s, hs, rfl⟩
  refine lh_x_first (fun g hg => ⟨204, lh_x_least18 hs S (fun o M fc g nx en pn pe fr tk => ?_) 204 0 none fc g nx en pn pe fr tk (by omega) (by omega) hg (fun i hi => absurd hi (Nat.not_lt_zero i)) (fun m e => nomatch e)⟩)
  exact lh_y_g1 (nl := nl) (cs := cs) (ns := ns) (ps := ps) (ms := ms) (dv := dv) (hd := hd) (us := us) (fun _ _ _ => Exists.intro 204 (lh_y_least15 hs Y (fun o' M' nl hd us => ⟨by rw [lh_mn_u ((lh_mn_DE o).mp M) M'], lh_mkR S Y⟩) 204 0 none nl hd us (by omega) (by omega) (fun i hi => absurd hi (Nat.not_lt_zero i)) (fun m e => nomatch e))) (fun h => absurd G h)
theorem i_vc_most {k : Nat} {u : SX} {v : SY} (I : i_Rel k u v) (hk : k + 4 ≤ 2048) (v1 : Int32) : wpX_most (fun r u' => wpY_most (fun r' v' => r' = r ∧ i_Rel (k + 4) u' v') v v1) u v1 := by
  obtain ⟨fc, cc, ck, cl, cr, pc, pk, pf, pt, g, nx, en, pn, pe, fr, tk⟩ := u
  obtain ⟨nl, cs, ns, ps, ms, dv, hd, us⟩ := v
  obtain ⟨C, W, nc, np, S, Y⟩ := I
  refine lh_x_g1 (fun s hs e => ?_) (fun h => lh_y_g1 (nl := nl) (cs := cs) (ns := ns) (ps := ps) (ms := ms) (dv := dv) (hd := hd) (us := us) (fun s hs e => absurd ⟨s, hs, e⟩ h) (fun _ => ⟨rfl, lh_mkR S Y⟩))
  subst e
  have G : lh_g1 (nI s) := ⟨s, hs, rfl⟩
  have R := lh_all2 (P := fun l => lh_B C W nc np s l → ¬ lh_any6 (lh_Q W np s l)) (Q := fun l => lh_B C W nc np s l → ¬ lh_any6 (lh_Q W np s l)) (fun l _ => Iff.rfl)
  refine lh_x_first (fun g hg => ⟨204, lh_x_most18 hs S (fun all o M fc g nx en pn pe fr tk => ?_) (fun all fc g nx en pn pe fr tk => ?_) 204 0 none fc g nx en pn pe fr tk (by omega) (by omega) hg (fun j hj => absurd hj (Nat.not_lt_zero j)) (fun i hi => absurd hi (Nat.not_lt_zero i)) (fun m e => nomatch e)⟩)
  · exact lh_y_g1 (nl := nl) (cs := cs) (ns := ns) (ps := ps) (ms := ms) (dv := dv) (hd := hd) (us := us) (fun _ _ _ => Exists.intro 204 (lh_y_most15 hs Y (fun _ o' M' nl hd us => ⟨by rw [lh_mx_u ((lh_mx_DE o).mp M) M'], lh_mkR S Y⟩) (fun h => absurd (R.mp all) h) 204 0 none nl hd us (by omega) (by omega) (fun j hj => absurd hj (Nat.not_lt_zero j)) (fun i hi => absurd hi (Nat.not_lt_zero i)) (fun m e => nomatch e))) (fun h => absurd G h)
  · exact lh_y_g1 (nl := nl) (cs := cs) (ns := ns) (ps := ps) (ms := ms) (dv := dv) (hd := hd) (us := us) (fun _ _ _ => Exists.intro 204 (lh_y_most15 hs Y (fun h => absurd (R.mpr h) all) (fun _ nl hd us => ⟨rfl, lh_mkR S Y⟩) 204 0 none nl hd us (by omega) (by omega) (fun j hj => absurd hj (Nat.not_lt_zero j)) (fun i hi => absurd hi (Nat.not_lt_zero i)) (fun m e => nomatch e))) (fun h => absurd G h)
theorem i_vc_follows {k : Nat} {u : SX} {v : SY} (I : i_Rel k u v) (hk : k + 4 ≤ 2048) : wpX_follows (fun r u' => wpY_follows (fun r' v' => r' = r ∧ i_Rel (k + 4) u' v') v) u := by
  obtain ⟨fc, cc, ck, cl, cr, pc, pk, pf, pt, g, nx, en, pn, pe, fr, tk⟩ := u
  obtain ⟨nl, cs, ns, ps, ms, dv, hd, us⟩ := v
  obtain ⟨C, W, nc, np, S, Y⟩ := I
  have R := lh_all2 (P := fun l => lh_B C W nc np 0 l → lh_YF C W nc np (true = true) l) (Q := fun l => lh_B C W nc np 0 l → lh_YF C W nc np (true = true) l) (fun l _ => Iff.rfl)
  refine lh_x_first (fun g hg => ⟨204, lh_x_model6 (b := true) S (fun all fc g nx en pn pe fr tk => ⟨rfl, ?_⟩) (fun all fc g nx en pn pe fr tk => ⟨rfl, ?_⟩) 204 0 fc g nx en pn pe fr tk (by omega) (by omega) hg (fun j hj => absurd hj (Nat.not_lt_zero j))⟩)
  · exact Exists.intro 204 (lh_y_all2 (b := true) Y (fun _ nl hd us => ⟨rfl, rfl, lh_mkR S Y⟩) (fun h => absurd (R.mp all) h) 204 0 nl hd us (by omega) (by omega) (fun j hj => absurd hj (Nat.not_lt_zero j)))
  · exact Exists.intro 204 (lh_y_all2 (b := true) Y (fun h => absurd (R.mpr h) all) (fun _ nl hd us => ⟨rfl, rfl, lh_mkR S Y⟩) 204 0 nl hd us (by omega) (by omega) (fun j hj => absurd hj (Nat.not_lt_zero j)))
theorem i_vc_contains {k : Nat} {u : SX} {v : SY} (I : i_Rel k u v) (hk : k + 4 ≤ 2048) : wpX_contains (fun r u' => wpY_contains (fun r' v' => r' = r ∧ i_Rel (k + 4) u' v') v) u := by
  obtain ⟨fc, cc, ck, cl, cr, pc, pk, pf, pt, g, nx, en, pn, pe, fr, tk⟩ := u
  obtain ⟨nl, cs, ns, ps, ms, dv, hd, us⟩ := v
  obtain ⟨C, W, nc, np, S, Y⟩ := I
  have R := lh_all2 (P := fun l => lh_B C W nc np 0 l → lh_YF C W nc np (false = true) l) (Q := fun l => lh_B C W nc np 0 l → lh_YF C W nc np (false = true) l) (fun l _ => Iff.rfl)
  refine lh_x_first (fun g hg => ⟨204, lh_x_model6 (b := false) S (fun all fc g nx en pn pe fr tk => ⟨rfl, ?_⟩) (fun all fc g nx en pn pe fr tk => ⟨rfl, ?_⟩) 204 0 fc g nx en pn pe fr tk (by omega) (by omega) hg (fun j hj => absurd hj (Nat.not_lt_zero j))⟩)
  · exact Exists.intro 204 (lh_y_all2 (b := false) Y (fun _ nl hd us => ⟨rfl, rfl, lh_mkR S Y⟩) (fun h => absurd (R.mp all) h) 204 0 nl hd us (by omega) (by omega) (fun j hj => absurd hj (Nat.not_lt_zero j)))
  · exact Exists.intro 204 (lh_y_all2 (b := false) Y (fun h => absurd (R.mpr h) all) (fun _ nl hd us => ⟨rfl, rfl, lh_mkR S Y⟩) 204 0 nl hd us (by omega) (by omega) (fun j hj => absurd hj (Nat.not_lt_zero j)))
theorem i_vc_together {k : Nat} {u : SX} {v : SY} (I : i_Rel k u v) (hk : k + 4 ≤ 2048) : wpX_together (fun r u' => wpY_together (fun r' v' => r' = r ∧ i_Rel (k + 4) u' v') v) u := by
  obtain ⟨fc, cc, ck, cl, cr, pc, pk, pf, pt, g, nx, en, pn, pe, fr, tk⟩ := u
  obtain ⟨nl, cs, ns, ps, ms, dv, hd, us⟩ := v
  obtain ⟨C, W, nc, np, S, Y⟩ := I
  have R := lh_all2 (P := fun l => ¬ lh_tg C W nc np l) (Q := fun l => ¬ lh_tg C W nc np l) (fun l _ => Iff.rfl)
  refine lh_x_first (fun g hg => ⟨204, lh_x_tog6 S (fun all fc g nx en pn pe fr tk => ?_) (fun all fc g nx en pn pe fr tk => ?_) 204 0 fc g nx en pn pe fr tk (by omega) (by omega) hg (fun j hj => absurd hj (Nat.not_lt_zero j))⟩)
  · exact Exists.intro 204 (lh_y_tog2 Y (fun _ nl hd us => ⟨rfl, lh_mkR S Y⟩) (fun h => absurd (R.mp all) h) 204 0 nl hd us (by omega) (by omega) (fun j hj => absurd hj (Nat.not_lt_zero j)))
  · exact Exists.intro 204 (lh_y_tog2 Y (fun h => absurd (R.mpr h) all) (fun _ nl hd us => ⟨rfl, lh_mkR S Y⟩) 204 0 nl hd us (by omega) (by omega) (fun j hj => absurd hj (Nat.not_lt_zero j)))
