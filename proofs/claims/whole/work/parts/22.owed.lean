/-! WHAT IS OWED -/
theorem i_vc0 : wpX_init (fun u => wpY_init (fun v => i_Rel 0 u v)) := by
  unfold wpX_init
  refine lh_y_init (fun dv h => lh_mkR (C := fun _ => 0) (W := fun _ => 0) (nc := fun _ => 0) (np := fun _ => 0) ?_ ?_)
  · exact ⟨⟨fun _ => rfl, fun _ => congrArg nI (show 0 = 0 / 36 from by decide), fun _ => congrArg nI (show 0 = 0 % 36 / 6 from by decide), fun _ => congrArg nI (show 0 = 0 % 6 from by decide)⟩, ⟨fun _ => rfl, fun _ => congrArg nI (show 0 = 0 / 36 from by decide), fun _ => congrArg nI (show 0 = 0 % 36 / 6 from by decide), fun _ => congrArg nI (show 0 = 0 % 6 from by decide)⟩, fun _ => Nat.zero_le _, fun _ => Nat.zero_le _, fun _ => Nat.zero_le _, fun _ => Nat.zero_le _⟩
  · exact ⟨fun _ => rfl, fun _ => rfl, fun _ => rfl, fun _ => rfl, h, fun _ => Nat.zero_le _, fun _ => Nat.zero_le _, fun _ => Nat.zero_le _, fun _ => Nat.zero_le _⟩
theorem lh_all2 {P Q : List Nat → Prop} (h : ∀ l, lh_wf l → (P l ↔ Q l)) : (∀ i, i < 203 → P (lh_D i)) ↔ ∀ i, i < 203 → Q (lh_E i) := by
  rw [lh_all]
  exact ⟨fun a i hi => (h _ (lh_E_wf i hi)).mp (a i hi), fun a i hi => (h _ (lh_E_wf i hi)).mpr (a i hi)⟩
theorem i_vc_same {k : Nat} {u : SX} {v : SY} (I : i_Rel k u v) (hk : k + 4 ≤ 2048) (v1 : Int32) (v2 : Int32) (v3 : Int32) : wpX_same (fun r u' => wpY_same (fun r' v' => r' = r ∧ i_Rel (k + 4) u' v') v v1 v2 v3) u v1 v2 v3 := by
  obtain ⟨fc, cc, ck, cl, cr, pc, pk, pf, pt, g, nx, en, pn, pe, fr, tk⟩ := u
  obtain ⟨nl, cs, ns, ps, ms, dv, hd, us⟩ := v
  obtain ⟨C, W, nc, np, S, Y⟩ := I
  unfold wpX_same
  dsimp only
  refine lh_x_addc (kd := 0) (by decide) S (fun s a b hs ha hb e1 e2 e3 c cc ck cl cr S' => ?_) (fun s a b hs ha hb e1 e2 e3 c => ?_) (fun h => ?_)
  · subst e1; subst e2; subst e3
    have ew : 6 * nI a + nI b = nI (36 * 0 + 6 * a + b) := by rw [lh_6s]; exact congrArg nI (by omega)
    refine lh_y_g3 (nl := nl) (cs := cs) (ns := ns) (ps := ps) (ms := ms) (dv := dv) (hd := hd) (us := us) (fun _ _ _ _ _ _ _ _ _ => ?_) (fun h => absurd ⟨s, a, b, hs, ha, hb, rfl, rfl, rfl⟩ h)
    rw [ew]
    exact lh_y_addc hs (by omega) Y (fun c' cs ns Y' => ⟨rfl, lh_mkR S' Y'⟩) (fun c' => absurd c' (by omega))
  · subst e1; subst e2; subst e3
    have ew : 6 * nI a + nI b = nI (36 * 0 + 6 * a + b) := by rw [lh_6s]; exact congrArg nI (by omega)
    refine lh_y_g3 (nl := nl) (cs := cs) (ns := ns) (ps := ps) (ms := ms) (dv := dv) (hd := hd) (us := us) (fun _ _ _ _ _ _ _ _ _ => ?_) (fun h => absurd ⟨s, a, b, hs, ha, hb, rfl, rfl, rfl⟩ h)
    rw [ew]
    exact lh_y_addc hs (by omega) Y (fun c' => absurd c' (by omega)) (fun c' => ⟨rfl, lh_mkR S Y⟩)
  · exact lh_y_g3 (nl := nl) (cs := cs) (ns := ns) (ps := ps) (ms := ms) (dv := dv) (hd := hd) (us := us) (fun s a b hs ha hb e1 e2 e3 => absurd ⟨s, a, b, hs, ha, hb, e1, e2, e3⟩ h) (fun _ => ⟨rfl, lh_mkR S Y⟩)
theorem i_vc_other {k : Nat} {u : SX} {v : SY} (I : i_Rel k u v) (hk : k + 4 ≤ 2048) (v1 : Int32) (v2 : Int32) (v3 : Int32) : wpX_other (fun r u' => wpY_other (fun r' v' => r' = r ∧ i_Rel (k + 4) u' v') v v1 v2 v3) u v1 v2 v3 := by
  obtain ⟨fc, cc, ck, cl, cr, pc, pk, pf, pt, g, nx, en, pn, pe, fr, tk⟩ := u
  obtain ⟨nl, cs, ns, ps, ms, dv, hd, us⟩ := v
  obtain ⟨C, W, nc, np, S, Y⟩ := I
  unfold wpX_other
  dsimp only
  refine lh_x_addc (kd := 1) (by decide) S (fun s a b hs ha hb e1 e2 e3 c cc ck cl cr S' => ?_) (fun s a b hs ha hb e1 e2 e3 c => ?_) (fun h => ?_)
  · subst e1; subst e2; subst e3
    have ew : 36 + 6 * nI a + nI b = nI (36 * 1 + 6 * a + b) := by rw [lh_36s]
    refine lh_y_g3 (nl := nl) (cs := cs) (ns := ns) (ps := ps) (ms := ms) (dv := dv) (hd := hd) (us := us) (fun _ _ _ _ _ _ _ _ _ => ?_) (fun h => absurd ⟨s, a, b, hs, ha, hb, rfl, rfl, rfl⟩ h)
    rw [ew]
    exact lh_y_addc hs (by omega) Y (fun c' cs ns Y' => ⟨rfl, lh_mkR S' Y'⟩) (fun c' => absurd c' (by omega))
  · subst e1; subst e2; subst e3
    have ew : 36 + 6 * nI a + nI b = nI (36 * 1 + 6 * a + b) := by rw [lh_36s]
    refine lh_y_g3 (nl := nl) (cs := cs) (ns := ns) (ps := ps) (ms := ms) (dv := dv) (hd := hd) (us := us) (fun _ _ _ _ _ _ _ _ _ => ?_) (fun h => absurd ⟨s, a, b, hs, ha, hb, rfl, rfl, rfl⟩ h)
    rw [ew]
    exact lh_y_addc hs (by omega) Y (fun c' => absurd c' (by omega)) (fun c' => ⟨rfl, lh_mkR S Y⟩)
  · exact lh_y_g3 (nl := nl) (cs := cs) (ns := ns) (ps := ps) (ms := ms) (dv := dv) (hd := hd) (us := us) (fun s a b hs ha hb e1 e2 e3 => absurd ⟨s, a, b, hs, ha, hb, e1, e2, e3⟩ h) (fun _ => ⟨rfl, lh_mkR S Y⟩)
theorem i_vc_cell {k : Nat} {u : SX} {v : SY} (I : i_Rel k u v) (hk : k + 4 ≤ 2048) (v1 : Int32) (v2 : Int32) (v3 : Int32) : wpX_cell (fun r u' => wpY_cell (fun r' v' => r' = r ∧ i_Rel (k + 4) u' v') v v1 v2 v3) u v1 v2 v3 := by
  obtain ⟨fc, cc, ck, cl, cr, pc, pk, pf, pt, g, nx, en, pn, pe, fr, tk⟩ := u
  obtain ⟨nl, cs, ns, ps, ms, dv, hd, us⟩ := v
  obtain ⟨C, W, nc, np, S, Y⟩ := I
  unfold wpX_cell
  dsimp only
  refine lh_x_addp (kd := 0) (by decide) S (fun s a b hs ha hb e1 e2 e3 c pc pk pf pt S' => ?_) (fun s a b hs ha hb e1 e2 e3 c => ?_) (fun h => ?_)
  · subst e1; subst e2; subst e3
    have ew : 6 * nI a + nI b = nI (36 * 0 + 6 * a + b) := by rw [lh_6s]; exact congrArg nI (by omega)
    refine lh_y_g3 (nl := nl) (cs := cs) (ns := ns) (ps := ps) (ms := ms) (dv := dv) (hd := hd) (us := us) (fun _ _ _ _ _ _ _ _ _ => ?_) (fun h => absurd ⟨s, a, b, hs, ha, hb, rfl, rfl, rfl⟩ h)
    rw [ew]
    exact lh_y_addp hs (by omega) Y (fun c' ps ms Y' => ⟨rfl, lh_mkR S' Y'⟩) (fun c' => absurd c' (by omega))
  · subst e1; subst e2; subst e3
    have ew : 6 * nI a + nI b = nI (36 * 0 + 6 * a + b) := by rw [lh_6s]; exact congrArg nI (by omega)
    refine lh_y_g3 (nl := nl) (cs := cs) (ns := ns) (ps := ps) (ms := ms) (dv := dv) (hd := hd) (us := us) (fun _ _ _ _ _ _ _ _ _ => ?_) (fun h => absurd ⟨s, a, b, hs, ha, hb, rfl, rfl, rfl⟩ h)
    rw [ew]
    exact lh_y_addp hs (by omega) Y (fun c' => absurd c' (by omega)) (fun c' => ⟨rfl, lh_mkR S Y⟩)
  · exact lh_y_g3 (nl := nl) (cs := cs) (ns := ns) (ps := ps) (ms := ms) (dv := dv) (hd := hd) (us := us) (fun s a b hs ha hb e1 e2 e3 => absurd ⟨s, a, b, hs, ha, hb, e1, e2, e3⟩ h) (fun _ => ⟨rfl, lh_mkR S Y⟩)
theorem i_vc_list {k : Nat} {u : SX} {v : SY} (I : i_Rel k u v) (hk : k + 4 ≤ 2048) (v1 : Int32) (v2 : Int32) (v3 : Int32) : wpX_list (fun r u' => wpY_list (fun r' v' => r' = r ∧ i_Rel (k + 4) u' v') v v1 v2 v3) u v1 v2 v3 := by
  obtain ⟨fc, cc, ck, cl, cr, pc, pk, pf, pt, g, nx, en, pn, pe, fr, tk⟩ := u
  obtain ⟨nl, cs, ns, ps, ms, dv, hd, us⟩ := v
  obtain ⟨C, W, nc, np, S, Y⟩ := I
  unfold wpX_list
  dsimp only
  refine lh_x_addp (kd := 1) (by decide) S (fun s a b hs ha hb e1 e2 e3 c pc pk pf pt S' => ?_) (fun s a b hs ha hb e1 e2 e3 c => ?_) (fun h => ?_)
  · subst e1; subst e2; subst e3
    have ew : 36 + 6 * nI a + nI b = nI (36 * 1 + 6 * a + b) := by rw [lh_36s]
    refine lh_y_g3 (nl := nl) (cs := cs) (ns := ns) (ps := ps) (ms := ms) (dv := dv) (hd := hd) (us := us) (fun _ _ _ _ _ _ _ _ _ => ?_) (fun h => absurd ⟨s, a, b, hs, ha, hb, rfl, rfl, rfl⟩ h)
    rw [ew]
    exact lh_y_addp hs (by omega) Y (fun c' ps ms Y' => ⟨rfl, lh_mkR S' Y'⟩) (fun c' => absurd c' (by omega))
  · subst e1; subst e2; subst e3
    have ew : 36 + 6 * nI a + nI b = nI (36 * 1 + 6 * a + b) := by rw [lh_36s]
    refine lh_y_g3 (nl := nl) (cs := cs) (ns := ns) (ps := ps) (ms := ms) (dv := dv) (hd := hd) (us := us) (fun _ _ _ _ _ _ _ _ _ => ?_) (fun h => absurd ⟨s, a, b, hs, ha, hb, rfl, rfl, rfl⟩ h)
    rw [ew]
    exact lh_y_addp hs (by omega) Y (fun c' => absurd c' (by omega)) (fun c' => ⟨rfl, lh_mkR S Y⟩)
  · exact lh_y_g3 (nl := nl) (cs := cs) (ns := ns) (ps := ps) (ms := ms) (dv := dv) (hd := hd) (us := us) (fun s a b hs ha hb e1 e2 e3 => absurd ⟨s, a, b, hs, ha, hb, e1, e2, e3⟩ h) (fun _ => ⟨rfl, lh_mkR S Y⟩)
theorem i_vc_drop {k : Nat} {u : SX} {v : SY} (I : i_Rel k u v) (hk : k + 4 ≤ 2048) (v1 : Int32) (v2 : Int32) : wpX_drop (fun r u' => wpY_drop (fun r' v' => r' = r ∧ i_Rel (k + 4) u' v') v v1 v2) u v1 v2 := by
  obtain ⟨fc, cc, ck, cl, cr, pc, pk, pf, pt, g, nx, en, pn, pe, fr, tk⟩ := u
  obtain ⟨nl, cs, ns, ps, ms, dv, hd, us⟩ := v
  obtain ⟨C, W, nc, np, S, Y⟩ := I
  refine lh_x_g1 (fun s hs e => ?_) (fun h => lh_y_g1 (nl := nl) (cs := cs) (ns := ns) (ps := ps) (ms := ms) (dv := dv) (hd := hd) (us := us) (fun s hs e => absurd ⟨s, hs, e⟩ h) (fun _ => ⟨rfl, lh_mkR S Y⟩))
  subst e
  have G : lh_g1 (nI s) := ⟨s, hs, rfl⟩
  by_cases c0 : v2 = 0
  · subst c0
    exact br_t rfl (lh_x_dlc hs S (fun c cc S' => lh_y_g1 (nl := nl) (cs := cs) (ns := ns) (ps := ps) (ms := ms) (dv := dv) (hd := hd) (us := us) (fun _ _ _ => br_t rfl (lh_y_dr0 hs Y (fun c' ns Y' => ⟨rfl, lh_mkR S' Y'⟩) (fun c' => absurd c' c))) (fun h => absurd G h)) (fun c => lh_y_g1 (nl := nl) (cs := cs) (ns := ns) (ps := ps) (ms := ms) (dv := dv) (hd := hd) (us := us) (fun _ _ _ => br_t rfl (lh_y_dr0 hs Y (fun c' => absurd c c') (fun c' => ⟨rfl, lh_mkR S Y⟩))) (fun h => absurd G h)))
  · refine br_f c0 ?_
    by_cases c1 : v2 = 1
    · subst c1
      exact br_t rfl (lh_x_dlp hs S (fun c pc S' => lh_y_g1 (nl := nl) (cs := cs) (ns := ns) (ps := ps) (ms := ms) (dv := dv) (hd := hd) (us := us) (fun _ _ _ => br_f c0 (br_t rfl (lh_y_dr1 hs Y (fun c' ms Y' => ⟨rfl, lh_mkR S' Y'⟩) (fun c' => absurd c' c)))) (fun h => absurd G h)) (fun c => lh_y_g1 (nl := nl) (cs := cs) (ns := ns) (ps := ps) (ms := ms) (dv := dv) (hd := hd) (us := us) (fun _ _ _ => br_f c0 (br_t rfl (lh_y_dr1 hs Y (fun c' => absurd c c') (fun c' => ⟨rfl, lh_mkR S Y⟩)))) (fun h => absurd G h)))
    · exact br_f c1 (lh_y_g1 (nl := nl) (cs := cs) (ns := ns) (ps := ps) (ms := ms) (dv := dv) (hd := hd) (us := us) (fun _ _ _ => br_f c0 (br_f c1 ⟨rfl, lh_mkR S Y⟩)) (fun h => absurd G h))
theorem i_vc_clear {k : Nat} {u : SX} {v : SY} (I : i_Rel k u v) (hk : k + 4 ≤ 2048) (v1 : Int32) : wpX_clear (fun r u' => wpY_clear (fun r' v' => r' = r ∧ i_Rel (k + 4) u' v') v v1) u v1 := by
  obtain ⟨fc, cc, ck, cl, cr, pc, pk, pf, pt, g, nx, en, pn, pe, fr, tk⟩ := u
  obtain ⟨nl, cs, ns, ps, ms, dv, hd, us⟩ := v
  obtain ⟨C, W, nc, np, S, Y⟩ := I
  refine lh_x_g1 (fun s hs e => ?_) (fun h => lh_y_g1 (nl := nl) (cs := cs) (ns := ns) (ps := ps) (ms := ms) (dv := dv) (hd := hd) (us := us) (fun s hs e => absurd ⟨s, hs, e⟩ h) (fun _ => ⟨rfl, lh_mkR S Y⟩))
  subst e
  have G : lh_g1 (nI s) := ⟨s, hs, rfl⟩
  obtain ⟨⟨s1, s2, s3, s4⟩, ⟨p1, p2, p3, p4⟩, hC, hW, hnc, hnp⟩ := S
  obtain ⟨y1, y2, y3, y4, y5, _, _, _, _⟩ := Y
  have cs' : (nI s).toNatClampNeg = s := nI_clamp (by omega)
  have S' : lh_St C W (lh_up nc s 0) (lh_up np s 0) (upd cc s (nI 0)) ck cl cr (upd pc s (nI 0)) pk pf pt := ⟨⟨lh_Pu (F := fun x => x) s1 s 0 rfl, s2, s3, s4⟩, ⟨lh_Pu (F := fun x => x) p1 s 0 rfl, p2, p3, p4⟩, hC, hW, lh_up_lt hnc (Nat.zero_le _), lh_up_lt hnp (Nat.zero_le _)⟩
  have Y' : lh_Sy C W (lh_up nc s 0) (lh_up np s 0) cs (upd ns s (nI 0)) ps (upd ms s (nI 0)) dv := ⟨y1, lh_Pu (F := fun x => x) y2 s 0 rfl, y3, lh_Pu (F := fun x => x) y4 s 0 rfl, y5, hC, hW, lh_up_lt hnc (Nat.zero_le _), lh_up_lt hnp (Nat.zero_le _)⟩
  have eX : cc (nI s).toNatClampNeg + pc (nI s).toNatClampNeg = nI (nc s + np s) := by rw [cs', s1, p1, nI_add]
  have eY : ns (nI s).toNatClampNeg + ms (nI s).toNatClampNeg = nI (nc s + np s) := by rw [cs', y2, y4, nI_add]
  refine ⟨pk_in s 2 hs, pk_in s 2 hs, nm_r eX ⟨pk_in s 2 hs, nm_r (e' := upd cc s (nI 0)) (by rw [cs']; rfl) ⟨pk_in s 2 hs, nm_r (e' := upd pc s (nI 0)) (by rw [cs']; rfl) ?_⟩⟩⟩
  exact lh_y_g1 (nl := nl) (cs := cs) (ns := ns) (ps := ps) (ms := ms) (dv := dv) (hd := hd) (us := us) (fun _ _ _ => ⟨pk_in s 2 hs, pk_in s 2 hs, nm_r eY ⟨pk_in s 2 hs, nm_r (e' := upd ns s (nI 0)) (by rw [cs']; rfl) ⟨pk_in s 2 hs, nm_r (e' := upd ms s (nI 0)) (by rw [cs']; rfl) ⟨rfl, lh_mkR S' Y'⟩⟩⟩⟩) (fun h => absurd G h)
theorem i_vc_swap {k : Nat} {u : SX} {v : SY} (I : i_Rel k u v) (hk : k + 4 ≤ 2048) : wpX_swap (fun u' => wpY_swap (fun v' => i_Rel (k + 4) u' v') v) u := by
  obtain ⟨fc, cc, ck, cl, cr, pc, pk, pf, pt, g, nx, en, pn, pe, fr, tk⟩ := u
  obtain ⟨nl, cs, ns, ps, ms, dv, hd, us⟩ := v
  obtain ⟨C, W, nc, np, S, Y⟩ := I
  exact lh_x_swap S (fun cc ck cl cr pc pk pf pt S' => lh_y_swap Y (fun cs ns ps ms Y' => lh_mkR S' Y'))
