/-! THE RELATION, and the guards of the arguments -/
def i_Rel (k : Nat) (u : SX) (v : SY) : Prop := match u, v with
  | (fc, cc, ck, cl, cr, pc, pk, pf, pt, g, nx, en, pn, pe, fr, tk), (nl, cs, ns, ps, ms, dv, hd, us) => ∃ C W nc np : Nat → Nat, lh_St C W nc np cc ck cl cr pc pk pf pt ∧ lh_Sy C W nc np cs ns ps ms dv
theorem i_up {k : Nat} {u : SX} {v : SY} (h : i_Rel k u v) : i_Rel (k + 4) u v := h
def lh_g1 (x : Int32) : Prop := ∃ s : Nat, s < 2 ∧ x = nI s
def lh_g2 (x y : Int32) : Prop := ∃ s a : Nat, s < 2 ∧ a < 6 ∧ x = nI s ∧ y = nI a
def lh_g3 (x y z : Int32) : Prop := ∃ s a b : Nat, s < 2 ∧ a < 6 ∧ b < 6 ∧ x = nI s ∧ y = nI a ∧ z = nI b
theorem lh_Pu {a : Nat → Int32} {F f : Nat → Nat} (h : ∀ i, a i = nI (F (f i))) (k v : Nat) {x : Int32} (e : x = nI (F v)) : ∀ i, upd a k x i = nI (F (lh_up f k v i)) := by
  intro i
  by_cases c : i = k
  · rw [c, pk_us, lh_up_s]; exact e
  · rw [pk_un c, lh_up_o c]; exact h i
theorem lh_sw_p {a : Nat → Int32} {F f : Nat → Nat} {K i : Nat} (hi : i < K) (h : ∀ j, a j = nI (F (lh_sw K f i j))) : ∀ j, upd (upd a i (a (K + i))) (K + i) (a i) j = nI (F (lh_sw K f (i + 1) j)) := by
  have e : a = fun j => nI (F (lh_sw K f i j)) := funext h
  intro j
  rw [e]
  exact congrFun (lh_sw_s hi) j
theorem lh_pred {n : Nat} (h : n ≠ 0) : nI n - 1 = nI (n - 1) := by
  have e : n = (n - 1) + 1 := by omega
  have q := nI_pred (n - 1)
  rw [← e] at q
  exact q
theorem lh_upd_self {a : Nat → Int32} {k : Nat} : upd a k (a k) = a := by
  funext j
  by_cases e : j = k
  · rw [e, pk_us]
  · rw [pk_un e]
section
variable {fc : Int32} {cc ck cl cr pc pk pf pt g nx en pn pe fr tk : Nat → Int32} {nl : Int32} {cs ns ps ms dv hd us : Nat → Int32} {C W nc np : Nat → Nat}
theorem lh_mkR {k : Nat} (S : lh_St C W nc np cc ck cl cr pc pk pf pt) (Y : lh_Sy C W nc np cs ns ps ms dv) : i_Rel k (fc, cc, ck, cl, cr, pc, pk, pf, pt, g, nx, en, pn, pe, fr, tk) (nl, cs, ns, ps, ms, dv, hd, us) := Exists.intro C ⟨W, nc, np, S, Y⟩
theorem lh_x_g1 {A B : Prop} {x : Int32} (HB : ∀ s, s < 2 → x = nI s → B) (HA : ¬ lh_g1 x → A) : wpX_isClaim (fun r_1 => (r_1 = 0 → A) ∧ (¬ r_1 = 0 → B)) x :=
  lh_x_claim (fun s hs e1 => br_f (by decide) (HB s hs e1)) (fun h => br_t rfl (HA h))
theorem lh_x_g2 {A B : Prop} {x y : Int32} (HB : ∀ s a, s < 2 → a < 6 → x = nI s → y = nI a → B) (HA : ¬ lh_g2 x y → A) : wpX_isClaim (fun r_1 => (r_1 = 0 → A) ∧ (¬ r_1 = 0 → wpX_isTerm (fun r_3 => (r_3 = 0 → A) ∧ (¬ r_3 = 0 → B)) y)) x :=
  lh_x_claim (fun s hs e1 => br_f (by decide) (lh_x_term (fun a ha e2 => br_f (by decide) (HB s a hs ha e1 e2)) (fun h => br_t rfl (HA (fun ⟨_, a, _, ha, _, e⟩ => h ⟨a, ha, e⟩))))) (fun h => br_t rfl (HA (fun ⟨s, _, hs, _, e, _⟩ => h ⟨s, hs, e⟩)))
theorem lh_x_g3 {A B : Prop} {x y z : Int32} (HB : ∀ s a b, s < 2 → a < 6 → b < 6 → x = nI s → y = nI a → z = nI b → B) (HA : ¬ lh_g3 x y z → A) : wpX_isClaim (fun r_1 => (r_1 = 0 → A) ∧ (¬ r_1 = 0 → wpX_isTerm (fun r_3 => (r_3 = 0 → A) ∧ (¬ r_3 = 0 → wpX_isTerm (fun r_5 => (r_5 = 0 → A) ∧ (¬ r_5 = 0 → B)) z)) y)) x :=
  lh_x_claim (fun s hs e1 => br_f (by decide) (lh_x_term (fun a ha e2 => br_f (by decide) (lh_x_term (fun b hb e3 => br_f (by decide) (HB s a b hs ha hb e1 e2 e3)) (fun h => br_t rfl (HA (fun ⟨_, _, b, _, _, hb, _, _, e⟩ => h ⟨b, hb, e⟩))))) (fun h => br_t rfl (HA (fun ⟨_, a, _, _, ha, _, _, e, _⟩ => h ⟨a, ha, e⟩))))) (fun h => br_t rfl (HA (fun ⟨s, _, _, hs, _, _, e, _, _⟩ => h ⟨s, hs, e⟩)))
theorem lh_y_g1 {A B : Prop} {x : Int32} (HB : ∀ s, s < 2 → x = nI s → B) (HA : ¬ lh_g1 x → A) : wpY_isClaim (fun r_1 => (r_1 = 0 → A) ∧ (¬ r_1 = 0 → B)) (nl, cs, ns, ps, ms, dv, hd, us) x :=
  lh_y_claim (fun s hs e1 => br_f (by decide) (HB s hs e1)) (fun h => br_t rfl (HA h))
theorem lh_y_g2 {A B : Prop} {x y : Int32} (HB : ∀ s a, s < 2 → a < 6 → x = nI s → y = nI a → B) (HA : ¬ lh_g2 x y → A) : wpY_isClaim (fun r_1 => (r_1 = 0 → A) ∧ (¬ r_1 = 0 → wpY_isName (fun r_3 => (r_3 = 0 → A) ∧ (¬ r_3 = 0 → B)) (nl, cs, ns, ps, ms, dv, hd, us) y)) (nl, cs, ns, ps, ms, dv, hd, us) x :=
  lh_y_claim (fun s hs e1 => br_f (by decide) (lh_y_name (fun a ha e2 => br_f (by decide) (HB s a hs ha e1 e2)) (fun h => br_t rfl (HA (fun ⟨_, a, _, ha, _, e⟩ => h ⟨a, ha, e⟩))))) (fun h => br_t rfl (HA (fun ⟨s, _, hs, _, e, _⟩ => h ⟨s, hs, e⟩)))
theorem lh_y_g3 {A B : Prop} {x y z : Int32} (HB : ∀ s a b, s < 2 → a < 6 → b < 6 → x = nI s → y = nI a → z = nI b → B) (HA : ¬ lh_g3 x y z → A) : wpY_isClaim (fun r_1 => (r_1 = 0 → A) ∧ (¬ r_1 = 0 → wpY_isName (fun r_3 => (r_3 = 0 → A) ∧ (¬ r_3 = 0 → wpY_isName (fun r_5 => (r_5 = 0 → A) ∧ (¬ r_5 = 0 → B)) (nl, cs, ns, ps, ms, dv, hd, us) z)) (nl, cs, ns, ps, ms, dv, hd, us) y)) (nl, cs, ns, ps, ms, dv, hd, us) x :=
  lh_y_claim (fun s hs e1 => br_f (by decide) (lh_y_name (fun a ha e2 => br_f (by decide) (lh_y_name (fun b hb e3 => br_f (by decide) (HB s a b hs ha hb e1 e2 e3)) (fun h => br_t rfl (HA (fun ⟨_, _, b, _, _, hb, _, _, e⟩ => h ⟨b, hb, e⟩))))) (fun h => br_t rfl (HA (fun ⟨_, a, _, _, ha, _, _, e, _⟩ => h ⟨a, ha, e⟩))))) (fun h => br_t rfl (HA (fun ⟨s, _, _, hs, _, _, e, _, _⟩ => h ⟨s, hs, e⟩)))
theorem lh_x_addc {post : Int32 → SX → Prop} {kd : Nat} {x y z : Int32} (hkd : kd < 2) (S : lh_St C W nc np cc ck cl cr pc pk pf pt)
    (H1 : ∀ s a b, s < 2 → a < 6 → b < 6 → x = nI s → y = nI a → z = nI b → nc s < 8 → ∀ cc ck cl cr, lh_St (lh_up C (8 * s + nc s) (36 * kd + 6 * a + b)) W (lh_up nc s (nc s + 1)) np cc ck cl cr pc pk pf pt → post (nI (nc s + 1)) (fc, cc, ck, cl, cr, pc, pk, pf, pt, g, nx, en, pn, pe, fr, tk))
    (H0 : ∀ s a b, s < 2 → a < 6 → b < 6 → x = nI s → y = nI a → z = nI b → nc s = 8 → post (-2) (fc, cc, ck, cl, cr, pc, pk, pf, pt, g, nx, en, pn, pe, fr, tk)) (HA : ¬ lh_g3 x y z → post (-1) (fc, cc, ck, cl, cr, pc, pk, pf, pt, g, nx, en, pn, pe, fr, tk)) : wpX_addCondition post (fc, cc, ck, cl, cr, pc, pk, pf, pt, g, nx, en, pn, pe, fr, tk) x (nI kd) y z := by
  refine lh_x_g3 (fun s a b hs ha hb e1 e2 e3 => ?_) HA
  subst e1; subst e2; subst e3
  obtain ⟨⟨s1, s2, s3, s4⟩, P, hC, hW, hnc, hnp⟩ := S
  have h8 := hnc s
  have e0 : cc (nI s).toNatClampNeg = nI (nc s) := lh_rdS s1 (by omega)
  refine ⟨pk_in s 2 hs, nm_r e0 (pk_lt (nc s) 8 (fun c => nm_r (lh_s8 s (nc s)) ?_) (fun c => H0 s a b hs ha hb rfl rfl rfl (by omega)))⟩
  have ck' : (nI (8 * s + nc s)).toNatClampNeg = 8 * s + nc s := nI_clamp (by omega)
  have cs' : (nI s).toNatClampNeg = s := nI_clamp (by omega)
  refine ⟨pk_in (8 * s + nc s) 16 (by omega), nm_r (e' := upd ck (8 * s + nc s) (nI kd)) (by rw [ck']) ⟨pk_in (8 * s + nc s) 16 (by omega), nm_r (e' := upd cl (8 * s + nc s) (nI a)) (by rw [ck']) ⟨pk_in (8 * s + nc s) 16 (by omega), nm_r (e' := upd cr (8 * s + nc s) (nI b)) (by rw [ck']) ⟨pk_in s 2 hs, nm_r (e' := upd cc s (nI (nc s + 1))) (by rw [cs', nI_1]) ?_⟩⟩⟩⟩
  rw [nI_1]
  exact H1 s a b hs ha hb rfl rfl rfl c _ _ _ _ ⟨⟨lh_Pu (F := fun x => x) s1 s (nc s + 1) rfl, lh_Pu (F := fun x => x / 36) s2 (8 * s + nc s) (36 * kd + 6 * a + b) (congrArg nI (by omega)), lh_Pu (F := fun x => x % 36 / 6) s3 (8 * s + nc s) (36 * kd + 6 * a + b) (congrArg nI (by omega)), lh_Pu (F := fun x => x % 6) s4 (8 * s + nc s) (36 * kd + 6 * a + b) (congrArg nI (by omega))⟩, P, lh_up_lt hC (by omega), hW, lh_up_lt hnc (by omega), hnp⟩
theorem lh_x_addp {post : Int32 → SX → Prop} {kd : Nat} {x y z : Int32} (hkd : kd < 2) (S : lh_St C W nc np cc ck cl cr pc pk pf pt)
    (H1 : ∀ s a b, s < 2 → a < 6 → b < 6 → x = nI s → y = nI a → z = nI b → np s < 6 → ∀ pc pk pf pt, lh_St C (lh_up W (6 * s + np s) (36 * kd + 6 * a + b)) nc (lh_up np s (np s + 1)) cc ck cl cr pc pk pf pt → post (nI (np s + 1)) (fc, cc, ck, cl, cr, pc, pk, pf, pt, g, nx, en, pn, pe, fr, tk))
    (H0 : ∀ s a b, s < 2 → a < 6 → b < 6 → x = nI s → y = nI a → z = nI b → np s = 6 → post (-2) (fc, cc, ck, cl, cr, pc, pk, pf, pt, g, nx, en, pn, pe, fr, tk)) (HA : ¬ lh_g3 x y z → post (-1) (fc, cc, ck, cl, cr, pc, pk, pf, pt, g, nx, en, pn, pe, fr, tk)) : wpX_addPart post (fc, cc, ck, cl, cr, pc, pk, pf, pt, g, nx, en, pn, pe, fr, tk) x (nI kd) y z := by
  refine lh_x_g3 (fun s a b hs ha hb e1 e2 e3 => ?_) HA
  subst e1; subst e2; subst e3
  obtain ⟨Q, ⟨s1, s2, s3, s4⟩, hC, hW, hnc, hnp⟩ := S
  have h8 := hnp s
  have e0 : pc (nI s).toNatClampNeg = nI (np s) := lh_rdS s1 (by omega)
  refine ⟨pk_in s 2 hs, nm_r e0 (pk_lt (np s) 6 (fun c => nm_r (lh_s6 s (np s)) ?_) (fun c => H0 s a b hs ha hb rfl rfl rfl (by omega)))⟩
  have ck' : (nI (6 * s + np s)).toNatClampNeg = 6 * s + np s := nI_clamp (by omega)
  have cs' : (nI s).toNatClampNeg = s := nI_clamp (by omega)
  refine ⟨pk_in (6 * s + np s) 12 (by omega), nm_r (e' := upd pk (6 * s + np s) (nI kd)) (by rw [ck']) ⟨pk_in (6 * s + np s) 12 (by omega), nm_r (e' := upd pf (6 * s + np s) (nI a)) (by rw [ck']) ⟨pk_in (6 * s + np s) 12 (by omega), nm_r (e' := upd pt (6 * s + np s) (nI b)) (by rw [ck']) ⟨pk_in s 2 hs, nm_r (e' := upd pc s (nI (np s + 1))) (by rw [cs', nI_1]) ?_⟩⟩⟩⟩
  rw [nI_1]
  exact H1 s a b hs ha hb rfl rfl rfl c _ _ _ _ ⟨Q, ⟨lh_Pu (F := fun x => x) s1 s (np s + 1) rfl, lh_Pu (F := fun x => x / 36) s2 (6 * s + np s) (36 * kd + 6 * a + b) (congrArg nI (by omega)), lh_Pu (F := fun x => x % 36 / 6) s3 (6 * s + np s) (36 * kd + 6 * a + b) (congrArg nI (by omega)), lh_Pu (F := fun x => x % 6) s4 (6 * s + np s) (36 * kd + 6 * a + b) (congrArg nI (by omega))⟩, hC, lh_up_lt hW (by omega), hnc, lh_up_lt hnp (by omega)⟩
theorem lh_y_addc {post : Int32 → SY → Prop} {s w : Nat} (hs : s < 2) (hw : w ≤ 71) (Y : lh_Sy C W nc np cs ns ps ms dv) (H1 : nc s < 8 → ∀ cs ns, lh_Sy (lh_up C (8 * s + nc s) w) W (lh_up nc s (nc s + 1)) np cs ns ps ms dv → post (nI (nc s + 1)) (nl, cs, ns, ps, ms, dv, hd, us)) (H0 : nc s = 8 → post (-2) (nl, cs, ns, ps, ms, dv, hd, us)) : wpY_addCondition post (nl, cs, ns, ps, ms, dv, hd, us) (nI s) (nI w) := by
  obtain ⟨y1, y2, y3, y4, y5, hC, hW, hnc, hnp⟩ := Y
  have h8 := hnc s
  have e0 : ns (nI s).toNatClampNeg = nI (nc s) := lh_rdS y2 (by omega)
  have cs' : (nI s).toNatClampNeg = s := nI_clamp (by omega)
  unfold wpY_addCondition
  dsimp only
  rw [e0, lh_8s]
  refine ⟨pk_in s 2 hs, pk_eq (nc s) 8 (fun c => H0 c) (fun c => ⟨pk_in s 2 hs, pk_in (8 * s + nc s) 16 (by omega), nm_r (e' := upd cs (8 * s + nc s) (nI w)) (by rw [nI_clamp (by omega)]) ⟨pk_in s 2 hs, pk_in s 2 hs, nm_r (e' := upd ns s (nI (nc s + 1))) (by rw [cs', nI_1]) ⟨pk_in s 2 hs, ?_⟩⟩⟩)⟩
  rw [cs', pk_us]
  exact H1 (by omega) _ _ ⟨lh_Pu (F := fun x => x) y1 (8 * s + nc s) w rfl, lh_Pu (F := fun x => x) y2 s (nc s + 1) rfl, y3, y4, y5, lh_up_lt hC hw, hW, lh_up_lt hnc (by omega), hnp⟩
theorem lh_y_addp {post : Int32 → SY → Prop} {s w : Nat} (hs : s < 2) (hw : w ≤ 71) (Y : lh_Sy C W nc np cs ns ps ms dv) (H1 : np s < 6 → ∀ ps ms, lh_Sy C (lh_up W (6 * s + np s) w) nc (lh_up np s (np s + 1)) cs ns ps ms dv → post (nI (np s + 1)) (nl, cs, ns, ps, ms, dv, hd, us)) (H0 : np s = 6 → post (-2) (nl, cs, ns, ps, ms, dv, hd, us)) : wpY_addPart post (nl, cs, ns, ps, ms, dv, hd, us) (nI s) (nI w) := by
  obtain ⟨y1, y2, y3, y4, y5, hC, hW, hnc, hnp⟩ := Y
  have h8 := hnp s
  have e0 : ms (nI s).toNatClampNeg = nI (np s) := lh_rdS y4 (by omega)
  have cs' : (nI s).toNatClampNeg = s := nI_clamp (by omega)
  unfold wpY_addPart
  dsimp only
  rw [e0, lh_6s]
  refine ⟨pk_in s 2 hs, pk_eq (np s) 6 (fun c => H0 c) (fun c => ⟨pk_in s 2 hs, pk_in (6 * s + np s) 12 (by omega), nm_r (e' := upd ps (6 * s + np s) (nI w)) (by rw [nI_clamp (by omega)]) ⟨pk_in s 2 hs, pk_in s 2 hs, nm_r (e' := upd ms s (nI (np s + 1))) (by rw [cs', nI_1]) ⟨pk_in s 2 hs, ?_⟩⟩⟩)⟩
  rw [cs', pk_us]
  exact H1 (by omega) _ _ ⟨y1, y2, lh_Pu (F := fun x => x) y3 (6 * s + np s) w rfl, lh_Pu (F := fun x => x) y4 s (np s + 1) rfl, y5, hC, lh_up_lt hW hw, hnc, lh_up_lt hnp (by omega)⟩
theorem lh_x_dlc {post : Int32 → SX → Prop} {s : Nat} (hs : s < 2) (S : lh_St C W nc np cc ck cl cr pc pk pf pt) (H1 : nc s ≠ 0 → ∀ cc, lh_St C W (lh_up nc s (nc s - 1)) np cc ck cl cr pc pk pf pt → post (nI (nc s - 1)) (fc, cc, ck, cl, cr, pc, pk, pf, pt, g, nx, en, pn, pe, fr, tk)) (H0 : nc s = 0 → post (-3) (fc, cc, ck, cl, cr, pc, pk, pf, pt, g, nx, en, pn, pe, fr, tk)) : wpX_dropLast__conditionCount post (fc, cc, ck, cl, cr, pc, pk, pf, pt, g, nx, en, pn, pe, fr, tk) (nI s) := by
  obtain ⟨⟨s1, s2, s3, s4⟩, P, hC, hW, hnc, hnp⟩ := S
  have h8 := hnc s
  have e0 : cc (nI s).toNatClampNeg = nI (nc s) := lh_rdS s1 (by omega)
  have cs' : (nI s).toNatClampNeg = s := nI_clamp (by omega)
  unfold wpX_dropLast__conditionCount
  dsimp only
  rw [e0]
  refine ⟨pk_in s 2 hs, pk_eq (nc s) 0 (fun c => H0 c) (fun c => ⟨pk_in s 2 hs, pk_in s 2 hs, nm_r (e' := upd cc s (nI (nc s - 1))) (by rw [cs', lh_pred c]) ⟨pk_in s 2 hs, ?_⟩⟩)⟩
  rw [cs', pk_us]
  exact H1 c _ ⟨⟨lh_Pu (F := fun x => x) s1 s (nc s - 1) rfl, s2, s3, s4⟩, P, hC, hW, lh_up_lt hnc (by omega), hnp⟩
theorem lh_x_dlp {post : Int32 → SX → Prop} {s : Nat} (hs : s < 2) (S : lh_St C W nc np cc ck cl cr pc pk pf pt) (H1 : np s ≠ 0 → ∀ pc, lh_St C W nc (lh_up np s (np s - 1)) cc ck cl cr pc pk pf pt → post (nI (np s - 1)) (fc, cc, ck, cl, cr, pc, pk, pf, pt, g, nx, en, pn, pe, fr, tk)) (H0 : np s = 0 → post (-3) (fc, cc, ck, cl, cr, pc, pk, pf, pt, g, nx, en, pn, pe, fr, tk)) : wpX_dropLast__partCount post (fc, cc, ck, cl, cr, pc, pk, pf, pt, g, nx, en, pn, pe, fr, tk) (nI s) := by
  obtain ⟨Q, ⟨s1, s2, s3, s4⟩, hC, hW, hnc, hnp⟩ := S
  have h8 := hnp s
  have e0 : pc (nI s).toNatClampNeg = nI (np s) := lh_rdS s1 (by omega)
  have cs' : (nI s).toNatClampNeg = s := nI_clamp (by omega)
  unfold wpX_dropLast__partCount
  dsimp only
  rw [e0]
  refine ⟨pk_in s 2 hs, pk_eq (np s) 0 (fun c => H0 c) (fun c => ⟨pk_in s 2 hs, pk_in s 2 hs, nm_r (e' := upd pc s (nI (np s - 1))) (by rw [cs', lh_pred c]) ⟨pk_in s 2 hs, ?_⟩⟩)⟩
  rw [cs', pk_us]
  exact H1 c _ ⟨Q, ⟨lh_Pu (F := fun x => x) s1 s (np s - 1) rfl, s2, s3, s4⟩, hC, hW, hnc, lh_up_lt hnp (by omega)⟩
theorem lh_y_dr0 {post : Int32 → SY → Prop} {s : Nat} (hs : s < 2) (Y : lh_Sy C W nc np cs ns ps ms dv) (H1 : nc s ≠ 0 → ∀ ns, lh_Sy C W (lh_up nc s (nc s - 1)) np cs ns ps ms dv → post (nI (nc s - 1)) (nl, cs, ns, ps, ms, dv, hd, us)) (H0 : nc s = 0 → post (-3) (nl, cs, ns, ps, ms, dv, hd, us)) : wY_drop_19 post (nI s) 0 nl cs ns ps ms dv hd us := by
  obtain ⟨y1, y2, y3, y4, y5, hC, hW, hnc, hnp⟩ := Y
  have h8 := hnc s
  have e0 : ns (nI s).toNatClampNeg = nI (nc s) := lh_rdS y2 (by omega)
  have cs' : (nI s).toNatClampNeg = s := nI_clamp (by omega)
  unfold wY_drop_19 wY_drop_38 wY_drop_67
  rw [e0]
  refine br_t rfl ⟨pk_in s 2 hs, pk_eq (nc s) 0 (fun c => H0 c) (fun c => br_t rfl ⟨pk_in s 2 hs, nm_r (e' := upd ns s (nI (nc s - 1))) (by rw [cs', lh_pred c]) (br_f (by decide) ⟨pk_in s 2 hs, pk_in s 2 hs, nm_r (e' := ms) (by rw [cs', lh_upd_self]) ?_⟩)⟩)⟩
  rw [lh_pred c]
  exact H1 c _ ⟨y1, lh_Pu (F := fun x => x) y2 s (nc s - 1) rfl, y3, y4, y5, hC, hW, lh_up_lt hnc (by omega), hnp⟩
theorem lh_y_dr1 {post : Int32 → SY → Prop} {s : Nat} (hs : s < 2) (Y : lh_Sy C W nc np cs ns ps ms dv) (H1 : np s ≠ 0 → ∀ ms, lh_Sy C W nc (lh_up np s (np s - 1)) cs ns ps ms dv → post (nI (np s - 1)) (nl, cs, ns, ps, ms, dv, hd, us)) (H0 : np s = 0 → post (-3) (nl, cs, ns, ps, ms, dv, hd, us)) : wY_drop_19 post (nI s) 1 nl cs ns ps ms dv hd us := by
  obtain ⟨y1, y2, y3, y4, y5, hC, hW, hnc, hnp⟩ := Y
  have h8 := hnp s
  have e0 : ms (nI s).toNatClampNeg = nI (np s) := lh_rdS y4 (by omega)
  have cs' : (nI s).toNatClampNeg = s := nI_clamp (by omega)
  unfold wY_drop_19 wY_drop_38 wY_drop_67
  rw [e0]
  refine br_f (by decide) ⟨pk_in s 2 hs, pk_eq (np s) 0 (fun c => H0 c) (fun c => br_f (by decide) ⟨pk_in s 2 hs, pk_in s 2 hs, nm_r (e' := ns) (by rw [cs', lh_upd_self]) (br_t rfl ⟨pk_in s 2 hs, nm_r (e' := upd ms s (nI (np s - 1))) (by rw [cs', lh_pred c]) ?_⟩)⟩)⟩
  rw [lh_pred c]
  exact H1 c _ ⟨y1, y2, y3, lh_Pu (F := fun x => x) y4 s (np s - 1) rfl, y5, hC, hW, hnc, lh_up_lt hnp (by omega)⟩
theorem lh_x_ex_cc {post : SX → Prop} {i j : Nat} (hi : i < 2) (hj : j < 2) (H : post (fc, upd (upd cc i (cc j)) j (cc i), ck, cl, cr, pc, pk, pf, pt, g, nx, en, pn, pe, fr, tk)) : wpX_exchange__conditionCount post (fc, cc, ck, cl, cr, pc, pk, pf, pt, g, nx, en, pn, pe, fr, tk) (nI i) (nI j) := by
  have ci : (nI i).toNatClampNeg = i := nI_clamp (by omega)
  have cj : (nI j).toNatClampNeg = j := nI_clamp (by omega)
  unfold wpX_exchange__conditionCount
  dsimp only
  rw [ci, cj]
  exact ⟨pk_in i 2 hi, nm_e ⟨pk_in j 2 hj, pk_in i 2 hi, nm_e ⟨pk_in j 2 hj, nm_e H⟩⟩⟩
theorem lh_x_ex_ck {post : SX → Prop} {i j : Nat} (hi : i < 16) (hj : j < 16) (H : post (fc, cc, upd (upd ck i (ck j)) j (ck i), cl, cr, pc, pk, pf, pt, g, nx, en, pn, pe, fr, tk)) : wpX_exchange__conditionKind post (fc, cc, ck, cl, cr, pc, pk, pf, pt, g, nx, en, pn, pe, fr, tk) (nI i) (nI j) := by
  have ci : (nI i).toNatClampNeg = i := nI_clamp (by omega)
  have cj : (nI j).toNatClampNeg = j := nI_clamp (by omega)
  unfold wpX_exchange__conditionKind
  dsimp only
  rw [ci, cj]
  exact ⟨pk_in i 16 hi, nm_e ⟨pk_in j 16 hj, pk_in i 16 hi, nm_e ⟨pk_in j 16 hj, nm_e H⟩⟩⟩
theorem lh_x_ex_cl {post : SX → Prop} {i j : Nat} (hi : i < 16) (hj : j < 16) (H : post (fc, cc, ck, upd (upd cl i (cl j)) j (cl i), cr, pc, pk, pf, pt, g, nx, en, pn, pe, fr, tk)) : wpX_exchange__conditionLeft post (fc, cc, ck, cl, cr, pc, pk, pf, pt, g, nx, en, pn, pe, fr, tk) (nI i) (nI j) := by
  have ci : (nI i).toNatClampNeg = i := nI_clamp (by omega)
  have cj : (nI j).toNatClampNeg = j := nI_clamp (by omega)
  unfold wpX_exchange__conditionLeft
  dsimp only
  rw [ci, cj]
  exact ⟨pk_in i 16 hi, nm_e ⟨pk_in j 16 hj, pk_in i 16 hi, nm_e ⟨pk_in j 16 hj, nm_e H⟩⟩⟩
theorem lh_x_ex_cr {post : SX → Prop} {i j : Nat} (hi : i < 16) (hj : j < 16) (H : post (fc, cc, ck, cl, upd (upd cr i (cr j)) j (cr i), pc, pk, pf, pt, g, nx, en, pn, pe, fr, tk)) : wpX_exchange__conditionRight post (fc, cc, ck, cl, cr, pc, pk, pf, pt, g, nx, en, pn, pe, fr, tk) (nI i) (nI j) := by
  have ci : (nI i).toNatClampNeg = i := nI_clamp (by omega)
  have cj : (nI j).toNatClampNeg = j := nI_clamp (by omega)
  unfold wpX_exchange__conditionRight
  dsimp only
  rw [ci, cj]
  exact ⟨pk_in i 16 hi, nm_e ⟨pk_in j 16 hj, pk_in i 16 hi, nm_e ⟨pk_in j 16 hj, nm_e H⟩⟩⟩
theorem lh_x_ex_pc {post : SX → Prop} {i j : Nat} (hi : i < 2) (hj : j < 2) (H : post (fc, cc, ck, cl, cr, upd (upd pc i (pc j)) j (pc i), pk, pf, pt, g, nx, en, pn, pe, fr, tk)) : wpX_exchange__partCount post (fc, cc, ck, cl, cr, pc, pk, pf, pt, g, nx, en, pn, pe, fr, tk) (nI i) (nI j) := by
  have ci : (nI i).toNatClampNeg = i := nI_clamp (by omega)
  have cj : (nI j).toNatClampNeg = j := nI_clamp (by omega)
  unfold wpX_exchange__partCount
  dsimp only
  rw [ci, cj]
  exact ⟨pk_in i 2 hi, nm_e ⟨pk_in j 2 hj, pk_in i 2 hi, nm_e ⟨pk_in j 2 hj, nm_e H⟩⟩⟩
theorem lh_x_ex_pk {post : SX → Prop} {i j : Nat} (hi : i < 12) (hj : j < 12) (H : post (fc, cc, ck, cl, cr, pc, upd (upd pk i (pk j)) j (pk i), pf, pt, g, nx, en, pn, pe, fr, tk)) : wpX_exchange__partKind post (fc, cc, ck, cl, cr, pc, pk, pf, pt, g, nx, en, pn, pe, fr, tk) (nI i) (nI j) := by
  have ci : (nI i).toNatClampNeg = i := nI_clamp (by omega)
  have cj : (nI j).toNatClampNeg = j := nI_clamp (by omega)
  unfold wpX_exchange__partKind
  dsimp only
  rw [ci, cj]
  exact ⟨pk_in i 12 hi, nm_e ⟨pk_in j 12 hj, pk_in i 12 hi, nm_e ⟨pk_in j 12 hj, nm_e H⟩⟩⟩
theorem lh_x_ex_pf {post : SX → Prop} {i j : Nat} (hi : i < 12) (hj : j < 12) (H : post (fc, cc, ck, cl, cr, pc, pk, upd (upd pf i (pf j)) j (pf i), pt, g, nx, en, pn, pe, fr, tk)) : wpX_exchange__partFrom post (fc, cc, ck, cl, cr, pc, pk, pf, pt, g, nx, en, pn, pe, fr, tk) (nI i) (nI j) := by
  have ci : (nI i).toNatClampNeg = i := nI_clamp (by omega)
  have cj : (nI j).toNatClampNeg = j := nI_clamp (by omega)
  unfold wpX_exchange__partFrom
  dsimp only
  rw [ci, cj]
  exact ⟨pk_in i 12 hi, nm_e ⟨pk_in j 12 hj, pk_in i 12 hi, nm_e ⟨pk_in j 12 hj, nm_e H⟩⟩⟩
theorem lh_x_ex_pt {post : SX → Prop} {i j : Nat} (hi : i < 12) (hj : j < 12) (H : post (fc, cc, ck, cl, cr, pc, pk, pf, upd (upd pt i (pt j)) j (pt i), g, nx, en, pn, pe, fr, tk)) : wpX_exchange__partTo post (fc, cc, ck, cl, cr, pc, pk, pf, pt, g, nx, en, pn, pe, fr, tk) (nI i) (nI j) := by
  have ci : (nI i).toNatClampNeg = i := nI_clamp (by omega)
  have cj : (nI j).toNatClampNeg = j := nI_clamp (by omega)
  unfold wpX_exchange__partTo
  dsimp only
  rw [ci, cj]
  exact ⟨pk_in i 12 hi, nm_e ⟨pk_in j 12 hj, pk_in i 12 hi, nm_e ⟨pk_in j 12 hj, nm_e H⟩⟩⟩
theorem lh_x_sw70 {post : SX → Prop} (H : ∀ pk pf pt, (∀ j, pk j = nI (lh_sw 6 W 6 j / 36)) → (∀ j, pf j = nI (lh_sw 6 W 6 j % 36 / 6)) → (∀ j, pt j = nI (lh_sw 6 W 6 j % 6)) → post (fc, cc, ck, cl, cr, pc, pk, pf, pt, g, nx, en, pn, pe, fr, tk)) :
    ∀ (n i : Nat) (pk pf pt : Nat → Int32), 6 < n + i → i ≤ 6 → (∀ j, pk j = nI (lh_sw 6 W i j / 36)) → (∀ j, pf j = nI (lh_sw 6 W i j % 36 / 6)) → (∀ j, pt j = nI (lh_sw 6 W i j % 6)) → wX_swap_70 post n (nI i) fc cc ck cl cr pc pk pf pt g nx en pn pe fr tk := by
  intro n
  induction n with
  | zero => intro i pk pf pt h1 h2; omega
  | succ n ih =>
    intro i pk pf pt h1 h2 p2 p3 p4
    have e6 : (6 : Int32) + nI i = nI (6 + i) := nI_add 6 i
    rw [wX_swap_70]
    refine pk_le 6 i (fun z => ?_) (fun z => ?_)
    · have e : i = 6 := by omega
      subst e
      exact H pk pf pt p2 p3 p4
    · rw [e6]
      exact lh_x_ex_pk (by omega) (by omega) (lh_x_ex_pf (by omega) (by omega) (lh_x_ex_pt (by omega) (by omega) (nm_r (nI_1 i) (ih (i + 1) _ _ _ (by omega) (by omega) (lh_sw_p (F := fun x => x / 36) z p2) (lh_sw_p (F := fun x => x % 36 / 6) z p3) (lh_sw_p (F := fun x => x % 6) z p4)))))
theorem lh_x_sw11 {post : SX → Prop} (p1 : ∀ i, pc i = nI (np i)) (p2 : ∀ j, pk j = nI (W j / 36)) (p3 : ∀ j, pf j = nI (W j % 36 / 6)) (p4 : ∀ j, pt j = nI (W j % 6))
    (H : ∀ ck cl cr pc pk pf pt, (∀ j, ck j = nI (lh_sw 8 C 8 j / 36)) → (∀ j, cl j = nI (lh_sw 8 C 8 j % 36 / 6)) → (∀ j, cr j = nI (lh_sw 8 C 8 j % 6)) → (∀ j, pc j = nI (lh_sw 1 np 1 j)) → (∀ j, pk j = nI (lh_sw 6 W 6 j / 36)) → (∀ j, pf j = nI (lh_sw 6 W 6 j % 36 / 6)) → (∀ j, pt j = nI (lh_sw 6 W 6 j % 6)) → post (fc, cc, ck, cl, cr, pc, pk, pf, pt, g, nx, en, pn, pe, fr, tk)) :
    ∀ (n i : Nat) (ck cl cr : Nat → Int32), 8 < n + i → i ≤ 8 → (∀ j, ck j = nI (lh_sw 8 C i j / 36)) → (∀ j, cl j = nI (lh_sw 8 C i j % 36 / 6)) → (∀ j, cr j = nI (lh_sw 8 C i j % 6)) → wX_swap_11 post n (nI i) fc cc ck cl cr pc pk pf pt g nx en pn pe fr tk := by
  intro n
  induction n with
  | zero => intro i ck cl cr h1 h2; omega
  | succ n ih =>
    intro i ck cl cr h1 h2 s2 s3 s4
    have e8 : (8 : Int32) + nI i = nI (8 + i) := nI_add 8 i
    rw [wX_swap_11]
    refine pk_le 8 i (fun z => ?_) (fun z => ?_)
    · have e : i = 8 := by omega
      subst e
      refine lh_x_ex_pc (i := 0) (j := 1) (by omega) (by omega) ⟨7, lh_x_sw70 (W := W) (fun pk pf pt q2 q3 q4 => H ck cl cr _ pk pf pt s2 s3 s4 ?_ q2 q3 q4) 7 0 pk pf pt (by omega) (by omega) ?_ ?_ ?_⟩
      · exact lh_sw_p (F := fun x => x) (K := 1) (i := 0) (by decide) (by rw [lh_sw_0]; exact p1)
      · rw [lh_sw_0]; exact p2
      · rw [lh_sw_0]; exact p3
      · rw [lh_sw_0]; exact p4
    · rw [e8]
      exact lh_x_ex_ck (by omega) (by omega) (lh_x_ex_cl (by omega) (by omega) (lh_x_ex_cr (by omega) (by omega) (nm_r (nI_1 i) (ih (i + 1) _ _ _ (by omega) (by omega) (lh_sw_p (F := fun x => x / 36) z s2) (lh_sw_p (F := fun x => x % 36 / 6) z s3) (lh_sw_p (F := fun x => x % 6) z s4)))))
theorem lh_x_swap {post : SX → Prop} (S : lh_St C W nc np cc ck cl cr pc pk pf pt) (H : ∀ cc ck cl cr pc pk pf pt, lh_St (lh_sw 8 C 8) (lh_sw 6 W 6) (lh_sw 1 nc 1) (lh_sw 1 np 1) cc ck cl cr pc pk pf pt → post (fc, cc, ck, cl, cr, pc, pk, pf, pt, g, nx, en, pn, pe, fr, tk)) : wpX_swap post (fc, cc, ck, cl, cr, pc, pk, pf, pt, g, nx, en, pn, pe, fr, tk) := by
  obtain ⟨⟨s1, s2, s3, s4⟩, ⟨p1, p2, p3, p4⟩, hC, hW, hnc, hnp⟩ := S
  unfold wpX_swap
  dsimp only
  refine lh_x_ex_cc (i := 0) (j := 1) (by omega) (by omega) ⟨9, lh_x_sw11 (C := C) p1 p2 p3 p4 (fun ck cl cr pc pk pf pt a2 a3 a4 b1 b2 b3 b4 => H _ ck cl cr pc pk pf pt ⟨⟨?_, a2, a3, a4⟩, ⟨b1, b2, b3, b4⟩, lh_sw_lt hC, lh_sw_lt hW, lh_sw_lt hnc, lh_sw_lt hnp⟩) 9 0 ck cl cr (by omega) (by omega) ?_ ?_ ?_⟩
  · exact lh_sw_p (F := fun x => x) (K := 1) (i := 0) (by decide) (by rw [lh_sw_0]; exact s1)
  · rw [lh_sw_0]; exact s2
  · rw [lh_sw_0]; exact s3
  · rw [lh_sw_0]; exact s4
theorem lh_y_sw48 {post : SY → Prop} (y2 : ∀ i, ns i = nI (nc i)) (y4 : ∀ i, ms i = nI (np i)) (H : ∀ ns ps ms, (∀ j, ns j = nI (lh_sw 1 nc 1 j)) → (∀ j, ps j = nI (lh_sw 6 W 6 j)) → (∀ j, ms j = nI (lh_sw 1 np 1 j)) → post (nl, cs, ns, ps, ms, dv, hd, us)) :
    ∀ (n i : Nat) (ps : Nat → Int32), 6 < n + i → i ≤ 6 → (∀ j, ps j = nI (lh_sw 6 W i j)) → wY_swap_48 post nl n (nI i) cs ns ps ms dv hd us := by
  intro n
  induction n with
  | zero => intro i ps h1 h2; omega
  | succ n ih =>
    intro i ps h1 h2 y3
    have e6 : (6 : Int32) + nI i = nI (6 + i) := nI_add 6 i
    have ci : (nI i).toNatClampNeg = i := nI_clamp (by omega)
    have cj : (nI (6 + i)).toNatClampNeg = 6 + i := nI_clamp (by omega)
    rw [wY_swap_48]
    refine pk_le 6 i (fun z => ?_) (fun z => ?_)
    · have e : i = 6 := by omega
      subst e
      exact nm_e (nm_e (nm_e (nm_e (nm_e (nm_e (H _ ps _ (lh_sw_p (F := fun x => x) (K := 1) (i := 0) (by decide) (by rw [lh_sw_0]; exact y2)) y3 (lh_sw_p (F := fun x => x) (K := 1) (i := 0) (by decide) (by rw [lh_sw_0]; exact y4))))))))
    · rw [e6, ci, cj]
      exact ⟨pk_in i 12 (by omega), nm_e ⟨pk_in (6 + i) 12 (by omega), pk_in i 12 (by omega), nm_e ⟨pk_in (6 + i) 12 (by omega), nm_e (nm_r (nI_1 i) (ih (i + 1) _ (by omega) (by omega) (lh_sw_p (F := fun x => x) z y3)))⟩⟩⟩
theorem lh_y_sw2 {post : SY → Prop} (y2 : ∀ i, ns i = nI (nc i)) (y3 : ∀ i, ps i = nI (W i)) (y4 : ∀ i, ms i = nI (np i)) (H : ∀ cs ns ps ms, (∀ j, cs j = nI (lh_sw 8 C 8 j)) → (∀ j, ns j = nI (lh_sw 1 nc 1 j)) → (∀ j, ps j = nI (lh_sw 6 W 6 j)) → (∀ j, ms j = nI (lh_sw 1 np 1 j)) → post (nl, cs, ns, ps, ms, dv, hd, us)) :
    ∀ (n i : Nat) (cs : Nat → Int32), 8 < n + i → i ≤ 8 → (∀ j, cs j = nI (lh_sw 8 C i j)) → wY_swap_2 post nl n (nI i) cs ns ps ms dv hd us := by
  intro n
  induction n with
  | zero => intro i cs h1 h2; omega
  | succ n ih =>
    intro i cs h1 h2 y1
    have e8 : (8 : Int32) + nI i = nI (8 + i) := nI_add 8 i
    have ci : (nI i).toNatClampNeg = i := nI_clamp (by omega)
    have cj : (nI (8 + i)).toNatClampNeg = 8 + i := nI_clamp (by omega)
    rw [wY_swap_2]
    refine pk_le 8 i (fun z => ?_) (fun z => ?_)
    · have e : i = 8 := by omega
      subst e
      exact ⟨7, lh_y_sw48 (W := W) y2 y4 (fun ns ps ms a b c => H cs ns ps ms y1 a b c) 7 0 ps (by omega) (by omega) (by rw [lh_sw_0]; exact y3)⟩
    · rw [e8, ci, cj]
      exact ⟨pk_in i 16 (by omega), nm_e ⟨pk_in (8 + i) 16 (by omega), pk_in i 16 (by omega), nm_e ⟨pk_in (8 + i) 16 (by omega), nm_e (nm_r (nI_1 i) (ih (i + 1) _ (by omega) (by omega) (lh_sw_p (F := fun x => x) z y1)))⟩⟩⟩
theorem lh_y_swap {post : SY → Prop} (Y : lh_Sy C W nc np cs ns ps ms dv) (H : ∀ cs ns ps ms, lh_Sy (lh_sw 8 C 8) (lh_sw 6 W 6) (lh_sw 1 nc 1) (lh_sw 1 np 1) cs ns ps ms dv → post (nl, cs, ns, ps, ms, dv, hd, us)) : wpY_swap post (nl, cs, ns, ps, ms, dv, hd, us) := by
  obtain ⟨y1, y2, y3, y4, y5, hC, hW, hnc, hnp⟩ := Y
  exact Exists.intro 9 (lh_y_sw2 (C := C) y2 y3 y4 (fun cs ns ps ms a b c d => H cs ns ps ms ⟨a, b, c, d, y5, lh_sw_lt hC, lh_sw_lt hW, lh_sw_lt hnc, lh_sw_lt hnp⟩) 9 0 cs (by omega) (by omega) (by rw [lh_sw_0]; exact y1))
end
