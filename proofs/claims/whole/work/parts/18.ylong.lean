/-! THE REFERENCE: the longer lists -/
theorem lh_up_ins {h : Nat → Nat} {a t f : Nat} {x : Nat → Int32} (H : lh_Ah 7 x h) (n : a ≠ f) (ha : h a = t + 1) : lh_Ah 7 (upd (upd x a (nI f)) f (nI t)) (lh_ins h a f) := by
  intro i hi
  by_cases e : i = f
  · rw [e, pk_us, lh_ins_f, ha]; rfl
  · rw [pk_un e]
    by_cases e2 : i = a
    · rw [e2, pk_us, lh_ins_b n]; rfl
    · rw [pk_un e2, lh_ins_o e e2]; exact H i hi
theorem lh_back {h : Nat → Nat} {a t f : Nat} {x : Nat → Int32} (H : lh_Ah 7 x h) (ha : h a = t + 1) (hf : h f = 0) : lh_Ah 7 (upd (upd (upd (upd x a (nI f)) f (nI t)) a (nI t)) f (-1)) h := by
  intro i hi
  by_cases e : i = f
  · rw [e, pk_us, hf]; rfl
  · rw [pk_un e]
    by_cases e2 : i = a
    · rw [e2, pk_us, ha]; rfl
    · rw [pk_un e2, pk_un e, pk_un e2]; exact H i hi
def lh_PF (C W nc np : Nat → Nat) (wh : Prop) (l : List Nat) (i f : Nat) : Prop := (f = 6 ∨ ∃ a, a < 6 ∧ lh_gf l a = f) → f ≠ lh_gf l 5 → f ≠ lh_pt W 0 l i → lh_H W np 0 l f = 0 → lh_yf C W nc np wh l (lh_ins (lh_H W np 0 l) (lh_pa W 0 l i) f)
section
variable {nl : Int32} {cs ns ps ms dv hd us : Nat → Int32} {C W nc np : Nat → Nat}
theorem lh_y_lg50 {post : Int32 → SY → Prop} {J : Int32 → Int32 → (Nat → Int32) → (Nat → Int32) → (Nat → Int32) → (Nat → Int32) → (Nat → Int32) → (Nat → Int32) → (Nat → Int32) → Prop} {b : Bool} {d i f : Nat} (h2 : d < 203) (hf : f < 7) (S : lh_Sy C W nc np cs ns ps ms dv) (ok : lh_ok W np 0 (lh_E d)) (hi : i < np 0) (k : lh_pk W 0 i = true) (ne : lh_pa W 0 (lh_E d) i ≠ lh_pt W 0 (lh_E d) i) (hx : lh_Ah 7 hd (lh_H W np 0 (lh_E d))) (there : f = 6 ∨ ∃ a, a < 6 ∧ lh_gf (lh_E d) a = f)
    (H1 : lh_PF C W nc np (b = true) (lh_E d) i f → ∀ hd us, lh_Ah 7 hd (lh_H W np 0 (lh_E d)) → J (nI (f + 1)) (nI (lh_gf (lh_E d) 5)) cs ns ps ms dv hd us) (H0 : ¬ lh_PF C W nc np (b = true) (lh_E d) i f → ∀ hd us, post 0 (nI (lh_gf (lh_E d) 5), cs, ns, ps, ms, dv, hd, us)) :
    wY_fitLonger_50 post J (nI d) (lh_bI (!b)) (nI (lh_pa W 0 (lh_E d) i)) (nI (lh_pt W 0 (lh_E d) i)) (nI f) 1 (nI (lh_gf (lh_E d) 5)) cs ns ps ms dv hd us := by
  have w := lh_E_wf d h2
  have l1 : lh_pa W 0 (lh_E d) i < 6 := w.2.1 _
  have l2 : lh_pt W 0 (lh_E d) i < 6 := w.2.1 _
  have l3 : lh_gf (lh_E d) 5 < 6 := w.2.1 _
  have cf : (nI f).toNatClampNeg = f := nI_clamp (by omega)
  have ca : (nI (lh_pa W 0 (lh_E d) i)).toNatClampNeg = lh_pa W 0 (lh_E d) i := nI_clamp (by omega)
  have e1 : hd (nI f).toNatClampNeg = lh_hv (lh_H W np 0 (lh_E d) f) := lh_rdH hx hf (by decide)
  have bf := lh_H_le (W := W) (np := np) (s := 0) w f
  have Ha := (lh_H_at ok hi k ne).1
  have skip : ¬ (f ≠ lh_gf (lh_E d) 5 ∧ f ≠ lh_pt W 0 (lh_E d) i ∧ lh_H W np 0 (lh_E d) f = 0) → J (nI (f + 1)) (nI (lh_gf (lh_E d) 5)) cs ns ps ms dv hd us := fun c => H1 (fun _ a1 a2 a3 => absurd ⟨a1, a2, a3⟩ c) hd us hx
  unfold wY_fitLonger_50
  refine br_f (by decide) (pk_eq f (lh_gf (lh_E d) 5) (fun q => nm_r (nI_1 f) (skip (fun y => y.1 q))) (fun q => pk_eq f (lh_pt W 0 (lh_E d) i) (fun r => nm_r (nI_1 f) (skip (fun y => y.2.1 r))) (fun r => ⟨pk_in f 7 hf, ?_⟩)))
  rw [e1]
  by_cases c : lh_H W np 0 (lh_E d) f = 0
  · have af : lh_pa W 0 (lh_E d) i ≠ f := by
      intro z
      rw [z, c] at Ha
      exact absurd Ha (by omega)
    have n5 : lh_ins (lh_H W np 0 (lh_E d)) (lh_pa W 0 (lh_E d) i) f (lh_gf (lh_E d) 5) = 0 := by
      have z := lh_H_nl ok
      rw [lh_ins_o (Ne.symm q) (fun y => by rw [← y, z] at Ha; exact absurd Ha (by omega))]
      exact z
    refine br_f (fun v => absurd c ((lh_hv_pos _ (by omega)).mp v)) ⟨pk_in (lh_pa W 0 (lh_E d) i) 7 (by omega), nm_r (e' := upd hd (lh_pa W 0 (lh_E d) i) (nI f)) (by rw [ca]) ⟨pk_in f 7 hf, nm_r (e' := upd (upd hd (lh_pa W 0 (lh_E d) i) (nI f)) f (nI (lh_pt W 0 (lh_E d) i))) (by rw [cf]) ?_⟩⟩
    have B7 : lh_bd 7 (lh_ins (lh_H W np 0 (lh_E d)) (lh_pa W 0 (lh_E d) i) f) := lh_bd_ins ⟨fun x hx => Nat.lt_succ_of_lt (lh_H_lt w hx), fun x => Nat.le_succ_of_le (lh_H_le w x)⟩ (by omega) hf
    have fin := lh_back hx Ha c
    refine lh_y_fits (b := b) h2 (by omega) n5 B7 (lh_up_ins hx af Ha) S (fun y us => ⟨pk_in (lh_pa W 0 (lh_E d) i) 7 (by omega), nm_r (e' := upd (upd (upd hd (lh_pa W 0 (lh_E d) i) (nI f)) f (nI (lh_pt W 0 (lh_E d) i))) (lh_pa W 0 (lh_E d) i) (nI (lh_pt W 0 (lh_E d) i))) (by rw [ca]) ⟨pk_in f 7 hf, nm_r (e' := upd (upd (upd (upd hd (lh_pa W 0 (lh_E d) i) (nI f)) f (nI (lh_pt W 0 (lh_E d) i))) (lh_pa W 0 (lh_E d) i) (nI (lh_pt W 0 (lh_E d) i))) f (-1)) (by rw [cf]) (br_f (by decide) (nm_r (nI_1 f) (H1 (fun _ _ _ _ => y) _ us fin)))⟩⟩) (fun y us => ⟨pk_in (lh_pa W 0 (lh_E d) i) 7 (by omega), nm_r (e' := upd (upd (upd hd (lh_pa W 0 (lh_E d) i) (nI f)) f (nI (lh_pt W 0 (lh_E d) i))) (lh_pa W 0 (lh_E d) i) (nI (lh_pt W 0 (lh_E d) i))) (by rw [ca]) ⟨pk_in f 7 hf, nm_r (e' := upd (upd (upd (upd hd (lh_pa W 0 (lh_E d) i) (nI f)) f (nI (lh_pt W 0 (lh_E d) i))) (lh_pa W 0 (lh_E d) i) (nI (lh_pt W 0 (lh_E d) i))) f (-1)) (by rw [cf]) (br_t rfl (H0 (fun v => y (v there q r c)) _ us))⟩⟩)
  · exact br_t ((lh_hv_pos _ (by omega)).mpr c) (nm_r (nI_1 f) (skip (fun y => c y.2.2)))
theorem lh_y_lg21 {post : Int32 → SY → Prop} {b : Bool} {d i : Nat} (h2 : d < 203) (S : lh_Sy C W nc np cs ns ps ms dv) (ok : lh_ok W np 0 (lh_E d)) (hi : i < np 0) (k : lh_pk W 0 i = true) (ne : lh_pa W 0 (lh_E d) i ≠ lh_pt W 0 (lh_E d) i)
    (H1 : (∀ f, f < 7 → lh_PF C W nc np (b = true) (lh_E d) i f) → ∀ hd us, lh_Ah 7 hd (lh_H W np 0 (lh_E d)) → post 1 (nI (lh_gf (lh_E d) 5), cs, ns, ps, ms, dv, hd, us)) (H0 : (¬ ∀ f, f < 7 → lh_PF C W nc np (b = true) (lh_E d) i f) → ∀ hd us, post 0 (nI (lh_gf (lh_E d) 5), cs, ns, ps, ms, dv, hd, us)) :
    ∀ (n f : Nat) (hd us : Nat → Int32), 7 < n + f → f ≤ 7 → lh_Ah 7 hd (lh_H W np 0 (lh_E d)) → (∀ j, j < f → lh_PF C W nc np (b = true) (lh_E d) i j) → wY_fitLonger_21 post (nI d) (lh_bI (!b)) (nI (lh_pa W 0 (lh_E d) i)) (nI (lh_pt W 0 (lh_E d) i)) n (nI f) (nI (lh_gf (lh_E d) 5)) cs ns ps ms dv hd us := by
  intro n
  induction n with
  | zero => intro f hd us h1 h2; omega
  | succ n ih =>
    intro f hd us h1 h2' hx I
    rw [wY_fitLonger_21]
    refine pk_le 7 f (fun z => ?_) (fun z => ?_)
    · have e : f = 7 := by omega
      rw [e] at I
      exact H1 I hd us hx
    · have next : lh_PF C W nc np (b = true) (lh_E d) i f → ∀ hd us, lh_Ah 7 hd (lh_H W np 0 (lh_E d)) → wY_fitLonger_21 post (nI d) (lh_bI (!b)) (nI (lh_pa W 0 (lh_E d) i)) (nI (lh_pt W 0 (lh_E d) i)) n (nI (f + 1)) (nI (lh_gf (lh_E d) 5)) cs ns ps ms dv hd us := fun p hd us hx => ih (f + 1) hd us (by omega) (by omega) hx (fun j hj => by
        rcases lh_lt_s hj with v | v
        · exact I j v
        · rw [v]; exact p)
      have go : (f = 6 ∨ ∃ a, a < 6 ∧ lh_gf (lh_E d) a = f) → wY_fitLonger_45 post (wY_fitLonger_21 post (nI d) (lh_bI (!b)) (nI (lh_pa W 0 (lh_E d) i)) (nI (lh_pt W 0 (lh_E d) i)) n) (nI d) (lh_bI (!b)) (nI (lh_pa W 0 (lh_E d) i)) (nI (lh_pt W 0 (lh_E d) i)) (nI f) (nI (lh_gf (lh_E d) 5)) cs ns ps ms dv hd us := fun t => lh_y_lg50 h2 z S ok hi k ne hx t next (fun y => H0 (fun v => y (v f z)))
      refine pk_eq f 6 (fun q => go (Or.inl q)) (fun q => lh_y_there h2 z S (fun t => br_f (by decide) (go (Or.inr t))) (fun t => br_t rfl ?_))
      unfold wY_fitLonger_50
      exact br_t rfl (nm_r (nI_1 f) (next (fun y => absurd (y.resolve_left q) t) hd us hx))
theorem lh_y_lg {post : Int32 → SY → Prop} {b : Bool} {d i : Nat} (h2 : d < 203) (S : lh_Sy C W nc np cs ns ps ms dv) (ok : lh_ok W np 0 (lh_E d)) (hi : i < np 0) (k : lh_pk W 0 i = true) (ne : lh_pa W 0 (lh_E d) i ≠ lh_pt W 0 (lh_E d) i) (hx : lh_Ah 7 hd (lh_H W np 0 (lh_E d)))
    (H1 : (∀ f, f < 7 → lh_PF C W nc np (b = true) (lh_E d) i f) → ∀ hd us, lh_Ah 7 hd (lh_H W np 0 (lh_E d)) → post 1 (nI (lh_gf (lh_E d) 5), cs, ns, ps, ms, dv, hd, us)) (H0 : (¬ ∀ f, f < 7 → lh_PF C W nc np (b = true) (lh_E d) i f) → ∀ hd us, post 0 (nI (lh_gf (lh_E d) 5), cs, ns, ps, ms, dv, hd, us)) : wpY_fitLonger post (nI (lh_gf (lh_E d) 5), cs, ns, ps, ms, dv, hd, us) (nI d) (nI i) (lh_bI (!b)) := by
  have h6 := S.2.2.2.2.2.2.2.2 0
  exact lh_y_from (s := 0) (by decide) h2 (by omega) S (lh_y_to (s := 0) (by decide) h2 (by omega) S ⟨8, lh_y_lg21 h2 S ok hi k ne H1 H0 8 0 hd us (by omega) (by omega) hx (fun j hj => absurd hj (Nat.not_lt_zero j))⟩)
theorem lh_y_af0 {post : Int32 → SY → Prop} {J : Int32 → Int32 → (Nat → Int32) → (Nat → Int32) → (Nat → Int32) → (Nat → Int32) → (Nat → Int32) → (Nat → Int32) → (Nat → Int32) → Prop} {x1 x2 x4 : Int32} {n : Nat} (H : post 0 (nl, cs, ns, ps, ms, dv, hd, us)) : wY_allFit_28 post J x1 x2 (n + 1) 0 x4 nl cs ns ps ms dv hd us := by
  rw [wY_allFit_28]
  exact br_c (fun _ => br_t rfl H) (fun _ => br_t rfl (br_t rfl H))
theorem lh_y_af28 {post : Int32 → SY → Prop} {J : Int32 → Int32 → (Nat → Int32) → (Nat → Int32) → (Nat → Int32) → (Nat → Int32) → (Nat → Int32) → (Nat → Int32) → (Nat → Int32) → Prop} {b : Bool} {d : Nat} (h2 : d < 203) (S : lh_Sy C W nc np cs ns ps ms dv) (ok : lh_ok W np 0 (lh_E d)) (Y0 : lh_yf C W nc np (b = true) (lh_E d) (lh_H W np 0 (lh_E d)))
    (H1 : lh_YF C W nc np (b = true) (lh_E d) → ∀ hd us, J (nI (d + 1)) (nI (lh_gf (lh_E d) 5)) cs ns ps ms dv hd us) (H0 : ¬ lh_YF C W nc np (b = true) (lh_E d) → ∀ hd us, post 0 (nI (lh_gf (lh_E d) 5), cs, ns, ps, ms, dv, hd, us)) :
    ∀ (n i : Nat) (hd us : Nat → Int32), np 0 < n + i → i ≤ np 0 → lh_Ah 7 hd (lh_H W np 0 (lh_E d)) → (∀ j, j < i → lh_pk W 0 j = true → lh_pa W 0 (lh_E d) j ≠ lh_pt W 0 (lh_E d) j → ∀ f, f < 7 → lh_PF C W nc np (b = true) (lh_E d) j f) → wY_allFit_28 post J (lh_bI (!b)) (nI d) (n + 1) 1 (nI i) (nI (lh_gf (lh_E d) 5)) cs ns ps ms dv hd us := by
  have h6 := S.2.2.2.2.2.2.2.2 0
  intro n
  induction n with
  | zero => intro i hd us h1 h2; omega
  | succ n ih =>
    intro i hd us h1 h2' hx I
    rw [wY_allFit_28]
    refine pk_le (np 0) i (fun z => ?_) (fun z => br_f (by decide) ?_) (S.2.2.2.1 0)
    · refine br_f (by decide) (nm_r (nI_1 d) (H1 ⟨Y0, fun j hj => I j (by omega)⟩ hd us))
    · have hk : W (6 * 0 + i) ≤ 71 := S.2.2.2.2.2.2.1 _
      have e0 : 6 * 0 + i = i := by omega
      have e1 : ps (nI i).toNatClampNeg = nI (W (6 * 0 + i)) := by rw [e0]; exact lh_rdS S.2.2.1 (by omega)
      have next : (lh_pk W 0 i = true → lh_pa W 0 (lh_E d) i ≠ lh_pt W 0 (lh_E d) i → ∀ f, f < 7 → lh_PF C W nc np (b = true) (lh_E d) i f) → ∀ hd us, lh_Ah 7 hd (lh_H W np 0 (lh_E d)) → wY_allFit_28 post J (lh_bI (!b)) (nI d) (n + 1) 1 (nI (i + 1)) (nI (lh_gf (lh_E d) 5)) cs ns ps ms dv hd us := fun p hd us hx => ih (i + 1) hd us (by omega) (by omega) hx (fun j hj => by
        rcases lh_lt_s hj with v | v
        · exact I j v
        · rw [v]; exact p)
      rw [e1]
      refine ⟨pk_in i 12 (by omega), ?_⟩
      by_cases c : W (6 * 0 + i) < 36
      · refine br_t ((lh_lt36 _ (by omega)).mpr c) ?_
        unfold wY_allFit_70 wY_allFit_71
        exact br_t rfl (nm_r (nI_1 i) (next (fun y => absurd (of_decide_eq_true y) (by omega)) hd us hx))
      · refine br_f (fun y => c ((lh_lt36 _ (by omega)).mp y)) (lh_y_emp (s := 0) (by decide) h2 (by omega) S (fun y => br_f (by decide) ?_) (fun y => br_t rfl ?_))
        · unfold wY_allFit_70 wY_allFit_71
          exact br_t rfl (nm_r (nI_1 i) (next (fun _ v => absurd y.2 v) hd us hx))
        · have kt : lh_pk W 0 i = true := lh_pk_t (by omega)
          have ne : lh_pa W 0 (lh_E d) i ≠ lh_pt W 0 (lh_E d) i := fun v => y ⟨kt, v⟩
          unfold wY_allFit_71
          exact br_f (by decide) (lh_y_lg h2 S ok z kt ne hx (fun v hd us hx => br_f (by decide) (nm_r (nI_1 i) (next (fun _ _ => v) hd us hx))) (fun v hd us => br_t rfl (nm_r (nI_1 i) (lh_y_af0 (H0 (fun u => v (u.2 i z kt ne)) hd us)))))
end
