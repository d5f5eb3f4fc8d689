/-! THE COMPONENT: runs -/
theorem lh_A_snoc {L : List Nat} {v : Nat} {a : Nat → Int32} (h : lh_A L.length a (fun j => L.getD j 0)) : lh_A (L ++ [v]).length (upd a L.length (nI v)) (fun j => (L ++ [v]).getD j 0) := by
  intro j hj
  rw [List.length_append, List.length_cons, List.length_nil] at hj
  show _ = nI ((L ++ [v]).getD j 0)
  by_cases e : j = L.length
  · rw [e, pk_us, List.getD_eq_getElem?_getD, List.getElem?_append_right (Nat.le_refl _), Nat.sub_self]
    rfl
  · have q : j < L.length := by omega
    rw [pk_un e, h j q]
    show nI (L.getD j 0) = _
    rw [List.getD_eq_getElem?_getD, List.getD_eq_getElem?_getD, List.getElem?_append_left q]
section
variable {fc : Int32} {cc ck cl cr pc pk pf pt g nx en pn pe fr tk : Nat → Int32} {C W nc np : Nat → Nat} {l : List Nat}
theorem lh_x_keep19 {post : SX → Prop} {anyL : Bool} {gr n5 : Nat} {h e : Nat → Nat} (hgr : gr ≤ 6) (h5 : n5 < 6) (g5 : g 5 = nI n5) (hh : ∀ x, h x ≤ 6) (hx : lh_Ah 6 nx h) (he : lh_Ah 6 en e)
    (H : ∀ pn pe fr, lh_Ah 6 pn h → lh_Ah 6 pe e → lh_A (lh_fl anyL gr n5 h 6).length fr (fun j => (lh_fl anyL gr n5 h 6).getD j 0) → post (nI (lh_fl anyL gr n5 h 6).length, cc, ck, cl, cr, pc, pk, pf, pt, g, nx, en, pn, pe, fr, tk)) :
    ∀ (n i : Nat) (pn pe fr : Nat → Int32), 6 < n + i → i ≤ 6 → lh_Ah i pn h → lh_Ah i pe e → lh_A (lh_fl anyL gr n5 h i).length fr (fun j => (lh_fl anyL gr n5 h i).getD j 0) → wX_keepPlainHeap_19 post (lh_bI anyL) (nI gr) n (nI i) (nI (lh_fl anyL gr n5 h i).length) cc ck cl cr pc pk pf pt g nx en pn pe fr tk := by
  intro n
  induction n with
  | zero => intro i pn pe fr h1 h2; omega
  | succ n ih =>
    intro i pn pe fr h1 h2 P E I
    rw [wX_keepPlainHeap_19]
    refine pk_le 6 i (fun z => ?_) (fun z => ?_)
    · have e' : i = 6 := by omega
      subst e'
      exact H pn pe fr P E I
    · have ci : (nI i).toNatClampNeg = i := nI_clamp (by omega)
      have e1 : nx i = lh_hv (h i) := hx i z
      have e2 : en i = lh_hv (e i) := he i z
      have b := hh i
      have len : (lh_fl anyL gr n5 h i).length ≤ i := lh_fl_len
      have P' : lh_Ah (i + 1) (upd pn i (lh_hv (h i))) h := lh_Ah_s P
      have E' : lh_Ah (i + 1) (upd pe i (lh_hv (e i))) e := lh_Ah_s E
      have skip : ¬ (anyL = true ∧ i < gr ∧ i ≠ n5 ∧ h i = 0) → wX_keepPlainHeap_19 post (lh_bI anyL) (nI gr) n (nI (i + 1)) (nI (lh_fl anyL gr n5 h i).length) cc ck cl cr pc pk pf pt g nx en (upd pn i (lh_hv (h i))) (upd pe i (lh_hv (e i))) fr tk := by
        intro c
        have s : lh_fl anyL gr n5 h (i + 1) = lh_fl anyL gr n5 h i := by rw [lh_fl_s, if_neg c, List.append_nil]
        have w := ih (i + 1) _ _ fr (by omega) (by omega) P' E' (by rw [s]; exact I)
        rw [s] at w
        exact w
      refine ⟨pk_in i 6 z, pk_in i 6 z, nm_r (e' := upd pn i (lh_hv (h i))) (by rw [ci, e1]) ⟨pk_in i 6 z, pk_in i 6 z, nm_r (e' := upd pe i (lh_hv (e i))) (by rw [ci, e2]) ?_⟩⟩
      cases anyL with
      | false => exact br_t rfl (nm_r (nI_1 i) (skip (fun c => absurd c.1 (by decide))))
      | true =>
        refine br_f (by decide) (pk_le gr i (fun c => nm_r (nI_1 i) (skip (fun d => absurd d.2.1 (by omega)))) (fun c => pk_eq i n5 (fun q => nm_r (nI_1 i) (skip (fun d => d.2.2.1 q))) (fun q => ⟨pk_in i 6 z, ?_⟩) rfl g5))
        rw [ci, e1]
        by_cases d : h i = 0
        · have s : lh_fl true gr n5 h (i + 1) = lh_fl true gr n5 h i ++ [i] := by rw [lh_fl_s, if_pos ⟨rfl, c, q, d⟩]
          have I' := lh_A_snoc (v := i) I
          rw [← s] at I'
          have w := ih (i + 1) _ _ _ (by omega) (by omega) P' E' I'
          rw [s, List.length_append] at w
          exact br_t ((lh_hv_m1 _ (by omega)).mpr d) ⟨pk_in (lh_fl true gr n5 h i).length 6 (by omega), nm_r (e' := upd fr (lh_fl true gr n5 h i).length (nI i)) (by rw [nI_clamp (by omega)]) (nm_r (nI_1 _) (nm_r (nI_1 i) w))⟩
        · exact br_f (fun y => d ((lh_hv_m1 _ (by omega)).mp y)) (nm_r (nI_1 i) (skip (fun y => d y.2.2.2)))
theorem lh_x_keep {post : SX → Prop} {h e : Nat → Nat} (w : lh_wf l) (hg : lh_A 6 g (lh_gf l)) (hh : ∀ x, h x ≤ 6) (hee : ∀ x, e x ≤ 6) (hx : lh_Ah 6 nx h) (he : lh_Ah 6 en e)
    (H : ∀ anyL, (anyL = true ↔ lh_any6 e) → ∀ pn pe fr, lh_Ah 6 pn h → lh_Ah 6 pe e → lh_A (lh_fl anyL (lh_gof l 6) (lh_gf l 5) h 6).length fr (fun j => (lh_fl anyL (lh_gof l 6) (lh_gf l 5) h 6).getD j 0) → post (nI (lh_fl anyL (lh_gof l 6) (lh_gf l 5) h 6).length, cc, ck, cl, cr, pc, pk, pf, pt, g, nx, en, pn, pe, fr, tk)) : wpX_keepPlainHeap post (fc, cc, ck, cl, cr, pc, pk, pf, pt, g, nx, en, pn, pe, fr, tk) := by
  have K : ∀ anyL, (anyL = true ↔ lh_any6 e) → ∃ n19 : Nat, wX_keepPlainHeap_19 post (lh_bI anyL) (nI (lh_gof l 6)) n19 0 0 cc ck cl cr pc pk pf pt g nx en pn pe fr tk := fun anyL ha =>
    ⟨7, lh_x_keep19 (anyL := anyL) (lh_gof_le w.2.1 6) (w.2.1 5) (hg 5 (by decide)) hh hx he (H anyL ha) 7 0 pn pe fr (by omega) (by omega) (fun j hj => absurd hj (Nat.not_lt_zero j)) (fun j hj => absurd hj (Nat.not_lt_zero j)) (fun j hj => absurd hj (Nat.not_lt_zero j))⟩
  refine lh_x_hasl (post := fun r_1 => wpX_groupsOfFirst (fun r_18 => ∃ n19 : Nat, wX_keepPlainHeap_19 post r_1 r_18 n19 0 0 cc ck cl cr pc pk pf pt g nx en pn pe fr tk) (fc, cc, ck, cl, cr, pc, pk, pf, pt, g, nx, en, pn, pe, fr, tk) 6) hee he (fun a => ?_) (fun a => ?_)
  · exact lh_x_gof (k := 6) (Nat.le_refl _) hg w.2.1 (K true ⟨fun _ => a, fun _ => rfl⟩)
  · exact lh_x_gof (k := 6) (Nat.le_refl _) hg w.2.1 (K false ⟨fun z => absurd z (by decide), fun z => absurd z a⟩)
theorem lh_x_runs4 {post : Int32 → Prop} {K : Nat} (hK : K ≤ 6) (H : post (nI (6 ^ K))) : ∀ (n i : Nat), K < n + i → i ≤ K → wX_countRuns_4 post (nI K) cc ck cl cr pc pk pf pt g nx en pn pe fr tk n (nI (6 ^ i)) (nI i) := by
  intro n
  induction n with
  | zero => intro i h1 h2; omega
  | succ n ih =>
    intro i h1 h2
    rw [wX_countRuns_4]
    refine pk_le K i (fun z => ?_) (fun z => pk_le 6 i (fun y => absurd y (by omega)) (fun y => nm_r (e' := nI (6 ^ (i + 1))) ?_ (nm_r (nI_1 i) (ih (i + 1) (by omega) (by omega)))))
    · have e : i = K := by omega
      rw [e]; exact H
    · rw [Nat.pow_succ]; exact pk_mul (6 ^ i) 6
theorem lh_x_runs {post : Int32 → Prop} {K : Nat} (hK : K ≤ 6) (H : post (nI (6 ^ K))) : wpX_countRuns post (nI K, cc, ck, cl, cr, pc, pk, pf, pt, g, nx, en, pn, pe, fr, tk) :=
  Exists.intro (K + 1) (lh_x_runs4 hK H (K + 1) 0 (by omega) (by omega))
theorem lh_x_put {post : Int32 → SX → Prop} {b f : Nat} {h e : Nat → Nat} (hb : b < 6) (hf : f < 6) (hee : ∀ x, e x ≤ 6) (hx : lh_Ah 6 nx h) (he : lh_Ah 6 en e) (nbf : e b ≠ 0 → b ≠ f)
    (H1 : e b ≠ 0 → e b ≠ f + 1 → ∀ nx en, lh_Ah 6 nx (lh_ins h b f) → lh_Ah 6 en (lh_up e f (e b)) → post 1 (fc, cc, ck, cl, cr, pc, pk, pf, pt, g, nx, en, pn, pe, fr, tk)) (H0 : (e b = 0 ∨ e b = f + 1) → post 0 (fc, cc, ck, cl, cr, pc, pk, pf, pt, g, nx, en, pn, pe, fr, tk)) : wpX_putAfter post (fc, cc, ck, cl, cr, pc, pk, pf, pt, g, nx, en, pn, pe, fr, tk) (nI b) (nI f) := by
  have cb : (nI b).toNatClampNeg = b := nI_clamp (by omega)
  have cf : (nI f).toNatClampNeg = f := nI_clamp (by omega)
  have e1 : en (nI b).toNatClampNeg = lh_hv (e b) := lh_rdH he hb (by decide)
  have bd := hee b
  refine And.intro (pk_in b 6 hb) ?_
  rw [e1]
  by_cases c : e b = 0
  · exact br_t ((lh_hv_m1 _ (by omega)).mpr c) (H0 (Or.inl c))
  · refine br_f (fun z => c ((lh_hv_m1 _ (by omega)).mp z)) ⟨pk_in b 6 hb, ?_⟩
    by_cases d : e b = f + 1
    · exact br_t ((lh_hv_eq _ (by omega) _ (by omega)).mpr d) (H0 (Or.inr d))
    · exact br_f (fun z => d ((lh_hv_eq _ (by omega) _ (by omega)).mp z)) ⟨pk_in b 6 hb, pk_in f 6 hf, nm_r (e' := upd nx f (nx b)) (by rw [cf, cb]) ⟨pk_in b 6 hb, pk_in f 6 hf, nm_r (e' := upd en f (lh_hv (e b))) (by rw [cf]) ⟨pk_in b 6 hb, nm_r (e' := upd (upd nx f (nx b)) b (nI f)) (by rw [cb]) (H1 c d _ _ (lh_Ah_ins hx hb (nbf c)) (lh_Ah_up he f (e b)))⟩⟩⟩
theorem lh_x_run42 {post : Int32 → SX → Prop} {K n5 : Nat} {Fl : List Nat} (hK : Fl.length = K) (h6 : K ≤ 6) (h5 : n5 < 6) (g5 : g 5 = nI n5) (hfr : lh_A K fr (fun j => Fl.getD j 0)) :
    ∀ (m i r : Nat) (h e : Nat → Nat) (nx en : Nat → Int32) (n : Nat), m + i = K → m < n → r < 2 ^ 31 → lh_bd 6 h → (∀ x, e x ≤ 6) → lh_fr Fl i e → lh_Ah 6 nx h → lh_Ah 6 en e →
    (∀ (h' e' : Nat → Nat) (nx en : Nat → Int32), lh_run n5 ((lh_dig r m).zip (Fl.drop i)) h e = some (h', e') → lh_bd 6 h' → (∀ x, e' x ≤ 6) → lh_Ah 6 nx h' → lh_Ah 6 en e' → post 1 (nI K, cc, ck, cl, cr, pc, pk, pf, pt, g, nx, en, pn, pe, fr, tk)) →
    (lh_run n5 ((lh_dig r m).zip (Fl.drop i)) h e = none → ∀ nx en, post 0 (nI K, cc, ck, cl, cr, pc, pk, pf, pt, g, nx, en, pn, pe, fr, tk)) → wX_buildRun_42 post n (nI r) (nI i) (nI K) cc ck cl cr pc pk pf pt g nx en pn pe fr tk := by
  intro m
  induction m with
  | zero =>
    intro i r h e nx en n hi hn hr hb he F X E H1 H0
    obtain ⟨n, rfl⟩ : ∃ m, n = m + 1 := ⟨n - 1, by omega⟩
    rw [wX_buildRun_42]
    exact br_t (nI_le (by omega) (by omega)) (H1 h e nx en rfl hb he X E)
  | succ m ih =>
    intro i r h e nx en n hi hn hr hb he F X E H1 H0
    obtain ⟨n, rfl⟩ : ∃ m, n = m + 1 := ⟨n - 1, by omega⟩
    have il : i < Fl.length := by omega
    have st := lh_run_step (nl := n5) (r := r) (m := m) (h := h) (e := e) il
    obtain ⟨F1, F2, F3, F4⟩ := lh_fr_s il F
    have ef : fr (nI i).toNatClampNeg = nI (Fl.getD i 0) := lh_rdA hfr (by omega) (by omega)
    have d6 : r / 6 < 2 ^ 31 := Nat.lt_of_le_of_lt (Nat.div_le_self r 6) hr
    have m6 : r % 6 < 6 := Nat.mod_lt _ (by decide)
    rw [wX_buildRun_42]
    refine pk_le K i (fun z => absurd z (by omega)) (fun z => pk_le 6 i (fun z => absurd z (by omega)) (fun z' => ⟨by decide, nm_r (e' := nI (r % 6)) (pk_rem (d := 6) hr (by decide) (by decide)) ⟨by decide, nm_r (e' := nI (r / 6)) (pk_div (d := 6) hr (by decide) (by decide)) (pk_eq (r % 6) n5 (fun q => nm_r (nI_1 i) ?_) (fun q => ⟨pk_in i 6 z', ?_⟩) rfl g5)⟩⟩))
    · rw [if_pos q] at st
      exact ih (i + 1) (r / 6) h e nx en n (by omega) (by omega) d6 hb he F1 X E (fun h' e' nx en z => H1 h' e' nx en (st.trans z)) (fun z => H0 (st.trans z))
    · rw [if_neg q] at st
      rw [ef]
      refine lh_x_put (b := r % 6) (f := Fl.getD i 0) m6 F2 he X E (fun z y => z (by rw [y]; exact F3)) (fun a1 a2 nx en X' E' => br_f (by decide) (nm_r (nI_1 i) ?_)) (fun z => br_t rfl ?_)
      · rw [if_neg (fun z => z.elim a1 a2)] at st
        exact ih (i + 1) (r / 6) _ _ nx en n (by omega) (by omega) d6 (lh_bd_ins hb m6 F2) (lh_up_le he (he _)) (F4 _) X' E' (fun h' e' nx en z => H1 h' e' nx en (st.trans z)) (fun z => H0 (st.trans z))
      · rw [if_pos z] at st
        exact H0 st _ _
theorem lh_x_run2 {post : Int32 → SX → Prop} {x1 : Int32} {h e : Nat → Nat} (hp : lh_Ah 6 pn h) (hq : lh_Ah 6 pe e) (H : ∀ nx en, lh_Ah 6 nx h → lh_Ah 6 en e → ∃ m, wX_buildRun_42 post m x1 0 fc cc ck cl cr pc pk pf pt g nx en pn pe fr tk) : ∀ (n i : Nat) (nx en : Nat → Int32), 6 < n + i → i ≤ 6 → lh_Ah i nx h → lh_Ah i en e → wX_buildRun_2 post x1 fc n (nI i) cc ck cl cr pc pk pf pt g nx en pn pe fr tk := by
  intro n
  induction n with
  | zero => intro i nx en h1 h2; omega
  | succ n ih =>
    intro i nx en h1 h2 X E
    rw [wX_buildRun_2]
    refine pk_le 6 i (fun z => ?_) (fun z => ?_)
    · have e' : i = 6 := by omega
      rw [e'] at X E
      exact H nx en X E
    · have ci : (nI i).toNatClampNeg = i := nI_clamp (by omega)
      exact ⟨pk_in i 6 z, pk_in i 6 z, nm_r (e' := upd nx i (lh_hv (h i))) (by rw [ci, hp i z]) ⟨pk_in i 6 z, pk_in i 6 z, nm_r (e' := upd en i (lh_hv (e i))) (by rw [ci, hq i z]) (nm_r (nI_1 i) (ih (i + 1) _ _ (by omega) (by omega) (lh_Ah_s X) (lh_Ah_s E)))⟩⟩
theorem lh_x_run {post : Int32 → SX → Prop} {r K n5 : Nat} {Fl : List Nat} {h e : Nat → Nat} (hK : Fl.length = K) (h6 : K ≤ 6) (h5 : n5 < 6) (g5 : g 5 = nI n5) (hfr : lh_A K fr (fun j => Fl.getD j 0)) (hp : lh_Ah 6 pn h) (hq : lh_Ah 6 pe e) (hr : r < 2 ^ 31) (hb : lh_bd 6 h) (he : ∀ x, e x ≤ 6) (F : lh_fr Fl 0 e)
    (H1 : ∀ (h' e' : Nat → Nat) (nx en : Nat → Int32), lh_run n5 ((lh_dig r K).zip Fl) h e = some (h', e') → lh_bd 6 h' → (∀ x, e' x ≤ 6) → lh_Ah 6 nx h' → lh_Ah 6 en e' → post 1 (nI K, cc, ck, cl, cr, pc, pk, pf, pt, g, nx, en, pn, pe, fr, tk))
    (H0 : lh_run n5 ((lh_dig r K).zip Fl) h e = none → ∀ nx en, post 0 (nI K, cc, ck, cl, cr, pc, pk, pf, pt, g, nx, en, pn, pe, fr, tk)) : wpX_buildRun post (nI K, cc, ck, cl, cr, pc, pk, pf, pt, g, nx, en, pn, pe, fr, tk) (nI r) :=
  Exists.intro 7 (lh_x_run2 hp hq (fun nx en X E => ⟨K + 1, lh_x_run42 hK h6 h5 g5 hfr K 0 r h e nx en (K + 1) rfl (by omega) hr hb he F X E H1 H0⟩) 7 0 nx en (by omega) (by omega) (fun j hj => absurd hj (Nat.not_lt_zero j)) (fun j hj => absurd hj (Nat.not_lt_zero j)))
end
