/-! RUNS: groups f put one by one behind groups b; b = nl: put nowhere -/
def lh_up (g : Nat → Nat) (k x : Nat) : Nat → Nat := fun j => if j = k then x else g j
theorem lh_up_s {g : Nat → Nat} {k x : Nat} : lh_up g k x k = x := if_pos rfl
theorem lh_up_o {g : Nat → Nat} {k x j : Nat} (n : j ≠ k) : lh_up g k x j = g j := if_neg n
def lh_run (nl : Nat) : List (Nat × Nat) → (Nat → Nat) → (Nat → Nat) → Option ((Nat → Nat) × (Nat → Nat))
  | [], h, e => some (h, e)
  | z :: r, h, e => if z.1 = nl then lh_run nl r h e else if e z.1 = 0 ∨ e z.1 = z.2 + 1 then none else lh_run nl r (lh_ins h z.1 z.2) (lh_up e z.2 (e z.1))
theorem lh_run_c {nl : Nat} {z : Nat × Nat} {r : List (Nat × Nat)} {h e : Nat → Nat} : lh_run nl (z :: r) h e = if z.1 = nl then lh_run nl r h e else if e z.1 = 0 ∨ e z.1 = z.2 + 1 then none else lh_run nl r (lh_ins h z.1 z.2) (lh_up e z.2 (e z.1)) := rfl
theorem lh_run_fit {h0 e0 : Nat → Nat} {m : Nat} {pa pt : Nat → Nat} {pk : Nat → Bool} {wh : Prop} {q0 : Nat → List Nat} {nl : Nat} {G : Nat → Prop}
    (he0 : ∀ x, e0 x ≠ 0 → h0 x ≠ 0) (F0 : lh_fit h0 (fun x => e0 x = 0) m pa pt pk wh q0)
    (Y : ∀ s f, e0 s ≠ 0 → G f → e0 s ≠ f + 1 → ∃ q1, lh_fit (lh_ins h0 s f) (fun _ => True) m pa pt pk wh q1)
    (hG : ∀ f, G f → h0 f = 0) :
    ∀ (r : List (Nat × Nat)) (h e : Nat → Nat) (q : Nat → List Nat) (ow : Nat → Nat), (∀ x, x ∈ r → G x.2 ∧ h x.2 = 0) → (r.map (fun x => x.2)).Nodup → lh_fit h (fun x => e x = 0) m pa pt pk wh q → (∀ x, e x ≠ 0 → h x ≠ 0 ∧ e0 (ow x) ≠ 0 ∧ e x = e0 (ow x)) → (∀ j, j < m → ∀ x, x ∈ q j → ow x ∈ q0 j) → ∀ h' e', lh_run nl r h e = some (h', e') → ∃ q', lh_fit h' (fun x => e' x = 0) m pa pt pk wh q' := by
  intro r
  induction r with
  | nil =>
    intro h e q ow _ _ F _ _ h' e' E
    simp only [lh_run, Option.some.injEq, Prod.mk.injEq] at E
    obtain ⟨E1, E2⟩ := E
    subst E1; subst E2
    exact ⟨q, F⟩
  | cons z r ih =>
    obtain ⟨b, f⟩ := z
    intro h e q ow hr nd F H O h' e' E
    rw [List.map_cons] at nd
    obtain ⟨nz, nd'⟩ := List.nodup_cons.mp nd
    have gf := hr (b, f) List.mem_cons_self
    have hr' : ∀ x, x ∈ r → G x.2 ∧ h x.2 = 0 := fun x hx => hr x (List.mem_cons_of_mem _ hx)
    rw [lh_run_c] at E
    dsimp only at E gf nz
    by_cases c1 : b = nl
    · rw [if_pos c1] at E
      exact ih h e q ow hr' nd' F H O h' e' E
    · rw [if_neg c1] at E
      by_cases c2 : e b = 0 ∨ e b = f + 1
      · rw [if_pos c2] at E; exact absurd E (by simp)
      · rw [if_neg c2] at E
        have eb : e b ≠ 0 := fun w => c2 (Or.inl w)
        have ef : e b ≠ f + 1 := fun w => c2 (Or.inr w)
        obtain ⟨hb, ob, oe⟩ := H b eb
        have hf : h f = 0 := gf.2
        have bf : b ≠ f := fun w => hb (by rw [w]; exact hf)
        have ok : wh → ∀ j, j < m → b ∈ q j → pt j ≠ f := by
          intro w j hj bj tf
          obtain ⟨q1, F1⟩ := Y (ow b) f ob gf.1 (by rw [← oe]; exact ef)
          exact lh_bad (c := fun x => e0 x = 0) (hG f gf.1) (he0 _ ob) ob w F0 F1 hj (O j hj b bj) tf
        refine ih (lh_ins h b f) (lh_up e f (e b)) (fun j => lh_T b f (pt j) (q j)) (lh_up ow f (ow b)) ?_ nd' (lh_fit_ins (c := fun x => e x = 0) (c' := fun x => lh_up e f (e b) x = 0) hf hb eb ?_ ok F) ?_ ?_ h' e' E
        · intro x hx
          refine ⟨(hr' x hx).1, ?_⟩
          have xf : x.2 ≠ f := fun w => nz (List.mem_map.mpr ⟨x, hx, w⟩)
          have xb : x.2 ≠ b := fun w => hb (by rw [← w]; exact (hr' x hx).2)
          rw [lh_ins_o xf xb]; exact (hr' x hx).2
        · intro x xf hx
          show lh_up e f (e b) x = 0
          rw [lh_up_o xf]; exact hx
        · intro x hx
          by_cases xf : x = f
          · rw [xf, lh_up_s, lh_up_s, lh_ins_f]
            exact ⟨hb, ob, oe⟩
          · rw [lh_up_o xf] at hx
            rw [lh_up_o xf, lh_up_o xf]
            obtain ⟨a1, a2, a3⟩ := H x hx
            refine ⟨?_, a2, a3⟩
            by_cases xb : x = b
            · rw [xb, lh_ins_b bf]; exact Nat.succ_ne_zero _
            · rw [lh_ins_o xf xb]; exact a1
        · intro j hj x hx
          rcases lh_T_mem _ hx with hx | hx
          · have xf : x ≠ f := fun w => lh_pv_cell (F.1 j hj) x hx (by rw [w]; exact hf)
            rw [lh_up_o xf]; exact O j hj x hx
          · rw [hx.1, lh_up_s]; exact O j hj b hx.2.1
theorem lh_run_nl {nl : Nat} {h e : Nat → Nat} : ∀ r : List (Nat × Nat), (∀ x, x ∈ r → x.1 = nl) → lh_run nl r h e = some (h, e) := by
  intro r
  induction r with
  | nil => intro _; rfl
  | cons z r ih =>
    intro H
    rw [lh_run_c]
    rw [if_pos (H z List.mem_cons_self)]
    exact ih (fun x hx => H x (List.mem_cons_of_mem _ hx))
theorem lh_rep {nl : Nat} : ∀ Fl : List Nat, ∀ x, x ∈ (List.replicate Fl.length nl).zip Fl → x.1 = nl := by
  intro Fl x hx
  obtain ⟨a, b⟩ := x
  exact List.eq_of_mem_replicate (List.of_mem_zip hx).1
/-- the run that puts f alone, behind s -/
theorem lh_run_one {nl s f : Nat} {h e : Nat → Nat} (hs : s < 6) (hn : nl < 6) (sn : s ≠ nl) (e0 : e s ≠ 0) (e1 : e s ≠ f + 1) : ∀ Fl : List Nat, f ∈ Fl → ∃ ds : List Nat, ds.length = Fl.length ∧ (∀ d, d ∈ ds → d < 6) ∧ lh_run nl (ds.zip Fl) h e = some (lh_ins h s f, lh_up e f (e s)) := by
  intro Fl
  induction Fl with
  | nil => intro hf; exact absurd hf List.not_mem_nil
  | cons g Fl ih =>
    intro hf
    by_cases e2 : f = g
    · refine ⟨s :: List.replicate Fl.length nl, by simp, ?_, ?_⟩
      · intro d hd
        rcases List.mem_cons.mp hd with hd | hd
        · rw [hd]; exact hs
        · rw [List.eq_of_mem_replicate hd]; exact hn
      · rw [List.zip_cons_cons]
        rw [lh_run_c]
        dsimp only
        rw [if_neg sn, if_neg (fun w => w.elim e0 (fun w => e1 (by rw [e2]; exact w))), ← e2]
        exact lh_run_nl _ (lh_rep Fl)
    · obtain ⟨ds, l1, l2, l3⟩ := ih ((List.mem_cons.mp hf).resolve_left e2)
      refine ⟨nl :: ds, by simp [l1], ?_, ?_⟩
      · intro d hd
        rcases List.mem_cons.mp hd with hd | hd
        · rw [hd]; exact hn
        · exact l2 d hd
      · rw [List.zip_cons_cons]
        rw [lh_run_c]
        dsimp only
        rw [if_pos rfl]
        exact l3
/-- THE HEART: all runs fit iff the plain heap does and each list made longer by one place -/
theorem lh_heart {h e : Nat → Nat} {m : Nat} {pa pt : Nat → Nat} {pk : Nat → Bool} {wh : Prop} {nl : Nat} {Fl : List Nat}
    (he : ∀ x, e x ≠ 0 → h x = e x ∧ x < 6 ∧ x ≠ nl) (hn : nl < 6) (h6 : h 6 = 0) (hF : ∀ f, f ∈ Fl → h f = 0) (nd : Fl.Nodup) (ht : ∀ j, j < m → pt j < 6) :
    (∀ ds : List Nat, ds.length = Fl.length → (∀ d, d ∈ ds → d < 6) → ∀ h' e', lh_run nl (ds.zip Fl) h e = some (h', e') → ∃ q, lh_fit h' (fun x => e' x = 0) m pa pt pk wh q) ↔
    ((∃ q, lh_fit h (fun _ => True) m pa pt pk wh q) ∧ ∀ s f, e s ≠ 0 → (f = 6 ∨ f ∈ Fl) → e s ≠ f + 1 → ∃ q, lh_fit (lh_ins h s f) (fun _ => True) m pa pt pk wh q) := by
  constructor
  · intro X
    have X0 := X (List.replicate Fl.length nl) (by simp) (fun d hd => by rw [List.eq_of_mem_replicate hd]; exact hn) h e (lh_run_nl _ (lh_rep Fl))
    obtain ⟨q, F⟩ := X0
    refine ⟨⟨q, lh_fit_weak (fun _ _ _ => trivial) F⟩, ?_⟩
    intro s f es hf ef
    rcases hf with hf | hf
    · subst hf
      have hs : h s ≠ 0 := by rw [(he s es).1]; exact es
      exact ⟨_, lh_fit_ins (c := fun x => e x = 0) (c' := fun _ => True) h6 hs es (fun _ _ _ => trivial) (fun _ j hj _ z => absurd (ht j hj) (by rw [z]; decide)) F⟩
    · obtain ⟨ds, l1, l2, l3⟩ := lh_run_one (h := h) (he s es).2.1 hn (he s es).2.2 es ef Fl hf
      obtain ⟨q', F'⟩ := X ds l1 l2 _ _ l3
      exact ⟨q', lh_fit_weak (fun _ _ _ => trivial) F'⟩
  · intro Y ds l1 l2 h' e' E
    obtain ⟨⟨q, F⟩, Y1⟩ := Y
    have F0 : lh_fit h (fun x => e x = 0) m pa pt pk wh q := by
      refine ⟨fun j hj => ⟨(F.1 j hj).1, fun k0 => ?_⟩, F.2.1, F.2.2.1, F.2.2.2⟩
      obtain ⟨a1, a2, _⟩ := (F.1 j hj).2 k0
      refine ⟨a1, a2, ?_⟩
      by_cases z : e (pa j) = 0
      · exact z
      · exfalso
        have tj := ht j hj
        have ee := (he _ z).1
        obtain ⟨q1, F1⟩ := Y1 (pa j) 6 z (Or.inl rfl) (by omega)
        have b2 := ((F1.1 j hj).2 k0).2.1
        have n6 : pa j ≠ 6 := by have := (he _ z).2.1; omega
        rw [lh_ins_b n6] at b2
        omega
    refine lh_run_fit (G := fun f => f ∈ Fl) (fun x hx => by rw [(he x hx).1]; exact hx) F0 (fun s f a b c => Y1 s f a (Or.inr b) c) hF (ds.zip Fl) h e q (fun x => x) ?_ ?_ F0 (fun x hx => ⟨by rw [(he x hx).1]; exact hx, hx, rfl⟩) (fun _ _ _ hx => hx) h' e' E
    · intro x hx
      obtain ⟨a, b⟩ := x
      have hb := (List.of_mem_zip hx).2
      exact ⟨hb, hF b hb⟩
    · have e2 : (ds.zip Fl).map (fun x => x.2) = Fl := List.map_snd_zip (by omega)
      rw [e2]; exact nd
/-! DIGITS of a run's number -/
def lh_dig : Nat → Nat → List Nat
  | _, 0 => []
  | r, n + 1 => r % 6 :: lh_dig (r / 6) n
theorem lh_dig_len : ∀ n r : Nat, (lh_dig r n).length = n := by
  intro n
  induction n with
  | zero => intro r; rfl
  | succ n ih => intro r; simp [lh_dig, ih]
theorem lh_dig_lt : ∀ n r d : Nat, d ∈ lh_dig r n → d < 6 := by
  intro n
  induction n with
  | zero => intro r d hd; exact absurd hd List.not_mem_nil
  | succ n ih =>
    intro r d hd
    rcases List.mem_cons.mp hd with hd | hd
    · omega
    · exact ih _ d hd
theorem lh_dig_all : ∀ (n : Nat) (ds : List Nat), ds.length = n → (∀ d, d ∈ ds → d < 6) → ∃ r, r < 6 ^ n ∧ lh_dig r n = ds := by
  intro n
  induction n with
  | zero =>
    intro ds l _
    exact ⟨0, by decide, (List.length_eq_zero_iff.mp l).symm⟩
  | succ n ih =>
    intro ds l hd
    cases ds with
    | nil => exact absurd l (by simp)
    | cons d ds =>
      obtain ⟨r, r1, r2⟩ := ih ds (by simpa using l) (fun x hx => hd x (List.mem_cons_of_mem _ hx))
      have d6 := hd d List.mem_cons_self
      refine ⟨d + 6 * r, by rw [Nat.pow_succ]; omega, ?_⟩
      have e1 : (d + 6 * r) % 6 = d := by omega
      have e2 : (d + 6 * r) / 6 = r := by omega
      show (d + 6 * r) % 6 :: lh_dig ((d + 6 * r) / 6) n = d :: ds
      rw [e1, e2, r2]
