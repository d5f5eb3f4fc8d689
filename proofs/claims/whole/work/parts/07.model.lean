theorem lh_A_up {N : Nat} {a : Nat → Int32} {f : Nat → Nat} (h : lh_A N a f) (k v : Nat) : lh_A N (upd a k (nI v)) (lh_up f k v) := by
  intro i hi
  by_cases e : i = k
  · rw [e, pk_us, lh_up_s]
  · rw [pk_un e, lh_up_o e]; exact h i hi
theorem lh_Ah_up {N : Nat} {a : Nat → Int32} {f : Nat → Nat} (h : lh_Ah N a f) (k v : Nat) : lh_Ah N (upd a k (lh_hv v)) (lh_up f k v) := by
  intro i hi
  by_cases e : i = k
  · rw [e, pk_us, lh_up_s]
  · rw [pk_un e, lh_up_o e]; exact h i hi
theorem lh_Ab_up {N : Nat} {a : Nat → Int32} {f : Nat → Bool} (h : lh_Ab N a f) (k : Nat) (v : Bool) : lh_Ab N (upd a k (lh_bI v)) (lh_upB f k v) := by
  intro i hi
  unfold lh_upB
  by_cases e : i = k
  · rw [e, pk_us, if_pos rfl]
  · rw [pk_un e, if_neg e]; exact h i hi
theorem lh_up_exact {f : Nat → Nat} (k v : Nat) : upd (fun i => nI (f i)) k (nI v) = fun i => nI (lh_up f k v i) := by
  funext i
  by_cases e : i = k
  · rw [e, pk_us, lh_up_s]
  · rw [pk_un e, lh_up_o e]
/-! THE CLAIMS: C the conditions, W the parts (36 if other or list, + 6 a + b), nc and np how many -/
def lh_pa (W : Nat → Nat) (s : Nat) (l : List Nat) (i : Nat) : Nat := lh_gf l (W (6 * s + i) % 36 / 6)
def lh_pt (W : Nat → Nat) (s : Nat) (l : List Nat) (i : Nat) : Nat := lh_gf l (W (6 * s + i) % 6)
def lh_pk (W : Nat → Nat) (s : Nat) (i : Nat) : Bool := decide (36 ≤ W (6 * s + i))
def lh_cok (C : Nat → Nat) (s : Nat) (l : List Nat) (i : Nat) : Prop := lh_gf l (C (8 * s + i) % 36 / 6) = lh_gf l (C (8 * s + i) % 6) ↔ C (8 * s + i) < 36
def lh_ch (C nc : Nat → Nat) (s : Nat) (l : List Nat) : Prop := ∀ i, i < nc s → lh_cok C s l i
def lh_ok (W np : Nat → Nat) (s : Nat) (l : List Nat) : Prop := lh_oks (fun _ => 0) (lh_gf l 5) (lh_pa W s l) (lh_pt W s l) (lh_pk W s) (np s)
def lh_B (C W nc np : Nat → Nat) (s : Nat) (l : List Nat) : Prop := lh_ch C nc s l ∧ lh_ok W np s l
def lh_H (W np : Nat → Nat) (s : Nat) (l : List Nat) : Nat → Nat := lh_hp (fun _ => 0) (lh_pa W s l) (lh_pt W s l) (lh_pk W s) (np s)
def lh_Q (W np : Nat → Nat) (s : Nat) (l : List Nat) : Nat → Nat := lh_ep (fun _ => 0) (lh_pa W s l) (lh_pt W s l) (lh_pk W s) (np s)
section
variable {C W nc np : Nat → Nat} {s : Nat} {l : List Nat}
theorem lh_pa_lt (w : lh_wf l) (i : Nat) : lh_pa W s l i < 6 := w.2.1 _
theorem lh_pt_lt (w : lh_wf l) (i : Nat) : lh_pt W s l i < 6 := w.2.1 _
theorem lh_H_lt (w : lh_wf l) {g : Nat} (z : lh_H W np s l g ≠ 0) : g < 6 := lh_hp_lt (fun i _ => lh_pa_lt w i) z
theorem lh_H_6 (w : lh_wf l) : lh_H W np s l 6 = 0 := by
  by_cases z : lh_H W np s l 6 = 0
  · exact z
  · exact absurd (lh_H_lt w z) (by decide)
theorem lh_H_le (w : lh_wf l) (g : Nat) : lh_H W np s l g ≤ 6 := lh_hp_le (fun i _ => lh_pt_lt w i) (fun _ => Nat.zero_le _) g
theorem lh_Q_le (w : lh_wf l) (g : Nat) : lh_Q W np s l g ≤ 6 := lh_ep_le (fun i _ => lh_pt_lt w i) (fun _ => Nat.zero_le _) g
theorem lh_H_nl (ok : lh_ok W np s l) : lh_H W np s l (lh_gf l 5) = 0 := lh_hp_nl ok rfl
theorem lh_Q_ne (ok : lh_ok W np s l) {g : Nat} : lh_Q W np s l g ≠ 0 ↔ ∃ i, i < np s ∧ lh_pk W s i = true ∧ lh_pa W s l i ≠ lh_pt W s l i ∧ lh_pa W s l i = g := lh_ep_ne ok
theorem lh_Q_H (ok : lh_ok W np s l) {g : Nat} (z : lh_Q W np s l g ≠ 0) : lh_H W np s l g = lh_Q W np s l g ∧ g ≠ lh_gf l 5 := lh_ep_hp ok z
theorem lh_H_at (ok : lh_ok W np s l) {i : Nat} (hi : i < np s) (k : lh_pk W s i = true) (n : lh_pa W s l i ≠ lh_pt W s l i) : lh_H W np s l (lh_pa W s l i) = lh_pt W s l i + 1 ∧ lh_Q W np s l (lh_pa W s l i) = lh_pt W s l i + 1 := by
  have q := lh_hp_at (e0 := fun _ => 0) ok hi (fun w => n w.2)
  rw [if_pos k] at q
  exact q
/-! the cells of a heap ahead of n -/
def lh_cl (h : Nat → Nat) : Nat → Nat
  | 0 => 0
  | g + 1 => if h g = 0 then lh_cl h g else lh_cl h g + 1
theorem lh_cl_le {h : Nat → Nat} : ∀ n, lh_cl h n ≤ n := by
  intro n
  induction n with
  | zero => exact Nat.le_refl _
  | succ n ih =>
    show (if h n = 0 then lh_cl h n else lh_cl h n + 1) ≤ n + 1
    by_cases c : h n = 0
    · rw [if_pos c]; omega
    · rw [if_neg c]; omega
theorem lh_cl_7 {h : Nat → Nat} (z : h 6 = 0) : lh_cl h 7 = lh_cl h 6 := by
  show (if h 6 = 0 then lh_cl h 6 else lh_cl h 6 + 1) = lh_cl h 6
  rw [if_pos z]
/-! the places with cells, as bits -/
def lh_src (h : Nat → Nat) : Nat → Nat
  | 0 => 0
  | g + 1 => if h g = 0 then lh_src h g else lh_src h g ||| 2 ^ g
theorem lh_src_bit {h : Nat → Nat} : ∀ n g, (lh_src h n).testBit g = true ↔ g < n ∧ h g ≠ 0 := by
  intro n
  induction n with
  | zero =>
    intro g
    show Nat.testBit 0 g = true ↔ _
    rw [Nat.zero_testBit]
    exact ⟨fun z => absurd z (by decide), fun z => absurd z.1 (Nat.not_lt_zero g)⟩
  | succ n ih =>
    intro g
    show (if h n = 0 then lh_src h n else lh_src h n ||| 2 ^ n).testBit g = true ↔ _
    by_cases c : h n = 0
    · rw [if_pos c, ih]
      constructor
      · intro z; exact ⟨by omega, z.2⟩
      · intro z
        refine ⟨?_, z.2⟩
        by_cases e : g = n
        · rw [e] at z; exact absurd c z.2
        · omega
    · rw [if_neg c, Nat.testBit_or, Bool.or_eq_true, ih, Nat.testBit_two_pow, decide_eq_true_eq]
      constructor
      · intro z
        rcases z with z | z
        · exact ⟨by omega, z.2⟩
        · rw [← z]; exact ⟨by omega, c⟩
      · intro z
        by_cases e : n = g
        · exact Or.inr e
        · exact Or.inl ⟨by omega, z.2⟩
theorem lh_src_lt {h : Nat → Nat} : ∀ n, lh_src h n < 2 ^ n := by
  intro n
  induction n with
  | zero => exact Nat.one_pos
  | succ n ih =>
    have e : 2 ^ (n + 1) = 2 ^ n * 2 := Nat.pow_succ ..
    show (if h n = 0 then lh_src h n else lh_src h n ||| 2 ^ n) < 2 ^ (n + 1)
    by_cases c : h n = 0
    · rw [if_pos c]; omega
    · rw [if_neg c]
      exact Nat.or_lt_two_pow (by omega) (Nat.pow_lt_pow_right (by decide) (by omega))
theorem lh_src_and {h h' : Nat → Nat} {n : Nat} : lh_src h n &&& lh_src h' n = 0 ↔ ∀ g, g < n → h g ≠ 0 → h' g = 0 := by
  constructor
  · intro z g hg a
    by_cases b : h' g = 0
    · exact b
    · have t : (lh_src h n &&& lh_src h' n).testBit g = true := by
        rw [Nat.testBit_and, (lh_src_bit n g).mpr ⟨hg, a⟩, (lh_src_bit n g).mpr ⟨hg, b⟩]; rfl
      rw [z, Nat.zero_testBit] at t
      exact absurd t (by decide)
  · intro H
    apply Nat.eq_of_testBit_eq
    intro g
    rw [Nat.zero_testBit, Nat.testBit_and]
    cases a : (lh_src h n).testBit g with
    | false => rfl
    | true =>
      cases b : (lh_src h' n).testBit g with
      | false => rfl
      | true =>
        have x := (lh_src_bit n g).mp a
        exact absurd (H g x.1 x.2) ((lh_src_bit n g).mp b).2
end
/-! FOLLOWS and CONTAINS in one division -/
def lh_any6 (e : Nat → Nat) : Prop := ∃ g, g < 6 ∧ e g ≠ 0
def lh_fl (anyL : Bool) (gr nl : Nat) (h : Nat → Nat) (n : Nat) : List Nat := (List.range n).filter (fun g => anyL && (decide (g < gr) && (decide (g ≠ nl) && decide (h g = 0))))
theorem lh_fl_mem {anyL : Bool} {gr nl : Nat} {h : Nat → Nat} {n f : Nat} : f ∈ lh_fl anyL gr nl h n ↔ f < n ∧ anyL = true ∧ f < gr ∧ f ≠ nl ∧ h f = 0 := by
  unfold lh_fl
  rw [List.mem_filter, List.mem_range]
  simp
theorem lh_fl_nd {anyL : Bool} {gr nl : Nat} {h : Nat → Nat} {n : Nat} : (lh_fl anyL gr nl h n).Nodup := List.Nodup.sublist List.filter_sublist List.nodup_range
theorem lh_fl_len {anyL : Bool} {gr nl : Nat} {h : Nat → Nat} {n : Nat} : (lh_fl anyL gr nl h n).length ≤ n := by
  have q := List.length_filter_le (fun g => anyL && (decide (g < gr) && (decide (g ≠ nl) && decide (h g = 0)))) (List.range n)
  rw [List.length_range] at q
  exact q
theorem lh_fl_s {anyL : Bool} {gr nl : Nat} {h : Nat → Nat} {n : Nat} : lh_fl anyL gr nl h (n + 1) = lh_fl anyL gr nl h n ++ (if anyL = true ∧ n < gr ∧ n ≠ nl ∧ h n = 0 then [n] else []) := by
  unfold lh_fl
  rw [List.range_succ, List.filter_append]
  congr 1
  by_cases c : anyL = true ∧ n < gr ∧ n ≠ nl ∧ h n = 0
  · rw [if_pos c]
    apply List.filter_eq_self.mpr
    intro a ha
    have e : a = n := by simpa using ha
    rw [e]
    simp [c.1, c.2.1, c.2.2.1, c.2.2.2]
  · rw [if_neg c]
    apply List.filter_eq_nil_iff.mpr
    intro a ha
    have e : a = n := by simpa using ha
    rw [e]
    intro z
    apply c
    simpa using z
theorem lh_heartK {h e : Nat → Nat} {m : Nat} {pa pt : Nat → Nat} {pk : Nat → Bool} {wh K : Prop} {nl : Nat} {Fl : List Nat}
    (he : ∀ x, e x ≠ 0 → h x = e x ∧ x < 6 ∧ x ≠ nl) (hn : nl < 6) (h6 : h 6 = 0) (hF : ∀ f, f ∈ Fl → h f = 0) (nd : Fl.Nodup) (ht : ∀ j, j < m → pt j < 6) :
    (∀ ds : List Nat, ds.length = Fl.length → (∀ d, d ∈ ds → d < 6) → ∀ h' e', lh_run nl (ds.zip Fl) h e = some (h', e') → K ∧ ∃ q, lh_fit h' (fun x => e' x = 0) m pa pt pk wh q) ↔
    ((K ∧ ∃ q, lh_fit h (fun _ => True) m pa pt pk wh q) ∧ ∀ s f, e s ≠ 0 → (f = 6 ∨ f ∈ Fl) → e s ≠ f + 1 → K ∧ ∃ q, lh_fit (lh_ins h s f) (fun _ => True) m pa pt pk wh q) := by
  by_cases k : K
  · have H := lh_heart (wh := wh) (pa := pa) (pk := pk) he hn h6 hF nd ht
    constructor
    · intro X
      have Y := H.mp (fun ds a b h' e' c => (X ds a b h' e' c).2)
      exact ⟨⟨k, Y.1⟩, fun s f a b c => ⟨k, Y.2 s f a b c⟩⟩
    · intro Y ds a b h' e' c
      exact ⟨k, H.mpr ⟨Y.1.2, fun s f a b c => (Y.2 s f a b c).2⟩ ds a b h' e' c⟩
  · constructor
    · intro X
      exact absurd (X (List.replicate Fl.length nl) (by simp) (fun d hd => by rw [List.eq_of_mem_replicate hd]; exact hn) h e (lh_run_nl _ (lh_rep Fl))).1 k
    · intro Y
      exact absurd Y.1.1 k
/-- the component: every run below 6 ^ free fits -/
def lh_XF (C W nc np : Nat → Nat) (wh : Prop) (l : List Nat) (Fl : List Nat) : Prop :=
  ∀ r, r < 6 ^ Fl.length → ∀ h' e', lh_run (lh_gf l 5) ((lh_dig r Fl.length).zip Fl) (lh_H W np 0 l) (lh_Q W np 0 l) = some (h', e') → lh_ch C nc 1 l ∧ ∃ q, lh_fit h' (fun x => e' x = 0) (np 1) (lh_pa W 1 l) (lh_pt W 1 l) (lh_pk W 1) wh q
def lh_yf (C W nc np : Nat → Nat) (wh : Prop) (l : List Nat) (h : Nat → Nat) : Prop := lh_ch C nc 1 l ∧ ∃ q, lh_fit h (fun _ => True) (np 1) (lh_pa W 1 l) (lh_pt W 1 l) (lh_pk W 1) wh q
/-- the reference: the plain heap, and each list with one place more -/
def lh_YF (C W nc np : Nat → Nat) (wh : Prop) (l : List Nat) : Prop :=
  lh_yf C W nc np wh l (lh_H W np 0 l) ∧ ∀ i, i < np 0 → lh_pk W 0 i = true → lh_pa W 0 l i ≠ lh_pt W 0 l i → ∀ f, f < 7 → (f = 6 ∨ ∃ a, a < 6 ∧ lh_gf l a = f) → f ≠ lh_gf l 5 → f ≠ lh_pt W 0 l i → lh_H W np 0 l f = 0 → lh_yf C W nc np wh l (lh_ins (lh_H W np 0 l) (lh_pa W 0 l i) f)
theorem lh_FF {C W nc np : Nat → Nat} {wh : Prop} {l : List Nat} {anyL : Bool} (w : lh_wf l) (ok : lh_ok W np 0 l) (ha : anyL = true ↔ lh_any6 (lh_Q W np 0 l)) :
    lh_XF C W nc np wh l (lh_fl anyL (lh_gof l 6) (lh_gf l 5) (lh_H W np 0 l) 6) ↔ lh_YF C W nc np wh l := by
  have he : ∀ x, lh_Q W np 0 l x ≠ 0 → lh_H W np 0 l x = lh_Q W np 0 l x ∧ x < 6 ∧ x ≠ lh_gf l 5 := by
    intro x hx
    have q := lh_Q_H ok hx
    exact ⟨q.1, lh_H_lt w (by rw [q.1]; exact hx), q.2⟩
  have HK := lh_heartK (K := lh_ch C nc 1 l) (wh := wh) (m := np 1) (pa := lh_pa W 1 l) (pt := lh_pt W 1 l) (pk := lh_pk W 1) (Fl := lh_fl anyL (lh_gof l 6) (lh_gf l 5) (lh_H W np 0 l) 6) he (w.2.1 5) (lh_H_6 w) (fun f hf => (lh_fl_mem.mp hf).2.2.2.2) lh_fl_nd (fun j _ => lh_pt_lt w j)
  constructor
  · intro X
    have Y := HK.mp (fun ds a b h' e' c => by
      obtain ⟨r, r1, r2⟩ := lh_dig_all _ ds a b
      rw [← r2] at c
      exact X r r1 h' e' c)
    refine ⟨Y.1, fun i hi k n f hf hf' fn ft f0 => ?_⟩
    have q := lh_H_at ok hi k n
    refine Y.2 (lh_pa W 0 l i) f (by rw [q.2]; exact Nat.succ_ne_zero _) ?_ (by rw [q.2]; omega)
    rcases hf' with h6 | hg
    · exact Or.inl h6
    · refine Or.inr (lh_fl_mem.mpr ?_)
      obtain ⟨a, a1, a2⟩ := hg
      have f6 : f < 6 := by rw [← a2]; exact w.2.1 a
      refine ⟨f6, ha.mpr ⟨lh_pa W 0 l i, lh_pa_lt w i, by rw [q.2]; exact Nat.succ_ne_zero _⟩, (w.2.2 f f6).mpr ⟨a, a1, a2⟩, fn, f0⟩
  · intro Y r r1 h' e' c
    refine HK.mpr ⟨Y.1, fun s f es hf ef => ?_⟩ _ (lh_dig_len _ r) (fun d hd => lh_dig_lt _ r d hd) h' e' c
    obtain ⟨i, hi, k, n, e⟩ := (lh_Q_ne ok).mp es
    have q := lh_H_at ok hi k n
    have nl6 := w.2.1 5
    have t6 : lh_pt W 0 l i < 6 := lh_pt_lt w i
    rw [← e, q.2] at ef
    rw [← e]
    rcases hf with h6 | hg
    · subst h6
      exact Y.2 i hi k n 6 (by decide) (Or.inl rfl) (by omega) (by omega) (lh_H_6 w)
    · have m := lh_fl_mem.mp hg
      exact Y.2 i hi k n f (by omega) (Or.inr ((w.2.2 f m.1).mp m.2.2.1)) m.2.2.2.1 (by omega) m.2.2.2.2
