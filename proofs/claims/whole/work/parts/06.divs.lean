/-! DIVISIONS: lists of six numbers, the group of each term -/
def lh_gf (l : List Nat) (a : Nat) : Nat := l.getD a 0
/-- how many groups the first k terms have -/
def lh_gof (l : List Nat) : Nat → Nat
  | 0 => 0
  | k + 1 => if lh_gof l k ≤ lh_gf l k then lh_gf l k + 1 else lh_gof l k
/-- the next division, looked for from term i down -/
def lh_ng : Nat → List Nat → List Nat
  | 0, l => l
  | i + 1, l => if lh_gf l (i + 1) < lh_gof l (i + 1) then l.set (i + 1) (lh_gf l (i + 1) + 1) else lh_ng i (l.set (i + 1) 0)
def lh_D : Nat → List Nat
  | 0 => [0, 0, 0, 0, 0, 0]
  | n + 1 => lh_ng 5 (lh_D n)
def lh_it : Nat → List Nat → List (List Nat)
  | 0, _ => []
  | k + 1, l => l :: lh_it k (lh_ng 5 l)
theorem lh_it_map : ∀ k s : Nat, lh_it k (lh_D s) = (List.range' s k).map lh_D := by
  intro k
  induction k with
  | zero => intro s; rfl
  | succ k ih =>
    intro s
    rw [List.range'_succ, List.map_cons]
    exact congrArg (lh_D s :: ·) (ih (s + 1))
def lh_LX : List (List Nat) := lh_it 203 [0, 0, 0, 0, 0, 0]
theorem lh_LX_eq : lh_LX = (List.range 203).map lh_D := by
  rw [List.range_eq_range']
  exact lh_it_map 203 0
/-! the other order: numbers of six digits below 6, the first term the fastest -/
def lh_pr : Nat → Nat → Nat → Bool
  | 0, _, _ => true
  | i + 1, r, ms => if r % 6 ≤ ms then lh_pr i (r / 6) (if ms ≤ r % 6 then r % 6 + 1 else ms) else false
def lh_cd : Nat → Nat → Nat
  | 0, _ => 0
  | k + 1, r => r % 6 + 8 * lh_cd k (r / 6)
def lh_LN : List Nat := [0, 6, 36, 42, 78, 216, 222, 252, 258, 294, 438, 468, 474, 510, 726, 1296, 1302, 1332, 1338, 1374,
  1512, 1518, 1548, 1554, 1590, 1734, 1764, 1770, 1806, 2022, 2598, 2628, 2634, 2670, 2808, 2814, 2844, 2850, 2886, 3030,
  3060, 3066, 3102, 3318, 3966, 4182, 4326, 4356, 4362, 4398, 4614, 5910, 7776, 7782, 7812, 7818, 7854, 7992, 7998, 8028,
  8034, 8070, 8214, 8244, 8250, 8286, 8502, 9072, 9078, 9108, 9114, 9150, 9288, 9294, 9324, 9330, 9366, 9510, 9540, 9546,
  9582, 9798, 10374, 10404, 10410, 10446, 10584, 10590, 10620, 10626, 10662, 10806, 10836, 10842, 10878, 11094, 11742, 11958, 12102, 12132,
  12138, 12174, 12390, 13686, 15558, 15588, 15594, 15630, 15768, 15774, 15804, 15810, 15846, 15990, 16020, 16026, 16062, 16278, 16848, 16854,
  16884, 16890, 16926, 17064, 17070, 17100, 17106, 17142, 17286, 17316, 17322, 17358, 17574, 18150, 18180, 18186, 18222, 18360, 18366, 18396,
  18402, 18438, 18582, 18612, 18618, 18654, 18870, 19518, 19734, 19878, 19908, 19914, 19950, 20166, 21462, 23406, 23622, 23766, 23796, 23802,
  23838, 24054, 24702, 24918, 25062, 25092, 25098, 25134, 25350, 25926, 25956, 25962, 25998, 26136, 26142, 26172, 26178, 26214, 26358, 26388,
  26394, 26430, 26646, 27294, 27510, 27654, 27684, 27690, 27726, 27942, 29238, 31830, 33126, 34422, 35070, 35286, 35430, 35460, 35466, 35502,
  35718, 37014, 44790]
set_option maxRecDepth 100000 in
theorem lh_LN_blk : (List.range 216).all (fun k => decide (lh_LN.filter (fun n => decide (n < 216 * k)) ++ (List.range' (216 * k) 216).filter (fun n => lh_pr 6 n 0) = lh_LN.filter (fun n => decide (n < 216 * k + 216)))) = true := by decide +kernel
theorem lh_LN_up : ∀ k : Nat, k ≤ 216 → (List.range (216 * k)).filter (fun n => lh_pr 6 n 0) = lh_LN.filter (fun n => decide (n < 216 * k)) := by
  intro k
  induction k with
  | zero =>
    intro _
    rw [Nat.mul_zero]
    exact (List.filter_eq_nil_iff.mpr (fun a _ => by simp)).symm
  | succ k ih =>
    intro hk
    have b := List.all_eq_true.mp lh_LN_blk k (List.mem_range.mpr (by omega))
    have b' := of_decide_eq_true b
    have e3 : 216 * (k + 1) = 216 * k + 216 := by omega
    have e : List.range (216 * k + 216) = List.range (216 * k) ++ List.range' (216 * k) 216 := by
      have q := List.range'_append_1 (s := 0) (m := 216 * k) (n := 216)
      rw [Nat.zero_add] at q
      rw [List.range_eq_range', List.range_eq_range', q]
    rw [e3, e, List.filter_append, ih (by omega)]
    exact b'
theorem lh_LN_all : lh_LN.filter (fun n => decide (n < 46656)) = lh_LN := by decide +kernel
theorem lh_LN_eq : (List.range 46656).filter (fun n => lh_pr 6 n 0) = lh_LN := (lh_LN_up 216 (Nat.le_refl _)).trans lh_LN_all
theorem lh_LN_len : lh_LN.length = 203 := by decide +kernel
/-- a number of six digits of three bits, as a division -/
def lh_un (c : Nat) : List Nat := [c % 8, c / 8 % 8, c / 64 % 8, c / 512 % 8, c / 4096 % 8, c / 32768 % 8]
theorem lh_un_gf (c a : Nat) (ha : a < 6) : lh_gf (lh_un c) a = c / 2 ^ (3 * a) % 8 := by
  match a, ha with
  | 0, _ => show c % 8 = c / 1 % 8; rw [Nat.div_one]
  | 1, _ => rfl
  | 2, _ => rfl
  | 3, _ => rfl
  | 4, _ => rfl
  | 5, _ => rfl
def lh_Ec (j : Nat) : Nat := lh_cd 6 (lh_LN.getD j 0)
def lh_E (j : Nat) : List Nat := lh_un (lh_Ec j)
/-- which place of the other order holds the n-th division -/
def lh_PI : List Nat := [0, 52, 15, 67, 118, 5, 57, 108, 20, 72, 123, 34, 86, 137, 173, 2, 54, 105, 17, 69, 120, 31, 83, 134, 170,
  7, 59, 110, 22, 74, 125, 36, 88, 139, 175, 11, 63, 114, 158, 26, 78, 129, 165, 40, 92, 143, 179, 47, 99, 150,
  186, 197, 1, 53, 104, 16, 68, 119, 30, 82, 133, 169, 6, 58, 109, 21, 73, 124, 35, 87, 138, 174, 10, 62, 113,
  157, 25, 77, 128, 164, 39, 91, 142, 178, 46, 98, 149, 185, 196, 3, 55, 106, 18, 70, 121, 32, 84, 135, 171, 8,
  60, 111, 23, 75, 126, 37, 89, 140, 176, 12, 64, 115, 159, 27, 79, 130, 166, 41, 93, 144, 180, 48, 100, 151, 187,
  198, 4, 56, 107, 155, 19, 71, 122, 162, 33, 85, 136, 172, 44, 96, 147, 183, 194, 9, 61, 112, 156, 24, 76, 127,
  163, 38, 90, 141, 177, 45, 97, 148, 184, 195, 13, 65, 116, 160, 28, 80, 131, 167, 42, 94, 145, 181, 49, 101, 152,
  188, 199, 14, 66, 117, 161, 191, 29, 81, 132, 168, 192, 43, 95, 146, 182, 193, 50, 102, 153, 189, 200, 51, 103, 154,
  190, 201, 202]
theorem lh_PI_perm : lh_PI.isPerm (List.range 203) = true := by decide +kernel
theorem lh_PI_map : lh_LX = lh_PI.map lh_E := by decide +kernel
theorem lh_perm : List.Perm ((List.range 203).map lh_D) ((List.range 203).map lh_E) := by
  rw [← lh_LX_eq, lh_PI_map]
  exact (List.isPerm_iff.mp lh_PI_perm).map lh_E
/-- what is so of all divisions in one order is so in the other -/
theorem lh_all {P : List Nat → Prop} : (∀ n, n < 203 → P (lh_D n)) ↔ ∀ n, n < 203 → P (lh_E n) := by
  constructor
  · intro H n hn
    have m : lh_E n ∈ (List.range 203).map lh_D := lh_perm.mem_iff.mpr (List.mem_map.mpr ⟨n, List.mem_range.mpr hn, rfl⟩)
    obtain ⟨k, hk, e⟩ := List.mem_map.mp m
    rw [← e]; exact H k (List.mem_range.mp hk)
  · intro H n hn
    have m : lh_D n ∈ (List.range 203).map lh_E := lh_perm.mem_iff.mp (List.mem_map.mpr ⟨n, List.mem_range.mpr hn, rfl⟩)
    obtain ⟨k, hk, e⟩ := List.mem_map.mp m
    rw [← e]; exact H k (List.mem_range.mp hk)
/-- how many of the first n -/
def lh_ct (G : Nat → List Nat) (p : List Nat → Bool) (n : Nat) : Nat := ((List.range n).map G).countP p
theorem lh_ct_0 {G : Nat → List Nat} {p : List Nat → Bool} : lh_ct G p 0 = 0 := rfl
theorem lh_ct_s {G : Nat → List Nat} {p : List Nat → Bool} {n : Nat} : lh_ct G p (n + 1) = lh_ct G p n + (if p (G n) = true then 1 else 0) := by
  unfold lh_ct
  rw [List.range_succ, List.map_append, List.countP_append, List.map_cons, List.map_nil, List.countP_singleton]
theorem lh_ct_le {G : Nat → List Nat} {p : List Nat → Bool} {n : Nat} : lh_ct G p n ≤ n := by
  have h := List.countP_le_length (p := p) (l := (List.range n).map G)
  rw [List.length_map, List.length_range] at h
  exact h
theorem lh_ct_eq {p : List Nat → Bool} : lh_ct lh_D p 203 = lh_ct lh_E p 203 := lh_perm.countP_eq p
/-- a well-formed division: six groups, each below 6; the groups that there are come first -/
def lh_wf (l : List Nat) : Prop := l.length = 6 ∧ (∀ a, lh_gf l a < 6) ∧ ∀ g, g < 6 → (g < lh_gof l 6 ↔ ∃ a, a < 6 ∧ lh_gf l a = g)
def lh_wfb (l : List Nat) : Bool := decide (l.length = 6) && l.all (fun x => decide (x < 6)) && (List.range 6).all (fun g => decide (g < lh_gof l 6) == (List.range 6).any (fun a => decide (lh_gf l a = g)))
theorem lh_wf_of {l : List Nat} (h : lh_wfb l = true) : lh_wf l := by
  unfold lh_wfb at h
  rw [Bool.and_eq_true, Bool.and_eq_true] at h
  obtain ⟨⟨h1, h2⟩, h3⟩ := h
  have l6 : l.length = 6 := of_decide_eq_true h1
  refine ⟨l6, fun a => ?_, fun g hg => ?_⟩
  · unfold lh_gf
    rw [List.getD_eq_getElem?_getD]
    by_cases c : a < l.length
    · rw [List.getElem?_eq_getElem c]
      exact of_decide_eq_true (List.all_eq_true.mp h2 _ (List.getElem_mem c))
    · rw [List.getElem?_eq_none (by omega)]
      decide
  · have q := List.all_eq_true.mp h3 g (List.mem_range.mpr hg)
    have q' : decide (g < lh_gof l 6) = (List.range 6).any (fun a => decide (lh_gf l a = g)) := by simpa using q
    constructor
    · intro z
      rw [decide_eq_true z] at q'
      obtain ⟨a, a1, a2⟩ := List.any_eq_true.mp q'.symm
      exact ⟨a, List.mem_range.mp a1, of_decide_eq_true a2⟩
    · intro ⟨a, a1, a2⟩
      have w : (List.range 6).any (fun a => decide (lh_gf l a = g)) = true := List.any_eq_true.mpr ⟨a, List.mem_range.mpr a1, decide_eq_true a2⟩
      rw [w] at q'
      exact of_decide_eq_true q'
theorem lh_LX_wf : lh_LX.all lh_wfb = true := by decide +kernel
theorem lh_D_wf {n : Nat} (hn : n < 203) : lh_wf (lh_D n) := by
  have h := lh_LX_wf
  rw [lh_LX_eq] at h
  exact lh_wf_of (List.all_eq_true.mp h _ (List.mem_map.mpr ⟨n, List.mem_range.mpr hn, rfl⟩))
theorem lh_E_wf : ∀ n, n < 203 → lh_wf (lh_E n) := lh_all.mp (fun _ hn => lh_D_wf hn)
theorem lh_gof_le {l : List Nat} (h : ∀ a, lh_gf l a < 6) : ∀ k, lh_gof l k ≤ 6 := by
  intro k
  induction k with
  | zero => exact Nat.zero_le _
  | succ k ih =>
    have a := h k
    show (if lh_gof l k ≤ lh_gf l k then lh_gf l k + 1 else lh_gof l k) ≤ 6
    by_cases c : lh_gof l k ≤ lh_gf l k
    · rw [if_pos c]; omega
    · rw [if_neg c]; exact ih
theorem lh_gf_set {l : List Nat} {k v j : Nat} (hk : k < l.length) : lh_gf (l.set k v) j = if j = k then v else lh_gf l j := by
  unfold lh_gf
  rw [List.getD_eq_getElem?_getD, List.getD_eq_getElem?_getD, List.getElem?_set]
  by_cases e : j = k
  · rw [if_pos e, if_pos e.symm, if_pos hk]; rfl
  · rw [if_neg e, if_neg (Ne.symm e)]
theorem lh_ng_len : ∀ (i : Nat) (l : List Nat), (lh_ng i l).length = l.length := by
  intro i
  induction i with
  | zero => intro l; rfl
  | succ i ih =>
    intro l
    show (if lh_gf l (i + 1) < lh_gof l (i + 1) then l.set (i + 1) (lh_gf l (i + 1) + 1) else lh_ng i (l.set (i + 1) 0)).length = l.length
    by_cases c : lh_gf l (i + 1) < lh_gof l (i + 1)
    · rw [if_pos c, List.length_set]
    · rw [if_neg c, ih, List.length_set]
theorem lh_D_len : ∀ n, (lh_D n).length = 6 := by
  intro n
  induction n with
  | zero => rfl
  | succ n ih => exact (lh_ng_len 5 (lh_D n)).trans ih
/-! the least and the greatest number of cells: none while no division has been good -/
def lh_mn (B : List Nat → Prop) (c : List Nat → Nat) (G : Nat → List Nat) (n : Nat) : Option Nat → Prop
  | none => ∀ i, i < n → ¬ B (G i)
  | some m => (∃ i, i < n ∧ B (G i) ∧ c (G i) = m) ∧ ∀ i, i < n → B (G i) → m ≤ c (G i)
def lh_mx (B : List Nat → Prop) (c : List Nat → Nat) (G : Nat → List Nat) (n : Nat) : Option Nat → Prop
  | none => ∀ i, i < n → ¬ B (G i)
  | some m => (∃ i, i < n ∧ B (G i) ∧ c (G i) = m) ∧ ∀ i, i < n → B (G i) → c (G i) ≤ m
theorem lh_any {P : List Nat → Prop} : (∃ n, n < 203 ∧ P (lh_D n)) ↔ ∃ n, n < 203 ∧ P (lh_E n) := by
  constructor
  · intro ⟨n, hn, p⟩
    by_cases w : ∃ n, n < 203 ∧ P (lh_E n)
    · exact w
    · exact absurd p ((lh_all (P := fun l => ¬ P l)).mpr (fun k hk pk => w ⟨k, hk, pk⟩) n hn)
  · intro ⟨n, hn, p⟩
    by_cases w : ∃ n, n < 203 ∧ P (lh_D n)
    · exact w
    · exact absurd p ((lh_all (P := fun l => ¬ P l)).mp (fun k hk pk => w ⟨k, hk, pk⟩) n hn)
theorem lh_mn_DE {B : List Nat → Prop} {c : List Nat → Nat} : ∀ o, lh_mn B c lh_D 203 o ↔ lh_mn B c lh_E 203 o := by
  intro o
  cases o with
  | none => exact lh_all (P := fun l => ¬ B l)
  | some m => exact and_congr (lh_any (P := fun l => B l ∧ c l = m)) (lh_all (P := fun l => B l → m ≤ c l))
theorem lh_mx_DE {B : List Nat → Prop} {c : List Nat → Nat} : ∀ o, lh_mx B c lh_D 203 o ↔ lh_mx B c lh_E 203 o := by
  intro o
  cases o with
  | none => exact lh_all (P := fun l => ¬ B l)
  | some m => exact and_congr (lh_any (P := fun l => B l ∧ c l = m)) (lh_all (P := fun l => B l → c l ≤ m))
theorem lh_mn_u {B : List Nat → Prop} {c : List Nat → Nat} {G : Nat → List Nat} {n : Nat} {o o' : Option Nat} (a : lh_mn B c G n o) (b : lh_mn B c G n o') : o = o' := by
  cases o with
  | none =>
    cases o' with
    | none => rfl
    | some m => obtain ⟨⟨i, hi, bi, _⟩, _⟩ := b; exact absurd bi (a i hi)
  | some m =>
    obtain ⟨⟨i, hi, bi, ci⟩, am⟩ := a
    cases o' with
    | none => exact absurd bi (b i hi)
    | some m' =>
      obtain ⟨⟨j, hj, bj, cj⟩, bm⟩ := b
      have x := am j hj bj
      have y := bm i hi bi
      exact congrArg some (by omega)
theorem lh_mx_u {B : List Nat → Prop} {c : List Nat → Nat} {G : Nat → List Nat} {n : Nat} {o o' : Option Nat} (a : lh_mx B c G n o) (b : lh_mx B c G n o') : o = o' := by
  cases o with
  | none =>
    cases o' with
    | none => rfl
    | some m => obtain ⟨⟨i, hi, bi, _⟩, _⟩ := b; exact absurd bi (a i hi)
  | some m =>
    obtain ⟨⟨i, hi, bi, ci⟩, am⟩ := a
    cases o' with
    | none => exact absurd bi (b i hi)
    | some m' =>
      obtain ⟨⟨j, hj, bj, cj⟩, bm⟩ := b
      have x := am j hj bj
      have y := bm i hi bi
      exact congrArg some (by omega)
theorem lh_lt_s {n i : Nat} (h : i < n + 1) : i < n ∨ i = n := by omega
theorem lh_mn_no {B : List Nat → Prop} {c : List Nat → Nat} {G : Nat → List Nat} {n : Nat} {o : Option Nat} (a : lh_mn B c G n o) (nb : ¬ B (G n)) : lh_mn B c G (n + 1) o := by
  cases o with
  | none =>
    intro i hi
    rcases lh_lt_s hi with h | h
    · exact a i h
    · rw [h]; exact nb
  | some m =>
    obtain ⟨⟨i, hi, bi, ci⟩, am⟩ := a
    refine ⟨⟨i, by omega, bi, ci⟩, fun j hj bj => ?_⟩
    rcases lh_lt_s hj with h | h
    · exact am j h bj
    · rw [h] at bj; exact absurd bj nb
theorem lh_mn_new {B : List Nat → Prop} {c : List Nat → Nat} {G : Nat → List Nat} {n : Nat} {o : Option Nat} (a : lh_mn B c G n o) (b : B (G n)) (lt : ∀ m, o = some m → c (G n) < m) : lh_mn B c G (n + 1) (some (c (G n))) := by
  refine ⟨⟨n, by omega, b, rfl⟩, fun j hj bj => ?_⟩
  rcases lh_lt_s hj with h | h
  · cases o with
    | none => exact absurd bj (a j h)
    | some m =>
      have x := lt m rfl
      have y := a.2 j h bj
      omega
  · rw [h]; exact Nat.le_refl _
theorem lh_mn_old {B : List Nat → Prop} {c : List Nat → Nat} {G : Nat → List Nat} {n m : Nat} (a : lh_mn B c G n (some m)) (le : m ≤ c (G n)) : lh_mn B c G (n + 1) (some m) := by
  obtain ⟨⟨i, hi, bi, ci⟩, am⟩ := a
  refine ⟨⟨i, by omega, bi, ci⟩, fun j hj bj => ?_⟩
  rcases lh_lt_s hj with h | h
  · exact am j h bj
  · rw [h]; exact le
theorem lh_mx_no {B : List Nat → Prop} {c : List Nat → Nat} {G : Nat → List Nat} {n : Nat} {o : Option Nat} (a : lh_mx B c G n o) (nb : ¬ B (G n)) : lh_mx B c G (n + 1) o := by
  cases o with
  | none =>
    intro i hi
    rcases lh_lt_s hi with h | h
    · exact a i h
    · rw [h]; exact nb
  | some m =>
    obtain ⟨⟨i, hi, bi, ci⟩, am⟩ := a
    refine ⟨⟨i, by omega, bi, ci⟩, fun j hj bj => ?_⟩
    rcases lh_lt_s hj with h | h
    · exact am j h bj
    · rw [h] at bj; exact absurd bj nb
theorem lh_mx_new {B : List Nat → Prop} {c : List Nat → Nat} {G : Nat → List Nat} {n : Nat} {o : Option Nat} (a : lh_mx B c G n o) (b : B (G n)) (lt : ∀ m, o = some m → m < c (G n)) : lh_mx B c G (n + 1) (some (c (G n))) := by
  refine ⟨⟨n, by omega, b, rfl⟩, fun j hj bj => ?_⟩
  rcases lh_lt_s hj with h | h
  · cases o with
    | none => exact absurd bj (a j h)
    | some m =>
      have x := lt m rfl
      have y := a.2 j h bj
      omega
  · rw [h]; exact Nat.le_refl _
theorem lh_mx_old {B : List Nat → Prop} {c : List Nat → Nat} {G : Nat → List Nat} {n m : Nat} (a : lh_mx B c G n (some m)) (le : c (G n) ≤ m) : lh_mx B c G (n + 1) (some m) := by
  obtain ⟨⟨i, hi, bi, ci⟩, am⟩ := a
  refine ⟨⟨i, by omega, bi, ci⟩, fun j hj bj => ?_⟩
  rcases lh_lt_s hj with h | h
  · exact am j h bj
  · rw [h]; exact le
