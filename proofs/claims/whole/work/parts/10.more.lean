/-! RUNS against arrays -/
def lh_bd (N : Nat) (h : Nat → Nat) : Prop := (∀ x, h x ≠ 0 → x < N) ∧ ∀ x, h x ≤ N
theorem lh_bd_ins {h : Nat → Nat} {b f : Nat} {N : Nat} (H : lh_bd N h) (hb : b < N) (hf : f < N) : lh_bd N (lh_ins h b f) := by
  constructor
  · intro x hx
    by_cases e : x = f
    · rw [e]; exact hf
    · by_cases e2 : x = b
      · rw [e2]; exact hb
      · rw [lh_ins_o e e2] at hx; exact H.1 x hx
  · intro x
    by_cases e : x = f
    · rw [e, lh_ins_f]; exact H.2 b
    · by_cases e2 : x = b
      · rw [e2, lh_ins_b (by rw [← e2]; exact e)]; exact hf
      · rw [lh_ins_o e e2]; exact H.2 x
theorem lh_Ah_ins {a : Nat → Int32} {h : Nat → Nat} {b f N : Nat} (H : lh_Ah N a h) (hb : b < N) (n : b ≠ f) : lh_Ah N (upd (upd a f (a b)) b (nI f)) (lh_ins h b f) := by
  intro i hi
  by_cases e : i = b
  · rw [e, pk_us, lh_ins_b n]; rfl
  · rw [pk_un e]
    by_cases e2 : i = f
    · rw [e2, pk_us, lh_ins_f]; exact H b hb
    · rw [pk_un e2, lh_ins_o e2 e]; exact H i hi
theorem lh_Ah_cp {a : Nat → Int32} {h : Nat → Nat} {b f N : Nat} (H : lh_Ah N a h) (hb : b < N) : lh_Ah N (upd a f (a b)) (lh_up h f (h b)) := by
  intro i hi
  by_cases e : i = f
  · rw [e, pk_us, lh_up_s]; exact H b hb
  · rw [pk_un e, lh_up_o e]; exact H i hi
theorem lh_up_le {h : Nat → Nat} {k v N : Nat} (H : ∀ x, h x ≤ N) (hv : v ≤ N) : ∀ x, lh_up h k v x ≤ N := fun x => by
  by_cases e : x = k
  · rw [e, lh_up_s]; exact hv
  · rw [lh_up_o e]; exact H x
theorem lh_drop {Fl : List Nat} {i : Nat} (hi : i < Fl.length) : Fl.drop i = Fl.getD i 0 :: Fl.drop (i + 1) := by
  rw [List.drop_eq_getElem_cons hi, List.getD_eq_getElem?_getD, List.getElem?_eq_getElem hi]
  rfl
theorem lh_run_step {nl r i m : Nat} {Fl : List Nat} {h e : Nat → Nat} (hi : i < Fl.length) :
    lh_run nl ((lh_dig r (m + 1)).zip (Fl.drop i)) h e = if r % 6 = nl then lh_run nl ((lh_dig (r / 6) m).zip (Fl.drop (i + 1))) h e else if e (r % 6) = 0 ∨ e (r % 6) = Fl.getD i 0 + 1 then none else lh_run nl ((lh_dig (r / 6) m).zip (Fl.drop (i + 1))) (lh_ins h (r % 6) (Fl.getD i 0)) (lh_up e (Fl.getD i 0) (e (r % 6))) := by
  rw [lh_drop hi]
  show lh_run nl ((r % 6, Fl.getD i 0) :: (lh_dig (r / 6) m).zip (Fl.drop (i + 1))) h e = _
  rw [lh_run_c]
/-- the free groups from i on: below 6, without an end, no two alike -/
def lh_fr (Fl : List Nat) (i : Nat) (e : Nat → Nat) : Prop := (∀ x, x ∈ Fl → x < 6) ∧ Fl.Nodup ∧ ∀ x, x ∈ Fl.drop i → e x = 0
theorem lh_fr_s {Fl : List Nat} {i : Nat} {e : Nat → Nat} (hi : i < Fl.length) (H : lh_fr Fl i e) : lh_fr Fl (i + 1) e ∧ Fl.getD i 0 < 6 ∧ e (Fl.getD i 0) = 0 ∧ ∀ v, lh_fr Fl (i + 1) (lh_up e (Fl.getD i 0) v) := by
  obtain ⟨a, b, c⟩ := H
  have d := lh_drop hi
  have m : Fl.getD i 0 ∈ Fl.drop i := by rw [d]; exact List.mem_cons_self
  have s : ∀ x, x ∈ Fl.drop (i + 1) → x ∈ Fl.drop i := fun x hx => by rw [d]; exact List.mem_cons_of_mem _ hx
  have nd : (Fl.drop i).Nodup := List.Nodup.sublist (List.drop_sublist i Fl) b
  rw [d] at nd
  have nn := (List.nodup_cons.mp nd).1
  refine ⟨⟨a, b, fun x hx => c x (s x hx)⟩, a _ (List.mem_of_mem_drop m), c _ m, fun v => ⟨a, b, fun x hx => ?_⟩⟩
  rw [lh_up_o (fun z => nn (by rw [← z]; exact hx))]
  exact c x (s x hx)
/-! one step of a list's way -/
theorem lh_one_empty {h : Nat → Nat} {c : Nat → Prop} {a : Nat} {tk : Nat → Bool} : lh_one h c a a true tk [] :=
  lh_one_list.mpr ⟨lh_pre_nil.mpr rfl, List.nodup_nil, fun _ z => absurd z List.not_mem_nil⟩
theorem lh_beg_len {h : Nat → Nat} {t y a N : Nat} {tk : Nat → Bool} {q : List Nat} (B : lh_beg h t y a tk q) (hN : ∀ x, h x ≠ 0 → x < N) : q.length ≤ N :=
  lh_fewN B.2.1 (fun x hx => hN x (lh_pre_cell q a B.1 x hx))
theorem lh_beg_far {h : Nat → Nat} {t y a N : Nat} {tk : Nat → Bool} {q : List Nat} (B : lh_beg h t y a tk q) (hN : ∀ x, h x ≠ 0 → x < N) (l : N ≤ q.length) (yt : y ≠ t) : ¬ ∃ q', lh_way h t a tk q' :=
  fun ⟨q', w⟩ => lh_far hN B.1 l yt ⟨q', w.1⟩
theorem lh_no_one {h : Nat → Nat} {c : Nat → Prop} {a t : Nat} {tk : Nat → Bool} (H : ¬ ∃ q', lh_way h t a tk q') : ¬ ∃ r, lh_one h c a t true tk r :=
  fun ⟨r, w⟩ => H ⟨r, lh_one_list.mp w⟩
