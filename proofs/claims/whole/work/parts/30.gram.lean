/-! The grammar, once, for both sides: what words may stand where, and all readings in their order. -/
/-- how many roots, their letters' number, their letters (3 to a root), weights, verbs -/
abbrev gq_T : Type := Nat × (Nat → Nat) × (Nat → Int) × (Nat → Int) × (Nat → Int)
def gq_ok (g : gq_T) (kw : Nat → Bool) (row : Nat → Int) (n p s w : Nat) : Bool :=
  kw w && (if w % 2 = 1 then decide (0 < g.2.2.2.2 (w / 2)) && decide (s ≠ 2) else decide (0 < g.2.2.2.1 (w / 2))) && decide (p + g.2.1 (w / 2) ≤ n) && decide (∀ i, i < g.2.1 (w / 2) → row (p + i) = g.2.2.1 (3 * (w / 2) + i))
def gq_nx (s w : Nat) : Nat := if w % 2 = 1 then 2 else if s = 0 then 0 else 1
def gq_f (g : gq_T) (kw : Nat → Bool) (row : Nat → Int) (n : Nat) (acc : Nat → Bool) : Nat → Nat → Nat → List (List Nat)
  | 0, p, s => if p = n ∧ acc s = true then [[]] else []
  | f + 1, p, s => if p = n then (if acc s = true then [[]] else []) else (List.range (2 * g.1)).flatMap (fun w => if gq_ok g kw row n p s w = true then (gq_f g kw row n acc f (p + g.2.1 (w / 2)) (gq_nx s w)).map (fun t => w :: t) else [])
def gq_rd (g : gq_T) (kw : Nat → Bool) (row : Nat → Int) (n : Nat) (acc : Nat → Bool) (p s : Nat) : List (List Nat) := gq_f g kw row n acc (n - p) p s
theorem if_iffc {α : Type} {b c : Prop} [Decidable b] [Decidable c] {x y : α} (h : b ↔ c) : (if b then x else y) = (if c then x else y) := by
  by_cases hb : b
  · rw [if_pos hb, if_pos (h.mp hb)]
  · rw [if_neg hb, if_neg (fun z => hb (h.mpr z))]
theorem gq_fm {α β : Type} {l : List α} {f h : α → List β} (e : ∀ x ∈ l, f x = h x) : l.flatMap f = l.flatMap h := by
  induction l with
  | nil => rfl
  | cons a l ih =>
    rw [List.flatMap_cons, List.flatMap_cons, e a List.mem_cons_self, ih (fun x hx => e x (List.mem_cons_of_mem _ hx))]
section GR
variable {g : gq_T} {kw : Nat → Bool} {row : Nat → Int} {n : Nat} {acc : Nat → Bool}
theorem gq_ok_le {p s w : Nat} (h : gq_ok g kw row n p s w = true) : p + g.2.1 (w / 2) ≤ n := by
  simp only [gq_ok, Bool.and_eq_true, decide_eq_true_eq] at h
  exact h.1.2
theorem gq_f_eq (hm : ∀ r, r < g.1 → 0 < g.2.1 r) : ∀ (f p s : Nat), n - p ≤ f → p ≤ n → gq_f g kw row n acc f p s = gq_rd g kw row n acc p s := by
  intro f
  induction f using Nat.strongRecOn with
  | _ f ih =>
    intro p s hf hp
    unfold gq_rd
    by_cases hpn : p = n
    · subst hpn
      rw [Nat.sub_self]
      cases f with
      | zero => rfl
      | succ f => simp [gq_f]
    · obtain ⟨k, hk⟩ : ∃ k, n - p = k + 1 := ⟨n - p - 1, by omega⟩
      obtain ⟨f', rfl⟩ : ∃ f', f = f' + 1 := ⟨f - 1, by omega⟩
      rw [hk]
      simp only [gq_f, if_neg hpn]
      refine gq_fm (fun w hw => ?_)
      have hw2 : w / 2 < g.1 := by have := List.mem_range.mp hw; omega
      by_cases ho : gq_ok g kw row n p s w = true
      · have h1 := gq_ok_le ho
        have h2 := hm _ hw2
        rw [if_pos ho, if_pos ho, ih f' (by omega) _ _ (by omega) h1, ih k (by omega) _ _ (by omega) h1]
      · rw [if_neg ho, if_neg ho]
theorem gq_rd_n (s : Nat) : gq_rd g kw row n acc n s = if acc s = true then [[]] else [] := by
  unfold gq_rd
  rw [Nat.sub_self]
  simp [gq_f]
theorem gq_rd_lt (hm : ∀ r, r < g.1 → 0 < g.2.1 r) {p : Nat} (s : Nat) (hp : p < n) : gq_rd g kw row n acc p s = (List.range (2 * g.1)).flatMap (fun w => if gq_ok g kw row n p s w = true then (gq_rd g kw row n acc (p + g.2.1 (w / 2)) (gq_nx s w)).map (fun t => w :: t) else []) := by
  obtain ⟨k, hk⟩ : ∃ k, n - p = k + 1 := ⟨n - p - 1, by omega⟩
  rw [gq_rd, hk]
  simp only [gq_f, if_neg (by omega : ¬ p = n)]
  refine gq_fm (fun w hw => ?_)
  have hw2 : w / 2 < g.1 := by have := List.mem_range.mp hw; omega
  by_cases ho : gq_ok g kw row n p s w = true
  · have h1 := gq_ok_le ho
    have h2 := hm _ hw2
    rw [if_pos ho, if_pos ho, gq_f_eq hm k _ _ (by omega) h1]
  · rw [if_neg ho, if_neg ho]
end GR
-- the search of the model: words of the lower places (the last one first), what is still to come
def gq_pl (g : gq_T) : List Nat → Nat
  | [] => 0
  | w :: pre => gq_pl g pre + g.2.1 (w / 2)
def gq_sg : List Nat → Nat
  | [] => 0
  | w :: pre => gq_nx (gq_sg pre) w
def gq_o1 (g : gq_T) (kw : Nat → Bool) (row : Nat → Int) (n : Nat) (acc : Nat → Bool) (pre : List Nat) (w : Nat) : List (List Nat) :=
  if gq_ok g kw row n (gq_pl g pre) (gq_sg pre) w = true then (gq_rd g kw row n acc (gq_pl g (w :: pre)) (gq_sg (w :: pre))).map (fun t => (w :: pre).reverse ++ t) else []
def gq_op (g : gq_T) (kw : Nat → Bool) (row : Nat → Int) (n : Nat) (acc : Nat → Bool) (pre : List Nat) (j : Nat) : List (List Nat) :=
  (List.range' j (2 * g.1 - j)).flatMap (gq_o1 g kw row n acc pre)
def gq_rem (g : gq_T) (kw : Nat → Bool) (row : Nat → Int) (n : Nat) (acc : Nat → Bool) : List Nat → List (List Nat)
  | [] => []
  | w :: pre => gq_op g kw row n acc pre (w + 1) ++ gq_rem g kw row n acc pre
section GR2
variable {g : gq_T} {kw : Nat → Bool} {row : Nat → Int} {n : Nat} {acc : Nat → Bool}
theorem gq_op_end {pre : List Nat} {j : Nat} (h : 2 * g.1 ≤ j) : gq_op g kw row n acc pre j = [] := by
  unfold gq_op
  rw [Nat.sub_eq_zero_of_le h]
  rfl
theorem gq_op_step {pre : List Nat} {j : Nat} (h : j < 2 * g.1) : gq_op g kw row n acc pre j = gq_o1 g kw row n acc pre j ++ gq_op g kw row n acc pre (j + 1) := by
  unfold gq_op
  obtain ⟨k, hk⟩ : ∃ k, 2 * g.1 - j = k + 1 := ⟨2 * g.1 - j - 1, by omega⟩
  rw [hk, List.range'_succ, List.flatMap_cons, show 2 * g.1 - (j + 1) = k by omega]
theorem gq_op_0 (hm : ∀ r, r < g.1 → 0 < g.2.1 r) {pre : List Nat} (hp : gq_pl g pre < n) : gq_op g kw row n acc pre 0 = (gq_rd g kw row n acc (gq_pl g pre) (gq_sg pre)).map (fun t => pre.reverse ++ t) := by
  rw [gq_rd_lt hm _ hp, List.map_flatMap, gq_op, Nat.sub_zero, ← List.range_eq_range']
  refine gq_fm (fun w _ => ?_)
  unfold gq_o1
  by_cases ho : gq_ok g kw row n (gq_pl g pre) (gq_sg pre) w = true
  · rw [if_pos ho, if_pos ho, List.map_map]
    refine List.map_congr_left (fun t _ => ?_)
    simp
  · rw [if_neg ho, if_neg ho]
    rfl
end GR2
