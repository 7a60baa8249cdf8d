/-! what stands at a time, for both sides -/
def rw_nu (row : Nat → Int) : Nat → Int
  | 0 => 0
  | m + 1 => 6 * rw_nu row m + row m + 1
theorem rw_nu_congr {f h : Nat → Int} : ∀ (n : Nat), (∀ i, i < n → f i = h i) → rw_nu f n = rw_nu h n
  | 0, _ => rfl
  | n + 1, e => by rw [rw_nu, rw_nu, rw_nu_congr n (fun i hi => e i (by omega)), e n (by omega)]
def rw_cn : Nat → Nat → Nat
  | 0, _ => 0
  | f + 1, w => if w = 0 then 0 else 1 + rw_cn f (w / 6)
def rw_d (w n i : Nat) : Int := ((w / 6 ^ (n - 1 - i) % 6 : Nat) : Int) - 1
theorem rw_nu_nn {row : Nat → Int} : ∀ (n : Nat), (∀ i, i < n → 0 ≤ row i ∧ row i ≤ 4) → 0 ≤ rw_nu row n
  | 0, _ => Int.le_refl _
  | n + 1, h => by
    have := rw_nu_nn n (fun i hi => h i (by omega))
    have := h n (by omega)
    rw [rw_nu]
    omega
theorem rw_dec : ∀ (n : Nat) (row : Nat → Int) (w f : Nat), (∀ i, i < n → 0 ≤ row i ∧ row i ≤ 4) → rw_nu row n = (w : Int) → n ≤ f → rw_cn f w = n ∧ ∀ i, i < n → rw_d w n i = row i
  | 0, row, w, f, _, hw, _ => by
    have : w = 0 := by have : (0 : Int) = (w : Int) := hw; omega
    subst this
    refine ⟨?_, fun i hi => by omega⟩
    cases f <;> simp [rw_cn]
  | n + 1, row, w, f, h, hw, hf => by
    obtain ⟨f', rfl⟩ : ∃ f', f = f' + 1 := ⟨f - 1, by omega⟩
    have h0 := rw_nu_nn n (fun i hi => h i (by omega))
    have hn := h n (by omega)
    rw [rw_nu] at hw
    have hw6 : rw_nu row n = ((w / 6 : Nat) : Int) := by omega
    obtain ⟨i1, i2⟩ := rw_dec n row (w / 6) f' (fun i hi => h i (by omega)) hw6 (by omega)
    refine ⟨?_, fun i hi => ?_⟩
    · rw [rw_cn, if_neg (by omega), i1]
      omega
    · by_cases hin : i = n
      · subst hin
        unfold rw_d
        rw [show i + 1 - 1 - i = 0 by omega, Nat.pow_zero, Nat.div_one]
        omega
      · have := i2 i (by omega)
        rw [← this]
        unfold rw_d
        rw [Nat.div_div_eq_div_mul, show n + 1 - 1 - i = n - 1 - i + 1 by omega, Nat.pow_succ, Nat.mul_comm]
/-- hour, gold, verbs known, gate, what is written (as a number) -/
abbrev q_Mo : Type := Nat × Nat × Nat × Nat × Nat
def q_Mv (T : Nat) (m : q_Mo) : Prop := m.1 ≤ T ∧ m.2.1 ≤ 99 ∧ m.2.2.1 < 16 ∧ m.2.2.2.1 ≤ 1 ∧ ∃ (n : Nat) (row : Nat → Int), n ≤ 9 ∧ (∀ i, i < n → 0 ≤ row i ∧ row i ≤ 4) ∧ rw_nu row n = (m.2.2.2.2 : Int)
/-- what is laid (grammar, readers), the river, now, what can be undone, what is kept, what was seen, the text -/
abbrev q_S : Type := (gq_T × Nat × (Nat → Int)) × (Nat × Nat × Nat) × q_Mo × List q_Mo × List q_Mo × List (Nat × Nat) × List Nat
/-! what a wall and its readers are: grammar, how many readers, their kinds, hours, prices (3 to a reader), what is written -/
abbrev gq_D : Type := gq_T × Nat × (Nat → Int) × (Nat → Int) × Nat
def gq_DV (D : gq_D) : Prop := gq_V D.1 ∧ 1 ≤ D.2.1 ∧ D.2.1 ≤ 5 ∧ (∀ k, k < D.2.1 → (0 ≤ D.2.2.1 (3 * k) ∧ D.2.2.1 (3 * k) ≤ 4) ∧ (1 ≤ D.2.2.1 (3 * k + 1) ∧ D.2.2.1 (3 * k + 1) ≤ 12) ∧ (0 ≤ D.2.2.1 (3 * k + 2) ∧ D.2.2.1 (3 * k + 2) ≤ 60)) ∧ D.2.2.2.2 ≤ 9 ∧ ∀ i, i < D.2.2.2.2 → 0 ≤ D.2.2.2.1 i ∧ D.2.2.2.1 i ≤ 4
def q_D (S : q_S) : gq_D := (S.1.1, S.1.2.1, S.1.2.2, rw_d S.2.2.1.2.2.2.2 (rw_cn 9 S.2.2.1.2.2.2.2), rw_cn 9 S.2.2.1.2.2.2.2)
def q_LV (l : gq_T × Nat × (Nat → Int)) : Prop := gq_V l.1 ∧ 1 ≤ l.2.1 ∧ l.2.1 ≤ 5 ∧ (∀ k, k < l.2.1 → (0 ≤ l.2.2 (3 * k) ∧ l.2.2 (3 * k) ≤ 4) ∧ (1 ≤ l.2.2 (3 * k + 1) ∧ l.2.2 (3 * k + 1) ≤ 12) ∧ (0 ≤ l.2.2 (3 * k + 2) ∧ l.2.2 (3 * k + 2) ≤ 60))
def q_RV (r : Nat × Nat × Nat) : Prop := (3 ≤ r.1 ∧ r.1 ≤ 60) ∧ r.2.1 ≤ 24 ∧ 1 ≤ r.2.2 ∧ r.2.2 ≤ 20
def q_V (T : Nat) (S : q_S) : Prop := q_LV S.1 ∧ q_RV S.2.1 ∧ q_Mv T S.2.2.1 ∧ ((∀ m ∈ S.2.2.2.1, q_Mv T m) ∧ S.2.2.2.1.length ≤ 8) ∧ ((∀ m ∈ S.2.2.2.2.1, q_Mv T m) ∧ S.2.2.2.2.1.length ≤ 2) ∧ ((∀ q ∈ S.2.2.2.2.2.1, q.1 < S.1.2.1 ∧ q.2 ≤ 600) ∧ S.2.2.2.2.2.1.length ≤ 6) ∧ (∀ c ∈ S.2.2.2.2.2.2, 32 ≤ c ∧ c ≤ 126) ∧ S.2.2.2.2.2.2.length ≤ 200
theorem q_DV {T : Nat} {S : q_S} (h : q_V T S) : gq_DV (q_D S) := by
  obtain ⟨⟨a1, a2, a3, a4⟩, -, ⟨-, -, -, -, n, row, hn, hr, hw⟩, -⟩ := h
  obtain ⟨e1, e2⟩ := rw_dec n row _ 9 hr hw hn
  have e : rw_cn 9 S.2.2.1.2.2.2.2 = n := e1
  refine ⟨a1, a2, a3, a4, ?_, fun i hi => ?_⟩
  · show rw_cn 9 S.2.2.1.2.2.2.2 ≤ 9
    omega
  · have hi' : i < n := by have : i < rw_cn 9 S.2.2.1.2.2.2.2 := hi; omega
    show 0 ≤ rw_d S.2.2.1.2.2.2.2 (rw_cn 9 S.2.2.1.2.2.2.2) i ∧ rw_d S.2.2.1.2.2.2.2 (rw_cn 9 S.2.2.1.2.2.2.2) i ≤ 4
    rw [e, e2 i hi']
    exact hr i hi'
-- the river
def q_fall (r : Nat × Nat × Nat) : Nat := r.2.1 + (r.1 + r.2.2 - 3) / r.2.2
def q_dep (r : Nat × Nat × Nat) (h : Nat) : Nat := if h ≤ r.2.1 then r.1 else r.1 - r.2.2 * (h - r.2.1)
theorem q_dep_fall {r : Nat × Nat × Nat} (V : q_RV r) {h : Nat} : q_dep r h ≤ 2 ↔ q_fall r ≤ h := by
  obtain ⟨⟨d, t, f⟩, rfl⟩ : ∃ q, r = q := ⟨r, rfl⟩
  obtain ⟨⟨v1, v2⟩, v3, v4, v5⟩ := V
  dsimp only at v1 v2 v3 v4 v5
  unfold q_dep q_fall
  dsimp only
  by_cases hh : h ≤ t
  · rw [if_pos hh]
    have h1 : 1 ≤ (d + f - 3) / f := (Nat.le_div_iff_mul_le (by omega)).mpr (by omega)
    omega
  · rw [if_neg hh]
    obtain ⟨x, hx⟩ : ∃ x, h - t = x := ⟨_, rfl⟩
    rw [hx]
    have h1 : t + (d + f - 3) / f ≤ h ↔ (d + f - 3) / f < x + 1 := by omega
    rw [h1, Nat.div_lt_iff_lt_mul (by omega), Nat.add_mul, Nat.one_mul, Nat.mul_comm x f]
    omega
def q_push (past : List q_Mo) (m : q_Mo) : List q_Mo := (if past.length = 8 then past.tail else past) ++ [m]
