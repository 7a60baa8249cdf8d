/-! how many readings: place by place -/
def gq_V (g : gq_T) : Prop := g.1 ≤ 8 ∧ (∀ r, r < g.1 → 1 ≤ g.2.1 r ∧ g.2.1 r ≤ 3) ∧ (∀ r i, r < g.1 → i < g.2.1 r → 0 ≤ g.2.2.1 (3 * r + i) ∧ g.2.2.1 (3 * r + i) ≤ 4) ∧ (∀ r, r < g.1 → 0 ≤ g.2.2.2.1 r ∧ g.2.2.2.1 r ≤ 60) ∧ (∀ r, r < g.1 → 0 ≤ g.2.2.2.2 r ∧ g.2.2.2.2 r ≤ 3) ∧
  (∀ r q, r < g.1 → q < g.1 → g.2.1 r = g.2.1 q → (∀ i, i < g.2.1 r → g.2.2.1 (3 * r + i) = g.2.2.1 (3 * q + i)) → r = q)
/-- word w is of the i letters from p on -/
def gq_bit (g : gq_T) (row : Nat → Int) (n p i w : Nat) : Bool :=
  decide (w < 2 * g.1) && decide (g.2.1 (w / 2) = i) && (if w % 2 = 1 then decide (0 < g.2.2.2.2 (w / 2)) else decide (0 < g.2.2.2.1 (w / 2))) && decide (p + i ≤ n) && decide (∀ j, j < i → row (p + j) = g.2.2.1 (3 * (w / 2) + j))
def gq_sm (F : Nat → Nat) : Nat → Nat
  | 0 => 0
  | k + 1 => gq_sm F k + F k
theorem gq_sm_congr {F G : Nat → Nat} {N : Nat} (h : ∀ w, w < N → F w = G w) : gq_sm F N = gq_sm G N := by
  induction N with
  | zero => rfl
  | succ k ih => rw [gq_sm, gq_sm, ih (fun w hw => h w (by omega)), h k (by omega)]
theorem gq_sm_0 {F : Nat → Nat} {N : Nat} (h : ∀ w, w < N → F w = 0) : gq_sm F N = 0 := by
  induction N with
  | zero => rfl
  | succ k ih => rw [gq_sm, ih (fun w hw => h w (by omega)), h k (by omega)]
theorem gq_sm_add {F G : Nat → Nat} {N : Nat} : gq_sm (fun w => F w + G w) N = gq_sm F N + gq_sm G N := by
  induction N with
  | zero => rfl
  | succ k ih => simp only [gq_sm, ih]; omega
theorem gq_sm_2 {F : Nat → Nat} {a N : Nat} (h : ∀ w, w < N → w ≠ a → w ≠ a + 1 → F w = 0) (hN : a + 1 < N) : gq_sm F N = F a + F (a + 1) := by
  induction N with
  | zero => omega
  | succ k ih =>
    rw [gq_sm]
    by_cases hk : k = a + 1
    · subst hk
      rw [gq_sm, gq_sm_0 (fun w hw => h w (by omega) (by omega) (by omega))]
      omega
    · rw [ih (fun w hw => h w (by omega)) (by omega), h k (by omega) (by omega) hk]
      rfl
theorem gq_sm_len {α : Type} (f : Nat → List α) (N : Nat) : ((List.range N).flatMap f).length = gq_sm (fun w => (f w).length) N := by
  induction N with
  | zero => rfl
  | succ k ih => rw [List.range_succ, List.flatMap_append, List.length_append, ih]; simp [gq_sm]
section DP
variable {g : gq_T} {kw : Nat → Bool} {row : Nat → Int} {n : Nat} {acc : Nat → Bool}
theorem gq_ok_bit {p s w : Nat} (hw : w < 2 * g.1) : gq_ok g kw row n p s w = (kw w && (if w % 2 = 1 then decide (s ≠ 2) else true) && gq_bit g row n p (g.2.1 (w / 2)) w) := by
  unfold gq_ok gq_bit
  by_cases ho : w % 2 = 1
  · simp [ho, hw, Bool.and_assoc, Bool.and_comm, Bool.and_left_comm]
  · simp [ho, hw, Bool.and_assoc]
theorem gq_bit_uniq (V : gq_V g) {p i w u : Nat} (h1 : gq_bit g row n p i w = true) (h2 : gq_bit g row n p i u = true) : w / 2 = u / 2 := by
  simp only [gq_bit, Bool.and_eq_true, decide_eq_true_eq] at h1 h2
  obtain ⟨⟨⟨⟨a1, a2⟩, a3⟩, a4⟩, a5⟩ := h1
  obtain ⟨⟨⟨⟨b1, b2⟩, b3⟩, b4⟩, b5⟩ := h2
  refine V.2.2.2.2.2 _ _ (by omega) (by omega) (a2.trans b2.symm) (fun j hj => ?_)
  rw [a2] at hj
  rw [← a5 j hj, ← b5 j hj]
theorem gq_sum_i (V : gq_V g) {p s i : Nat} {nb vb : Bool} (hi : i = 1 ∨ i = 2 ∨ i = 3) (hnb : nb = true ↔ ∃ w, w % 2 = 0 ∧ gq_bit g row n p i w = true ∧ kw w = true) (hvb : vb = true ↔ ∃ w, w % 2 = 1 ∧ gq_bit g row n p i w = true ∧ kw w = true) :
    gq_sm (fun w => if g.2.1 (w / 2) = i then (if gq_ok g kw row n p s w = true then (gq_rd g kw row n acc (p + g.2.1 (w / 2)) (gq_nx s w)).length else 0) else 0) (2 * g.1) =
      (if nb = true then (gq_rd g kw row n acc (p + i) (gq_nx s 0)).length else 0) + (if vb = true ∧ s ≠ 2 then (gq_rd g kw row n acc (p + i) 2).length else 0) := by
  have hnx : ∀ w, gq_nx s w = if w % 2 = 1 then 2 else gq_nx s 0 := by
    intro w
    unfold gq_nx
    by_cases h : w % 2 = 1 <;> simp [h]
  by_cases hex : ∃ w, gq_bit g row n p i w = true
  · obtain ⟨w0, hw0⟩ := hex
    have hb0 := hw0
    simp only [gq_bit, Bool.and_eq_true, decide_eq_true_eq] at hb0
    have hmr : ∀ w, w / 2 = w0 / 2 → gq_bit g row n p i w = (if w % 2 = 1 then decide (0 < g.2.2.2.2 (w / 2)) else decide (0 < g.2.2.2.1 (w / 2))) := by
      intro w hw
      unfold gq_bit
      have e1 : decide (w < 2 * g.1) = true := by have := hb0.1.1.1.1; simp; omega
      have e2 : decide (g.2.1 (w / 2) = i) = true := by rw [hw]; simpa using hb0.1.1.1.2
      have e3 : decide (p + i ≤ n) = true := by simpa using hb0.1.2
      have e4 : decide (∀ j, j < i → row (p + j) = g.2.2.1 (3 * (w / 2) + j)) = true := by rw [hw]; simpa using hb0.2
      rw [e1, e2, e3, e4]
      simp
    have ea : (2 * (w0 / 2)) / 2 = w0 / 2 := by omega
    have eb : (2 * (w0 / 2) + 1) / 2 = w0 / 2 := by omega
    have ea2 : (2 * (w0 / 2)) % 2 = 0 := by omega
    have eb2 : (2 * (w0 / 2) + 1) % 2 = 1 := by omega
    have hlt : 2 * (w0 / 2) + 1 < 2 * g.1 := by have := hb0.1.1.1.1; omega
    have hN : nb = true ↔ (gq_bit g row n p i (2 * (w0 / 2)) = true ∧ kw (2 * (w0 / 2)) = true) := by
      rw [hnb]
      constructor
      · rintro ⟨w, h1, h2, h3⟩
        have := gq_bit_uniq V h2 hw0
        have e : w = 2 * (w0 / 2) := by omega
        rw [← e]
        exact ⟨h2, h3⟩
      · rintro ⟨h1, h2⟩
        exact ⟨_, ea2, h1, h2⟩
    have hVv : vb = true ↔ (gq_bit g row n p i (2 * (w0 / 2) + 1) = true ∧ kw (2 * (w0 / 2) + 1) = true) := by
      rw [hvb]
      constructor
      · rintro ⟨w, h1, h2, h3⟩
        have := gq_bit_uniq V h2 hw0
        have e : w = 2 * (w0 / 2) + 1 := by omega
        rw [← e]
        exact ⟨h2, h3⟩
      · rintro ⟨h1, h2⟩
        exact ⟨_, eb2, h1, h2⟩
    rw [gq_sm_2 (a := 2 * (w0 / 2)) ?_ hlt]
    · simp only [ea, eb]
      have em : g.2.1 (w0 / 2) = i := hb0.1.1.1.2
      have hA : gq_nx s (2 * (w0 / 2)) = gq_nx s 0 := (hnx _).trans (if_neg (by omega))
      have hB : gq_nx s (2 * (w0 / 2) + 1) = 2 := (hnx _).trans (if_pos eb2)
      rw [if_pos em, if_pos em, em, hA, hB]
      congr 1
      · refine if_iffc ?_
        rw [hN, gq_ok_bit (by omega), ea, em, if_neg (by omega)]
        simp only [Bool.and_eq_true]
        constructor
        · rintro ⟨⟨a, -⟩, b⟩; exact ⟨b, a⟩
        · rintro ⟨b, a⟩; exact ⟨⟨a, trivial⟩, b⟩
      · refine if_iffc ?_
        rw [hVv, gq_ok_bit hlt, eb, em, if_pos eb2]
        simp only [Bool.and_eq_true, decide_eq_true_eq]
        constructor
        · rintro ⟨⟨a, c⟩, b⟩; exact ⟨⟨b, a⟩, c⟩
        · rintro ⟨⟨b, a⟩, c⟩; exact ⟨⟨a, c⟩, b⟩
    · intro w hw h1 h2
      by_cases hm : g.2.1 (w / 2) = i
      · rw [if_pos hm]
        by_cases ho : gq_ok g kw row n p s w = true
        · rw [gq_ok_bit hw, hm] at ho
          simp only [Bool.and_eq_true] at ho
          have := gq_bit_uniq V ho.2 hw0
          omega
        · rw [if_neg ho]
      · rw [if_neg hm]
  · have hn1 : nb = false := by
      cases h : nb with
      | false => rfl
      | true => obtain ⟨w, -, h2, -⟩ := hnb.mp h; exact absurd ⟨w, h2⟩ hex
    have hv1 : vb = false := by
      cases h : vb with
      | false => rfl
      | true => obtain ⟨w, -, h2, -⟩ := hvb.mp h; exact absurd ⟨w, h2⟩ hex
    rw [hn1, hv1, gq_sm_0]
    · simp
    · intro w hw
      by_cases hm : g.2.1 (w / 2) = i
      · rw [if_pos hm]
        by_cases ho : gq_ok g kw row n p s w = true
        · rw [gq_ok_bit hw, hm] at ho
          simp only [Bool.and_eq_true] at ho
          exact absurd ⟨w, ho.2⟩ hex
        · rw [if_neg ho]
      · rw [if_neg hm]
theorem gq_len (V : gq_V g) {p : Nat} (s : Nat) (hp : p < n) {nb vb : Nat → Bool} (hnb : ∀ i, i = 1 ∨ i = 2 ∨ i = 3 → (nb i = true ↔ ∃ w, w % 2 = 0 ∧ gq_bit g row n p i w = true ∧ kw w = true)) (hvb : ∀ i, i = 1 ∨ i = 2 ∨ i = 3 → (vb i = true ↔ ∃ w, w % 2 = 1 ∧ gq_bit g row n p i w = true ∧ kw w = true)) :
    (gq_rd g kw row n acc p s).length = ((if nb 1 = true then (gq_rd g kw row n acc (p + 1) (gq_nx s 0)).length else 0) + (if vb 1 = true ∧ s ≠ 2 then (gq_rd g kw row n acc (p + 1) 2).length else 0)) +
      ((if nb 2 = true then (gq_rd g kw row n acc (p + 2) (gq_nx s 0)).length else 0) + (if vb 2 = true ∧ s ≠ 2 then (gq_rd g kw row n acc (p + 2) 2).length else 0)) + ((if nb 3 = true then (gq_rd g kw row n acc (p + 3) (gq_nx s 0)).length else 0) + (if vb 3 = true ∧ s ≠ 2 then (gq_rd g kw row n acc (p + 3) 2).length else 0)) := by
  rw [gq_rd_lt (fun r hr => (V.2.1 r hr).1) s hp, gq_sm_len, ← gq_sum_i V (Or.inl rfl) (hnb 1 (by omega)) (hvb 1 (by omega)), ← gq_sum_i V (Or.inr (Or.inl rfl)) (hnb 2 (by omega)) (hvb 2 (by omega)), ← gq_sum_i V (Or.inr (Or.inr rfl)) (hnb 3 (by omega)) (hvb 3 (by omega)), ← gq_sm_add, ← gq_sm_add]
  refine gq_sm_congr (fun w hw => ?_)
  have hm := V.2.1 (w / 2) (by omega)
  have e : (if gq_ok g kw row n p s w = true then List.map (fun t => w :: t) (gq_rd g kw row n acc (p + g.2.1 (w / 2)) (gq_nx s w)) else []).length = if gq_ok g kw row n p s w = true then (gq_rd g kw row n acc (p + g.2.1 (w / 2)) (gq_nx s w)).length else 0 := by
    split
    · rw [List.length_map]
    · rfl
  rw [e]
  generalize (if gq_ok g kw row n p s w = true then (gq_rd g kw row n acc (p + g.2.1 (w / 2)) (gq_nx s w)).length else 0) = X
  have : g.2.1 (w / 2) = 1 ∨ g.2.1 (w / 2) = 2 ∨ g.2.1 (w / 2) = 3 := by omega
  rcases this with h | h | h <;> simp [h]
theorem gq_bound (V : gq_V g) : ∀ (q p s : Nat), n - p = q → p ≤ n → (gq_rd g kw row n acc p s).length ≤ 6 ^ q := by
  intro q
  induction q using Nat.strongRecOn with
  | _ q ih =>
  intro p s hq hp
  by_cases hpn : p = n
  · subst hpn
    rw [gq_rd_n]
    have : 0 < 6 ^ q := Nat.pow_pos (by omega)
    split
    · simp; omega
    · simp
  · have hdec : ∀ P : Prop, ∃ b : Bool, b = true ↔ P := fun P => by
      by_cases h : P
      · exact ⟨true, by simp [h]⟩
      · exact ⟨false, by simp [h]⟩
    have hnb := fun i => hdec (∃ w, w % 2 = 0 ∧ gq_bit g row n p i w = true ∧ kw w = true)
    have hvb := fun i => hdec (∃ w, w % 2 = 1 ∧ gq_bit g row n p i w = true ∧ kw w = true)
    rw [gq_len V s (by omega) (nb := fun i => (hnb i).choose) (vb := fun i => (hvb i).choose) (fun i _ => (hnb i).choose_spec) (fun i _ => (hvb i).choose_spec)]
    obtain ⟨k, hk⟩ : ∃ k, q = k + 1 := ⟨q - 1, by omega⟩
    have hb : ∀ (i : Nat), (i = 1 ∨ i = 2 ∨ i = 3) → ∀ (c : Prop) (s' : Nat), (c → p + i ≤ n) → ∀ [Decidable c], (if c then (gq_rd g kw row n acc (p + i) s').length else 0) ≤ 6 ^ k := by
      intro i hi c s' hc _
      have hpos : 0 < 6 ^ k := Nat.pow_pos (by omega)
      by_cases h : c
      · rw [if_pos h]
        have h1 := hc h
        have h2 := ih (n - (p + i)) (by omega) (p + i) s' rfl h1
        exact Nat.le_trans h2 (Nat.pow_le_pow_right (by omega) (by omega))
      · rw [if_neg h]
        omega
    have hle : ∀ i w, gq_bit g row n p i w = true → p + i ≤ n := by
      intro i w h
      simp only [gq_bit, Bool.and_eq_true, decide_eq_true_eq] at h
      exact h.1.2
    have hN : ∀ i, (hnb i).choose = true → p + i ≤ n := fun i h => by
      obtain ⟨w, -, h2, -⟩ := (hnb i).choose_spec.mp h
      exact hle i w h2
    have hVv : ∀ i, ((hvb i).choose = true ∧ s ≠ 2) → p + i ≤ n := fun i h => by
      obtain ⟨w, -, h2, -⟩ := (hvb i).choose_spec.mp h.1
      exact hle i w h2
    have a1 := hb 1 (by omega) _ (gq_nx s 0) (hN 1)
    have a2 := hb 1 (by omega) _ 2 (hVv 1)
    have a3 := hb 2 (by omega) _ (gq_nx s 0) (hN 2)
    have a4 := hb 2 (by omega) _ 2 (hVv 2)
    have a5 := hb 3 (by omega) _ (gq_nx s 0) (hN 3)
    have a6 := hb 3 (by omega) _ 2 (hVv 3)
    have e : 6 ^ q = 6 * 6 ^ k := by rw [hk, Nat.pow_succ, Nat.mul_comm]
    omega
/-- fewer than ten and some millions -/
theorem gq_few (V : gq_V g) (hn : n ≤ 9) (p s : Nat) (hp : p ≤ n) : (gq_rd g kw row n acc p s).length ≤ 10077696 := by
  refine Nat.le_trans (gq_bound V (n - p) p s rfl hp) ?_
  exact Nat.le_trans (Nat.pow_le_pow_right (by omega) (by omega : n - p ≤ 9)) (by decide)
end DP
