/-! the class: its grammar takes a row -/
theorem c_lettersIn {E : av_E} {σ : av_M} {Q : Option av_V → av_M → Prop} {w : Nat} (hw : w < 2 ^ 31) (hQ : Q (some (av_i (rw_cn 9 w : Int))) σ) : av_C E cSH mX4_lettersIn [av_i (w : Int)] σ Q := by
  apply uX4_lettersIn
  have key : ∀ (k i l : Nat), i + k = 9 → l ≤ w → i + rw_cn k l = rw_cn 9 w → av_W E cSH mX4_lettersIn 6 [some (av_i (w : Int)), some (av_i (i : Int)), some (av_i (l : Int)), some (av_i (i : Int))] [] σ Q := by
    intro k
    induction k with
    | zero =>
      intro i l hk hl he
      apply uX4_lettersIn_6
      refine ⟨by omega, fun _ => ?_, fun c => by omega⟩
      rw [rw_cn] at he
      rw [← he] at hQ
      exact hQ
    | succ k ih =>
      intro i l hk hl he
      apply uX4_lettersIn_6
      rw [rw_cn] at he
      refine ⟨by omega, fun c => by omega, fun _ => ⟨by omega, fun c => ?_, fun c => ⟨by omega, ?_⟩⟩⟩
      · rw [if_pos (by omega)] at he
        rw [← he] at hQ
        exact hQ
      · rw [if_neg (by omega)] at he
        have := ih (i + 1) (l / 6) (by omega) (by omega) (by omega)
        rw [show ((i + 1 : Nat) : Int) = (i : Int) + 1 by omega, show ((l / 6 : Nat) : Int) = (l : Int) / 6 by omega] at this
        exact this
  exact key 9 0 w (by omega) (Nat.le_refl _) (by omega)
/-- the row of a root, as a number -/
def rw_rr (g : gq_T) (r : Nat) : Int := rw_nu (fun i => g.2.2.1 (3 * r + i)) (g.2.1 r)
/-- a world of the class, at place b -/
def cWd (σ : av_M) (b : Nat) (l : gq_T × Nat × (Nat → Int)) : Prop :=
  σ b 8 = (l.1.1 : Int) ∧ σ b 9 = (l.2.1 : Int) ∧ (∀ r, r < l.1.1 → σ (b + 1) r = rw_rr l.1 r ∧ σ (b + 2) r = (l.1.2.1 r : Int) ∧ σ (b + 3) r = l.1.2.2.2.1 r ∧ σ (b + 4) r = l.1.2.2.2.2 r) ∧
  (∀ k, k < l.2.1 → σ (b + 5) k = l.2.2 (3 * k) ∧ σ (b + 6) k = l.2.2 (3 * k + 1) ∧ σ (b + 7) k = l.2.2 (3 * k + 2)) ∧
  ∀ x, x < 216 → ∃ t : Nat, σ (b + 8) x = (t : Int) ∧ t < 65536 ∧ ∀ w, t.testBit w = true ↔ (w < 2 * l.1.1 ∧ rw_rr l.1 (w / 2) = (x : Int) ∧ if w % 2 = 1 then 0 < l.1.2.2.2.2 (w / 2) else 0 < l.1.2.2.2.1 (w / 2))
theorem cWd.congr {σ σ' : av_M} {b : Nat} {l : gq_T × Nat × (Nat → Int)} (h : cWd σ b l) (e : ∀ a k, b ≤ a → a ≤ b + 8 → σ' a k = σ a k) : cWd σ' b l := by
  obtain ⟨h1, h2, h3, h4, h5⟩ := h
  refine ⟨by rw [e b 8 (by omega) (by omega)]; exact h1, by rw [e b 9 (by omega) (by omega)]; exact h2, fun r hr => ?_, fun k hk => ?_, fun x hx => ?_⟩
  · rw [e (b + 1) r (by omega) (by omega), e (b + 2) r (by omega) (by omega), e (b + 3) r (by omega) (by omega), e (b + 4) r (by omega) (by omega)]
    exact h3 r hr
  · rw [e (b + 5) k (by omega) (by omega), e (b + 6) k (by omega) (by omega), e (b + 7) k (by omega) (by omega)]
    exact h4 k hk
  · rw [e (b + 8) x (by omega) (by omega)]
    exact h5 x hx
/-- what the grammar's own works leave as it was -/
def cGf (σ0 σ : av_M) : Prop := ∀ a b, a < 21 ∨ 26 < a → σ a b = σ0 a b
theorem cGf.rf (σ : av_M) : cGf σ σ := fun _ _ _ => rfl
theorem cGf.tr {a b c : av_M} (h : cGf a b) (k : cGf b c) : cGf a c := fun x y p => (k x y p).trans (h x y p)
theorem cGf.st {σ0 σ : av_M} (h : cGf σ0 σ) {c k : Nat} (x : Int) (hc : 21 ≤ c ∧ c ≤ 26) : cGf σ0 (av_st σ c k x) := by
  intro a b p
  rw [← h a b p]
  simp only [av_st]
  rw [if_neg (by omega)]
/-- what is taken, from the places below m on -/
def cGr (σ : av_M) (g : gq_T) (kd : Int) (row : Nat → Int) (n m : Nat) : Prop :=
  σ 21 5 = kd ∧ σ 21 6 = (n : Int) ∧ (∀ i, i < n → σ 22 i = row i + 1) ∧ ∀ p, p < m → ∀ i, i < 3 → ∃ t : Nat, σ 23 (3 * p + i) = (t : Int) ∧ t < 65536 ∧ ∀ w, t.testBit w = gq_bit g row n p (i + 1) w
theorem rw_nu_inj {f h : Nat → Int} {n m : Nat} (hf : ∀ i, i < n → 0 ≤ f i ∧ f i ≤ 4) (hh : ∀ i, i < m → 0 ≤ h i ∧ h i ≤ 4) (hn : n ≤ 9) (hm : m ≤ 9) : rw_nu f n = rw_nu h m ↔ n = m ∧ ∀ i, i < n → f i = h i := by
  constructor
  · intro e
    obtain ⟨w, hw⟩ := Int.eq_ofNat_of_zero_le (rw_nu_nn n hf)
    obtain ⟨a1, a2⟩ := rw_dec n f w 9 hf hw hn
    obtain ⟨b1, b2⟩ := rw_dec m h w 9 hh (e.symm.trans hw) hm
    have hnm : n = m := a1.symm.trans b1
    subst hnm
    exact ⟨rfl, fun i hi => (a2 i hi).symm.trans (b2 i hi)⟩
  · rintro ⟨rfl, e⟩
    exact rw_nu_congr n e
theorem rw_nu_lt {f : Nat → Int} : ∀ (n : Nat), (∀ i, i < n → 0 ≤ f i ∧ f i ≤ 4) → rw_nu f n < (6 ^ n : Nat)
  | 0, _ => (by decide : (0 : Int) < ((6 ^ 0 : Nat) : Int))
  | n + 1, h => by
    have := rw_nu_lt n (fun i hi => h i (by omega))
    have := h n (by omega)
    rw [rw_nu, Nat.pow_succ]
    omega
theorem rw_rr_eq {l : gq_T × Nat × (Nat → Int)} (V : gq_V l.1) {row : Nat → Int} {n p i r : Nat} (hrow : ∀ j, j < n → 0 ≤ row j ∧ row j ≤ 4) (hp : p + (i + 1) ≤ n) (hi : i < 3) (hr : r < l.1.1) : rw_rr l.1 r = rw_nu (fun j => row (p + j)) (i + 1) ↔ l.1.2.1 r = i + 1 ∧ ∀ j, j < i + 1 → row (p + j) = l.1.2.2.1 (3 * r + j) := by
  have hm := V.2.1 r hr
  unfold rw_rr
  rw [rw_nu_inj (fun j hj => V.2.2.1 r j hr hj) (fun j hj => hrow _ (by omega)) (by omega) (by omega)]
  constructor
  · rintro ⟨a, b⟩
    exact ⟨a, fun j hj => (b j (by omega)).symm⟩
  · rintro ⟨a, b⟩
    exact ⟨a, fun j hj => (b j (by omega)).symm⟩
theorem c_fitWords {E : av_E} {σ : av_M} {Q : Option av_V → av_M → Prop} {l : gq_T × Nat × (Nat → Int)} {kd : Int} {row : Nat → Int} {n p : Nat} (V : gq_V l.1) (h : cWd σ 3 l) (G : cGr σ l.1 kd row n p) (hn : n ≤ 9) (hp : p < n) (hrow : ∀ j, j < n → 0 ≤ row j ∧ row j ≤ 4) (hQ : ∀ σ', cGf σ σ' → cGr σ' l.1 kd row n (p + 1) → Q none σ') : av_C E cSH mX0_fitWords [av_r 21, av_i (p : Int)] σ Q := by
  apply uX0_fitWords
  have key : ∀ (k i : Nat) (τ : av_M) (x : Int), i + k = 3 → cGf σ τ → (τ 21 5 = kd ∧ τ 21 6 = (n : Int) ∧ (∀ i, i < n → τ 22 i = row i + 1) ∧ ∀ q, q < p + 1 → ∀ j, j < 3 → (q = p → j < i) → ∃ t : Nat, τ 23 (3 * q + j) = (t : Int) ∧ t < 65536 ∧ ∀ w, t.testBit w = gq_bit l.1 row n q (j + 1) w) → (p + i ≤ n → x = rw_nu (fun j => row (p + j)) i) → (n < p + i → x = 0) → av_W E cSH mX0_fitWords 4 [some (av_r 21), some (av_i (p : Int)), some (av_i x), some (av_i (i : Int)), none] [] τ Q := by
    intro k
    induction k with
    | zero =>
      intro i τ x hk F g hx hx0
      apply uX0_fitWords_4
      refine ⟨by omega, fun _ => ?_, fun c => by omega⟩
      refine hQ τ F ⟨g.1, g.2.1, g.2.2.1, fun q hq j hj => g.2.2.2 q hq j hj (fun _ => by omega)⟩
    | succ k ih =>
      intro i τ x hk F g hx hx0
      obtain ⟨g1, g2, g3, g4⟩ := g
      have W := h.congr (σ' := τ) (fun a b h1 h2 => F a b (by omega))
      have step : ∀ (y : Int) (t : Nat) (z : Int), z = (t : Int) → t < 65536 → (∀ w, t.testBit w = gq_bit l.1 row n p (i + 1) w) → (p + (i + 1) ≤ n → y = rw_nu (fun j => row (p + j)) (i + 1)) → (n < p + (i + 1) → y = 0) → av_W E cSH mX0_fitWords 4 [some (av_r 21), some (av_i (p : Int)), some (av_i y), some (av_i ((i : Int) + 1)), none] [] (av_st τ 23 ((p : Int) * 3 + (i : Int)).toNat z) Q := by
        intro y t z hz ht hb hy hy0
        have e : ((p : Int) * 3 + (i : Int)).toNat = 3 * p + i := by omega
        rw [e]
        have := ih (i + 1) (av_st τ 23 (3 * p + i) z) y (by omega) (F.st _ (by omega)) ⟨by simp [av_st]; exact g1, by simp [av_st]; exact g2, fun j hj => by simp [av_st]; exact g3 j hj, fun q hq j hj hqj => ?_⟩ hy hy0
        · exact this
        · by_cases c : 3 * q + j = 3 * p + i
          · have : q = p := by omega
            subst this
            have : j = i := by omega
            subst this
            exact ⟨t, by simp [av_st]; exact hz, ht, hb⟩
          · have := g4 q hq j hj (fun hh => by have := hqj hh; omega)
            simp only [av_st]
            rw [if_neg (by omega)]
            exact this
      apply uX0_fitWords_4
      rw [g2]
      refine ⟨by omega, fun c => by omega, fun _ => ⟨by omega, by omega, fun c => ⟨by omega, ?_⟩, fun c => ⟨by omega, ?_⟩⟩⟩
      · obtain ⟨t, t1, t2, t3⟩ := W.2.2.2.2 0 (by omega)
        refine step 0 t _ t1 t2 (fun w => ?_) (fun c' => by omega) (fun _ => rfl)
        have hb : gq_bit l.1 row n p (i + 1) w = false := by
          unfold gq_bit
          rw [show decide (p + (i + 1) ≤ n) = false from decide_eq_false (by omega)]
          simp
        rw [hb]
        rw [Bool.eq_false_iff]
        intro hc
        obtain ⟨c1, c2, -⟩ := (t3 w).mp hc
        have hm := V.2.1 (w / 2) (by omega)
        have := (rw_nu_inj (m := 0) (h := fun _ => 0) (fun j hj => V.2.2.1 (w / 2) j (by omega) hj) (fun j hj => by omega) (by omega) (by omega)).mp c2
        omega
      · have hx' := hx (by omega)
        have hle : p + (i + 1) ≤ n := by omega
        have hlet : τ 22 ((p : Int) + (i : Int)).toNat = row (p + i) + 1 := by
          rw [show ((p : Int) + (i : Int)).toNat = p + i by omega]
          exact g3 _ (by omega)
        have hy : x * 6 + τ 22 ((p : Int) + (i : Int)).toNat = rw_nu (fun j => row (p + j)) (i + 1) := by
          rw [hlet, hx', rw_nu]
          omega
        have h0 := rw_nu_nn (row := fun j => row (p + j)) (i + 1) (fun j hj => hrow _ (by omega))
        have hlt := rw_nu_lt (f := fun j => row (p + j)) (i + 1) (fun j hj => hrow _ (by omega))
        have h6 : 6 ^ (i + 1) ≤ 6 ^ 3 := Nat.pow_le_pow_right (by omega) (by omega)
        rw [show 6 ^ 3 = 216 from rfl] at h6
        rw [hy]
        obtain ⟨y, hyy⟩ := Int.eq_ofNat_of_zero_le h0
        rw [hyy] at hlt ⊢
        refine ⟨by omega, fun c => by omega, fun _ => ⟨by omega, by omega, ?_⟩⟩
        obtain ⟨t, t1, t2, t3⟩ := W.2.2.2.2 y (by omega)
        refine step _ t _ (by rw [Int.toNat_natCast]; exact t1) t2 (fun w => ?_) (fun _ => hyy.symm) (fun c' => by omega)
        rw [Bool.eq_iff_iff, t3 w, ← hyy]
        by_cases hw : w < 2 * l.1.1
        · rw [rw_rr_eq V hrow hle (by omega) (show w / 2 < l.1.1 by omega)]
          unfold gq_bit
          by_cases hodd : w % 2 = 1
          · simp [hodd, hw, hle, and_assoc, and_comm, and_left_comm]
          · simp [hodd, hw, hle, and_assoc, and_comm, and_left_comm]
        · unfold gq_bit
          simp [hw]
  refine key 3 0 σ 0 rfl (cGf.rf σ) ⟨G.1, G.2.1, G.2.2.1, fun q hq j hj hqj => ?_⟩ (fun _ => rfl) (fun c => by omega)
  refine G.2.2.2 q ?_ j hj
  by_cases hh : q = p
  · have := hqj hh
    omega
  · omega
