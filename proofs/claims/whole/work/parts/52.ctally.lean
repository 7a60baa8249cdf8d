/-! tally: how many readings there are from a place on -/
def cacc (kd s : Nat) : Bool := if kd = 1 then decide (s = 0) else if kd = 2 then decide (s ≠ 0) else if kd = 4 then decide (s = 2) else true
def tl_f (N V : Nat → Bool) (A B : Nat → Nat) : Nat → Nat
  | 0 => 0
  | i + 1 => tl_f N V A B i + ((if N (i + 1) = true then A (i + 1) else 0) + (if V (i + 1) = true then B (i + 1) else 0))
theorem tl_f_end {N V : Nat → Bool} {A B : Nat → Nat} {i : Nat} : ∀ (k : Nat), (∀ j, i < j → j ≤ i + k → N j = false ∧ V j = false) → tl_f N V A B (i + k) = tl_f N V A B i
  | 0, _ => rfl
  | k + 1, h => by
    have h1 := h (i + k + 1) (by omega) (by omega)
    rw [show i + (k + 1) = i + k + 1 by omega, tl_f, h1.1, h1.2, tl_f_end k (fun j a b => h j a (by omega))]
    simp
theorem bt_nz {m : Nat} : (¬ ((m : Nat) : Int) = 0) ↔ ∃ w, m.testBit w = true := by
  constructor
  · intro h
    exact Nat.exists_testBit_of_ne_zero (by omega)
  · rintro ⟨w, h⟩ c
    have : m = 0 := by omega
    subst this
    simp at h
theorem bt_evn (w : Nat) : Nat.testBit 21845 w = (decide (w % 2 = 0) && decide (w < 16)) := by
  by_cases hw : w < 16
  · have : ∀ v : Fin 16, Nat.testBit 21845 v = (decide ((v : Nat) % 2 = 0) && decide ((v : Nat) < 16)) := by decide
    exact this ⟨w, hw⟩
  · rw [Nat.testBit_lt_two_pow (Nat.lt_of_lt_of_le (by decide : 21845 < 2 ^ 16) (Nat.pow_le_pow_right (by omega) (by omega)))]
    simp [hw]
theorem bt_lt16 {t w : Nat} (ht : t < 65536) (h : t.testBit w = true) : w < 16 := by
  apply Nat.lt_of_not_le
  intro hc
  rw [Nat.testBit_lt_two_pow (Nat.lt_of_lt_of_le ht (Nat.pow_le_pow_right (by omega) hc : 2 ^ 16 ≤ 2 ^ w))] at h
  cases h
theorem bt_nouns {t a : Nat} (ht : t < 65536) (ha : a < 65536) : rg (i_and (i_and (t : Int) (a : Int)) 21845) ∧ ((¬ i_and (i_and (t : Int) (a : Int)) 21845 = 0) ↔ ∃ w, w % 2 = 0 ∧ t.testBit w = true ∧ a.testBit w = true) := by
  have h1 : t &&& a ≤ t := Nat.and_le_left
  have h2 : t &&& a &&& 21845 ≤ t &&& a := Nat.and_le_left
  rw [bt_and (by omega) (by omega), show (21845 : Int) = ((21845 : Nat) : Int) from rfl, bt_and (by omega) (by omega)]
  refine ⟨by unfold rg; omega, ?_⟩
  rw [bt_nz]
  constructor
  · rintro ⟨w, h⟩
    rw [Nat.testBit_and, Nat.testBit_and, bt_evn] at h
    simp at h
    exact ⟨w, h.2.1, h.1.1, h.1.2⟩
  · rintro ⟨w, h, k, l⟩
    refine ⟨w, ?_⟩
    rw [Nat.testBit_and, Nat.testBit_and, bt_evn, k, l]
    simp [h, bt_lt16 ht k]
theorem bt_verbs {t a : Nat} (ht : t < 65536) (ha : a < 65536) : rg (i_and (i_and (t : Int) (a : Int)) (-21846)) ∧ ((¬ i_and (i_and (t : Int) (a : Int)) (-21846) = 0) ↔ ∃ w, w % 2 = 1 ∧ t.testBit w = true ∧ a.testBit w = true) := by
  have h1 : t &&& a ≤ t := Nat.and_le_left
  obtain ⟨m, m1, m2, m3, m4⟩ := bt_andn (a := t &&& a) (b := 21845) (by omega) (by omega)
  have e : i_xor ((21845 : Nat) : Int) (-1) = -21846 := by decide
  rw [e] at m1
  rw [bt_and (by omega) (by omega), m1]
  refine ⟨by unfold rg; omega, ?_⟩
  rw [bt_nz]
  constructor
  · rintro ⟨w, h⟩
    rw [m4, Nat.testBit_and, bt_evn] at h
    simp at h
    have := bt_lt16 ht h.1.1
    exact ⟨w, by have := h.2; omega, h.1.1, h.1.2⟩
  · rintro ⟨w, h, k, l⟩
    refine ⟨w, ?_⟩
    rw [m4, Nat.testBit_and, bt_evn, k, l]
    simp [h]
theorem c_mayEndAt {E : av_E} {σ : av_M} {Q : Option av_V → av_M → Prop} {kd s : Nat} (h5 : σ 21 5 = (kd : Int)) (hk : kd ≤ 4) (hs : s < 3) (hQ : Q (some (av_i (if cacc kd s = true then 1 else 0))) σ) : av_C E cSH mX0_mayEndAt [av_r 21, av_i (s : Int)] σ Q := by
  apply uX0_mayEndAt
  rw [h5]
  have ek : kd = 0 ∨ kd = 1 ∨ kd = 2 ∨ kd = 3 ∨ kd = 4 := by omega
  have es : s = 0 ∨ s = 1 ∨ s = 2 := by omega
  rcases ek with rfl | rfl | rfl | rfl | rfl <;> rcases es with rfl | rfl | rfl <;>
    (refine ⟨by omega, fun c => ⟨by omega, fun d => ?_, fun d => ?_⟩, fun c => ⟨by omega, fun d => ?_, fun d => ?_⟩, fun c => ?_, fun c => ⟨by omega, fun d => ?_, fun d => ?_⟩, fun c => ?_⟩ <;> first | (exfalso; omega) | exact hQ)
/-- the readings from a place and a stage on, by the words a -/
def cR (g : gq_T) (kd : Nat) (row : Nat → Int) (n a p s : Nat) : List (List Nat) := gq_rd g (fun w => a.testBit w) row n (cacc kd) p s
/-- what is tallied from the place m on -/
def cTl (σ : av_M) (g : gq_T) (kd : Nat) (row : Nat → Int) (n a m : Nat) : Prop := σ 21 7 = (a : Int) ∧ ∀ q, m ≤ q → q ≤ n → ∀ s, s < 3 → σ 24 (3 * q + s) = ((cR g kd row n a q s).length : Int)
theorem c_tallyFrom {E : av_E} {σ : av_M} {Q : Option av_V → av_M → Prop} {g : gq_T} {kd n a p : Nat} {row : Nat → Int} (V : gq_V g) (G : cGr σ g kd row n n) (T : cTl σ g kd row n a (p + 1)) (ha : a < 65536) (hn : n ≤ 9) (hp : p < n)
    (hQ : ∀ σ', cGf σ σ' → cGr σ' g kd row n n → cTl σ' g kd row n a p → Q none σ') : av_C E cSH mX0_tallyFrom [av_r 21, av_i (p : Int)] σ Q := by
  apply uX0_tallyFrom
  obtain ⟨g1, g2, g3, g4⟩ := G
  obtain ⟨t1, t2⟩ := T
  obtain ⟨N, hN⟩ : ∃ N : Nat → Bool, N = fun j => decide (¬ i_and (i_and (σ 23 (3 * p + (j - 1))) (σ 21 7)) 21845 = 0) := ⟨_, rfl⟩
  obtain ⟨Vb, hVb⟩ : ∃ N : Nat → Bool, N = fun j => decide (¬ i_and (i_and (σ 23 (3 * p + (j - 1))) (σ 21 7)) (-21846) = 0) := ⟨_, rfl⟩
  have key0 : ∀ i, i < 3 → (rg (i_and (i_and (σ 23 (3 * p + i)) (σ 21 7)) 21845) ∧ rg (i_and (i_and (σ 23 (3 * p + i)) (σ 21 7)) (-21846))) ∧ (N (i + 1) = true ↔ ∃ w, w % 2 = 0 ∧ gq_bit g row n p (i + 1) w = true ∧ a.testBit w = true) ∧ (Vb (i + 1) = true ↔ ∃ w, w % 2 = 1 ∧ gq_bit g row n p (i + 1) w = true ∧ a.testBit w = true) := by
    intro i hi
    obtain ⟨t, e1, e2, e3⟩ := g4 p hp i hi
    have a1 := bt_nouns (t := t) (a := a) e2 ha
    have a2 := bt_verbs (t := t) (a := a) e2 ha
    rw [hN, hVb]
    dsimp only
    rw [show i + 1 - 1 = i by omega, e1, t1, decide_eq_true_iff, decide_eq_true_iff]
    refine ⟨⟨a1.1, a2.1⟩, ?_, ?_⟩
    · rw [a1.2]
      simp only [e3]
    · rw [a2.2]
      simp only [e3]
  obtain ⟨A, hA⟩ : ∃ A : Nat → Nat → Nat, A = fun s j => (cR g kd row n a (p + j) (gq_nx s 0)).length := ⟨_, rfl⟩
  obtain ⟨B, hB⟩ : ∃ B : Nat → Nat → Nat, B = fun s j => if s = 2 then 0 else (cR g kd row n a (p + j) 2).length := ⟨_, rfl⟩
  have hlen : ∀ s, s < 3 → (cR g kd row n a p s).length = tl_f N Vb (A s) (B s) 3 := by
    intro s hs
    unfold cR
    rw [gq_len V s hp (nb := N) (vb := Vb) (fun i hi => by
      have := (key0 (i - 1) (by omega)).2.1
      rwa [show i - 1 + 1 = i by omega] at this) (fun i hi => by
      have := (key0 (i - 1) (by omega)).2.2
      rwa [show i - 1 + 1 = i by omega] at this)]
    simp only [tl_f, hA, hB, Nat.zero_add]
    by_cases h2 : s = 2
    · subst h2
      simp [cR]
    · simp [cR, h2]
  have hoff : ∀ i, n ≤ p + i → ∀ j, i < j → j ≤ 3 → N j = false ∧ Vb j = false := by
    intro i hi j h1 h2
    obtain ⟨-, b1, b2⟩ := key0 (j - 1) (by omega)
    rw [show j - 1 + 1 = j by omega] at b1 b2
    have hf : ∀ w, gq_bit g row n p j w = true → False := by
      intro w hw
      unfold gq_bit at hw
      rw [show decide (p + j ≤ n) = false from decide_eq_false (by omega)] at hw
      simp at hw
    refine ⟨Bool.eq_false_iff.mpr (fun c => ?_), Bool.eq_false_iff.mpr (fun c => ?_)⟩
    · obtain ⟨w, -, hw, -⟩ := b1.mp c
      exact hf w hw
    · obtain ⟨w, -, hw, -⟩ := b2.mp c
      exact hf w hw
  have fin : ∀ i, i ≤ 3 → (3 ≤ i ∨ n ≤ p + i) → Q none (av_st (av_st (av_st σ 24 ((p : Int) * 3 + 0).toNat (tl_f N Vb (A 0) (B 0) i : Nat)) 24 ((p : Int) * 3 + 1).toNat (tl_f N Vb (A 1) (B 1) i : Nat)) 24 ((p : Int) * 3 + 2).toNat (tl_f N Vb (A 2) (B 2) i : Nat)) := by
    intro i hi hc
    have e : ∀ s, s < 3 → tl_f N Vb (A s) (B s) i = (cR g kd row n a p s).length := by
      intro s hs
      rw [hlen s hs]
      obtain ⟨k, hk⟩ : ∃ k, 3 = i + k := ⟨3 - i, by omega⟩
      rw [hk]
      exact (tl_f_end k (fun j a b => by
        rcases hc with hc | hc
        · omega
        · exact hoff i hc j a (by omega))).symm
    rw [e 0 (by omega), e 1 (by omega), e 2 (by omega), show ((p : Int) * 3 + 0).toNat = 3 * p by omega, show ((p : Int) * 3 + 1).toNat = 3 * p + 1 by omega, show ((p : Int) * 3 + 2).toNat = 3 * p + 2 by omega]
    refine hQ _ ((((cGf.rf σ).st _ (by omega)).st _ (by omega)).st _ (by omega)) ⟨by simp [av_st]; exact g1, by simp [av_st]; exact g2, fun j hj => by simp [av_st]; exact g3 j hj, fun q hq j hj => ?_⟩ ⟨by simp [av_st]; exact t1, fun q hq hqn s hs => ?_⟩
    · simp only [av_st]
      rw [if_neg (by omega), if_neg (by omega), if_neg (by omega)]
      exact g4 q hq j hj
    · by_cases hqp : q = p
      · subst hqp
        have : s = 0 ∨ s = 1 ∨ s = 2 := by omega
        rcases this with rfl | rfl | rfl <;> simp [av_st]
      · simp only [av_st]
        rw [if_neg (by omega), if_neg (by omega), if_neg (by omega)]
        exact t2 q (by omega) hqn s hs
  have key : ∀ (k i : Nat), i + k = 3 → av_W E cSH mX0_tallyFrom 10 [some (av_r 21), some (av_i (p : Int)), some (av_i ((tl_f N Vb (A 0) (B 0) i : Nat) : Int)), some (av_i ((tl_f N Vb (A 1) (B 1) i : Nat) : Int)), some (av_i ((tl_f N Vb (A 2) (B 2) i : Nat) : Int)), some (av_i (i : Int)), none, none] [] σ Q := by
    intro k
    induction k with
    | zero =>
      intro i hi
      apply uX0_tallyFrom_10
      refine ⟨by omega, fun _ => ⟨by omega, by omega, by omega, fin i (by omega) (by omega)⟩, fun c => by omega⟩
    | succ k ih =>
      intro i hi
      apply uX0_tallyFrom_10
      rw [g2]
      refine ⟨by omega, fun c => by omega, fun _ => ⟨by omega, by omega, fun c => ⟨by omega, by omega, by omega, fin i (by omega) (by omega)⟩, fun c => ⟨by omega, ?_⟩⟩⟩
      obtain ⟨⟨r1, r2⟩, -, -⟩ := key0 i (by omega)
      have ei : ((p : Int) * 3 + (i : Int)).toNat = 3 * p + i := by omega
      have c0 : σ 24 (((p : Int) + (i : Int) + 1) * 3 + 0).toNat = (A 0 (i + 1) : Nat) := by
        rw [show (((p : Int) + (i : Int) + 1) * 3 + 0).toNat = 3 * (p + (i + 1)) + 0 by omega, t2 (p + (i + 1)) (by omega) (by omega) 0 (by omega), hA]
        rfl
      have c1 : σ 24 (((p : Int) + (i : Int) + 1) * 3 + 1).toNat = (A 1 (i + 1) : Nat) := by
        rw [show (((p : Int) + (i : Int) + 1) * 3 + 1).toNat = 3 * (p + (i + 1)) + 1 by omega, t2 (p + (i + 1)) (by omega) (by omega) 1 (by omega), hA]
        rfl
      have c2 : σ 24 (((p : Int) + (i : Int) + 1) * 3 + 2).toNat = (B 0 (i + 1) : Nat) := by
        rw [show (((p : Int) + (i : Int) + 1) * 3 + 2).toNat = 3 * (p + (i + 1)) + 2 by omega, t2 (p + (i + 1)) (by omega) (by omega) 2 (by omega), hB]
        rfl
      have e21 : A 2 (i + 1) = A 1 (i + 1) := by rw [hA]; rfl
      have eb1 : B 1 (i + 1) = B 0 (i + 1) := by rw [hB]; rfl
      have eb2 : B 2 (i + 1) = 0 := by rw [hB]; rfl
      have hn' : N (i + 1) = decide (¬ i_and (i_and (σ 23 (3 * p + i)) (σ 21 7)) 21845 = 0) := by rw [hN]; rfl
      have hv' : Vb (i + 1) = decide (¬ i_and (i_and (σ 23 (3 * p + i)) (σ 21 7)) (-21846) = 0) := by rw [hVb]; rfl
      rw [ei, c0, c1, c2]
      have := ih (i + 1) (by omega)
      refine ⟨r1, fun n0 => ⟨r2, fun v0 => ?_, fun v1 => ⟨by omega, by omega, ?_⟩⟩, fun n1 => ⟨by omega, by omega, by omega, r2, fun v0 => ?_, fun v1 => ⟨by omega, by omega, ?_⟩⟩⟩
      · have nn : N (i + 1) = false := by rw [hn']; simp [n0]
        have vv : Vb (i + 1) = false := by rw [hv']; simp [v0]
        simp only [tl_f, nn, vv] at this
        simpa using this
      · have nn : N (i + 1) = false := by rw [hn']; simp [n0]
        have vv : Vb (i + 1) = true := by rw [hv']; simp [v1]
        simp only [tl_f, nn, vv, eb1, eb2] at this
        simpa using this
      · have nn : N (i + 1) = true := by rw [hn']; simp [n1]
        have vv : Vb (i + 1) = false := by rw [hv']; simp [v0]
        simp only [tl_f, nn, vv, e21] at this
        simpa using this
      · have nn : N (i + 1) = true := by rw [hn']; simp [n1]
        have vv : Vb (i + 1) = true := by rw [hv']; simp [v1]
        simp only [tl_f, nn, vv, e21, eb1, eb2] at this
        simpa [Int.add_assoc] using this
  exact key 3 0 rfl
