/-! take: the letters, and what fits -/
theorem c_take {E : av_E} {σ : av_M} {Q : Option av_V → av_M → Prop} {l : gq_T × Nat × (Nat → Int)} {kd w : Nat} (V : gq_V l.1) (h : cWd σ 3 l) (hk : kd ≤ 4) (hw : w < 2 ^ 31) (hd : ∀ i, i < rw_cn 9 w → 0 ≤ rw_d w (rw_cn 9 w) i ∧ rw_d w (rw_cn 9 w) i ≤ 4) (h9 : rw_cn 9 w ≤ 9)
    (hQ : ∀ σ', cGf σ σ' → cGr σ' l.1 kd (gq_row kd (rw_cn 9 w) (rw_d w (rw_cn 9 w))) (rw_cn 9 w) (rw_cn 9 w) → Q none σ') : av_C E cSH mX0_take [av_r 21, av_i (kd : Int), av_i (w : Int)] σ Q := by
  apply uX0_take
  refine c_lettersIn hw ⟨_, rfl, ?_⟩
  obtain ⟨n, hn⟩ : ∃ n, rw_cn 9 w = n := ⟨_, rfl⟩
  rw [hn] at hd h9 hQ ⊢
  obtain ⟨row, hrow⟩ : ∃ row, gq_row kd n (rw_d w n) = row := ⟨_, rfl⟩
  have hr4 : ∀ j, j < n → 0 ≤ row j ∧ row j ≤ 4 := by
    intro j hj
    rw [← hrow]
    unfold gq_row
    split
    · exact hd _ (by omega)
    · exact hd _ hj
  rw [hrow] at hQ
  -- the places one by one
  have fit : ∀ (k p : Nat) (τ : av_M) (z : Int), p + k = n → cGf σ τ → cGr τ l.1 kd row n p → av_W E cSH mX0_take 72 [some (av_r 21), some (av_i (kd : Int)), some (av_i (w : Int)), some (av_i z), some (av_i (p : Int))] [] τ Q := by
    intro k
    induction k with
    | zero =>
      intro p τ z hp F G
      apply uX0_take_72
      rw [G.2.1]
      refine ⟨by omega, by omega, fun _ => ?_, fun c => by omega⟩
      have : p = n := by omega
      subst this
      exact hQ τ F G
    | succ k ih =>
      intro p τ z hp F G
      apply uX0_take_72
      rw [G.2.1]
      refine ⟨by omega, by omega, fun c => by omega, fun _ => ?_⟩
      refine c_fitWords V (h.congr (fun a b h1 h2 => F a b (by omega))) G h9 (by omega) hr4 (fun σ' F' G' => ⟨rfl, ?_⟩)
      have := ih (p + 1) σ' z (by omega) (F.tr F') G'
      exact this
  -- the letters one by one
  have let1 : ∀ (k i : Nat) (τ : av_M), i + k = n → cGf σ τ → τ 21 5 = (kd : Int) → τ 21 6 = (n : Int) → (∀ j, j < n → (if kd = 3 then j < i else n - i ≤ j) → τ 22 j = row j + 1) → av_W E cSH mX0_take 18 [some (av_r 21), some (av_i (kd : Int)), some (av_i (w : Int)), some (av_i ((w / 6 ^ i : Nat) : Int)), some (av_i (i : Int))] [] τ Q := by
    intro k
    induction k with
    | zero =>
      intro i τ hi F h5 h6 hl
      apply uX0_take_18
      rw [h6]
      refine ⟨by omega, by omega, fun _ => ?_, fun c => by omega⟩
      refine fit n 0 τ _ (by omega) F ⟨h5, h6, fun j hj => hl j hj ?_, fun p hp => by omega⟩
      split <;> omega
    | succ k ih =>
      intro i τ hi F h5 h6 hl
      apply uX0_take_18
      rw [h6, h5]
      have hle : w / 6 ^ i ≤ w := Nat.div_le_self _ _
      have hdiv : ((w / 6 ^ i : Nat) : Int) / 6 = ((w / 6 ^ (i + 1) : Nat) : Int) := by
        rw [Nat.pow_succ, ← Nat.div_div_eq_div_mul]
        omega
      have hmod : ((w / 6 ^ i : Nat) : Int) % 6 = rw_d w n (n - 1 - i) + 1 := by
        unfold rw_d
        rw [show n - 1 - (n - 1 - i) = i by omega]
        omega
      have hz : (0 : Int) ≤ ((w / 6 ^ i : Nat) : Int) ∧ ((w / 6 ^ i : Nat) : Int) < 2147483648 := by
        obtain ⟨z, hz⟩ : ∃ z, w / 6 ^ i = z := ⟨_, rfl⟩
        rw [hz] at hle ⊢
        omega
      refine ⟨by omega, by omega, fun c => by omega, fun _ => ⟨by omega, fun c => ⟨hz, by omega, hz, ?_⟩, fun c => ⟨hz, by omega, hz, ?_⟩⟩⟩
      · rw [hdiv, hmod, show ((n : Int) - 1 - (i : Int)).toNat = n - 1 - i by omega]
        have := ih (i + 1) (av_st τ 22 (n - 1 - i) (rw_d w n (n - 1 - i) + 1)) (by omega) (F.st _ (by omega)) (by simp [av_st]; exact h5) (by simp [av_st]; exact h6) (fun j hj hc => ?_)
        · exact this
        · rw [if_neg (by omega)] at hc
          by_cases hjj : j = n - 1 - i
          · subst hjj
            simp only [av_st]
            rw [if_pos ⟨trivial, trivial⟩, ← hrow]
            unfold gq_row
            rw [if_neg (by omega)]
          · have := hl j hj (by rw [if_neg (by omega)]; omega)
            simp only [av_st]
            rw [if_neg (by omega)]
            exact this
      · rw [hdiv, hmod, Int.toNat_natCast]
        have := ih (i + 1) (av_st τ 22 i (rw_d w n (n - 1 - i) + 1)) (by omega) (F.st _ (by omega)) (by simp [av_st]; exact h5) (by simp [av_st]; exact h6) (fun j hj hc => ?_)
        · exact this
        · rw [if_pos (by omega)] at hc
          by_cases hjj : j = i
          · subst hjj
            simp only [av_st]
            rw [if_pos ⟨trivial, trivial⟩, ← hrow]
            unfold gq_row
            rw [if_pos (by omega)]
          · have := hl j hj (by rw [if_pos (by omega)]; omega)
            simp only [av_st]
            rw [if_neg (by omega)]
            exact this
  have := let1 n 0 (av_st (av_st σ 21 5 (kd : Int)) 21 6 (n : Int)) (by omega) (((cGf.rf σ).st _ (by omega)).st _ (by omega)) (by simp [av_st]) (by simp [av_st]) (fun j hj hc => by split at hc <;> omega)
  rw [Nat.pow_zero, Nat.div_one] at this
  exact this
