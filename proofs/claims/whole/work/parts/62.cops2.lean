theorem rw_cn_rub {T : Nat} {S : q_S} (V : q_V T S) (h0 : ¬ S.2.2.1.2.2.2.2 = 0) : rw_cn 9 S.2.2.1.2.2.2.2 = rw_cn 9 (S.2.2.1.2.2.2.2 / 6) + 1 := by
  obtain ⟨-, -, ⟨-, -, -, -, n, row, hn, hr, hw⟩, -⟩ := V
  obtain ⟨e1, -⟩ := rw_dec n row _ 9 hr hw hn
  cases n with
  | zero =>
    rw [rw_nu] at hw
    omega
  | succ n =>
    have hrn := hr n (by omega)
    rw [rw_nu] at hw
    obtain ⟨e2, -⟩ := rw_dec n row (S.2.2.1.2.2.2.2 / 6) 9 (fun i hi => hr i (by omega)) (by omega) (by omega)
    rw [e1, e2]
theorem rw_cn_carve {T : Nat} {S : q_S} (V : q_V T S) {a : Nat} (ha : a ≤ 4) (h9 : ¬ rw_cn 9 S.2.2.1.2.2.2.2 = 9) : rw_cn 9 (6 * S.2.2.1.2.2.2.2 + a + 1) = rw_cn 9 S.2.2.1.2.2.2.2 + 1 := by
  obtain ⟨-, -, ⟨-, -, -, -, n, row, hn, hr, hw⟩, -⟩ := V
  obtain ⟨e1, -⟩ := rw_dec n row _ 9 hr hw hn
  have hn9 : n ≤ 8 := by
    have : rw_cn 9 S.2.2.1.2.2.2.2 = n := e1
    omega
  obtain ⟨e2, -⟩ := rw_dec n row _ 8 hr hw hn9
  rw [e1, rw_cn, if_neg (by omega), show (6 * S.2.2.1.2.2.2.2 + a + 1) / 6 = S.2.2.1.2.2.2.2 by omega, e2]
  omega
theorem co_rub {E : av_E} {σ : av_M} {Q : Option av_V → av_M → Prop} {T : Nat} {S : q_S} (h : cRM σ S) (V : q_V T S) (hQ : ∀ σ', cRM σ' (sp_rub S).2 → Q (some (av_i (sp_rub S).1)) σ') : av_C E cSH mX4_rub [av_r 0] σ Q := by
  apply uX4_rub
  unfold sp_rub at hQ
  have hw := V.wr.1
  rw [h.wr]
  refine ⟨by unfold rg; omega, fun c => ?_, fun c => ?_⟩
  · have e := rw_cn_rub V (by omega)
    rw [if_neg (by omega)] at hQ
    refine c_put h V (fun σ1 h1 => ⟨rfl, ?_⟩)
    have m1 := h1.2.2.1
    rw [show σ1 27 4 = (S.2.2.1.2.2.2.2 : Int) from m1.2.2.2.2, show (S.2.2.1.2.2.2.2 : Int) / 6 = ((S.2.2.1.2.2.2.2 / 6 : Nat) : Int) by omega]
    refine ⟨by omega, ?_⟩
    refine c_lettersIn (by omega) ⟨_, rfl, ?_⟩
    have h2 : cRM (av_st σ1 27 4 ((S.2.2.1.2.2.2.2 / 6 : Nat) : Int)) (q_now (q_past S (q_push S.2.2.2.1 S.2.2.1)) (S.2.2.1.1, S.2.2.1.2.1, S.2.2.1.2.2.1, S.2.2.1.2.2.2.1, S.2.2.1.2.2.2.2 / 6)) := by
      refine h1.now (fun a b p => ?_) ⟨?_, ?_, ?_, ?_, ?_⟩
      · simp only [av_st]; rw [if_neg (by omega)]
      · simp [av_st]; exact m1.1
      · simp [av_st]; exact m1.2.1
      · simp [av_st]; exact m1.2.2.1
      · simp [av_st]; exact m1.2.2.2.1
      · simp [av_st]
    have := hQ _ h2
    rw [show (rw_cn 9 (S.2.2.1.2.2.2.2 / 6) : Int) = (rw_cn 9 S.2.2.1.2.2.2.2 : Int) - 1 by omega]
    exact this
  · have h0 : S.2.2.1.2.2.2.2 = 0 := by omega
    rw [if_pos (by rw [h0]; rfl)] at hQ
    exact hQ σ h
theorem co_carve {E : av_E} {σ : av_M} {Q : Option av_V → av_M → Prop} {T : Nat} {S : q_S} {a : Int} (h : cRM σ S) (V : q_V T S) (ha : rg a) (hQ : ∀ σ', cRM σ' (sp_carve S a).2 → Q (some (av_i (sp_carve S a).1)) σ') : av_C E cSH mX4_carve [av_r 0, av_i a] σ Q := by
  apply uX4_carve
  unfold sp_carve at hQ
  have hw := V.wr
  refine ⟨ha, fun c => ?_, fun c => ⟨ha, fun d => ?_, fun d => ?_⟩⟩
  · rw [if_neg (by omega)] at hQ; exact hQ σ h
  · rw [if_pos (by omega)] at hQ
    rw [h.wr]
    have hw1 := hw.1
    have hw2 := hw.2.1
    refine c_lettersIn (by omega) ⟨_, rfl, by unfold rg; omega, fun e => ?_, fun e => ?_⟩
    · rw [if_neg (by omega)] at hQ
      refine c_put h V (fun σ1 h1 => ⟨rfl, ?_⟩)
      have m1 := h1.2.2.1
      obtain ⟨z, rfl⟩ := Int.eq_ofNat_of_zero_le c
      rw [Int.toNat_natCast] at hQ
      have ec := rw_cn_carve V (a := z) (by omega) (by omega)
      rw [show σ1 27 4 = (S.2.2.1.2.2.2.2 : Int) from m1.2.2.2.2, show (S.2.2.1.2.2.2.2 : Int) * 6 + (z : Int) + 1 = ((6 * S.2.2.1.2.2.2.2 + z + 1 : Nat) : Int) by omega]
      refine c_lettersIn (by have := hw.1; omega) ⟨_, rfl, ?_⟩
      have h2 : cRM (av_st σ1 27 4 ((6 * S.2.2.1.2.2.2.2 + z + 1 : Nat) : Int)) (q_now (q_past S (q_push S.2.2.2.1 S.2.2.1)) (S.2.2.1.1, S.2.2.1.2.1, S.2.2.1.2.2.1, S.2.2.1.2.2.2.1, 6 * S.2.2.1.2.2.2.2 + z + 1)) := by
        refine h1.now (fun a b p => ?_) ⟨?_, ?_, ?_, ?_, ?_⟩
        · simp only [av_st]; rw [if_neg (by omega)]
        · simp [av_st]; exact m1.1
        · simp [av_st]; exact m1.2.1
        · simp [av_st]; exact m1.2.2.1
        · simp [av_st]; exact m1.2.2.2.1
        · simp [av_st]
      have := hQ _ h2
      rw [show (rw_cn 9 (6 * S.2.2.1.2.2.2.2 + z + 1) : Int) = (rw_cn 9 S.2.2.1.2.2.2.2 : Int) + 1 by omega]
      exact this
    · rw [if_pos (by have := hw.2.1; omega)] at hQ
      exact hQ σ h
  · rw [if_neg (by omega)] at hQ; exact hQ σ h
