theorem co_until {E : av_E} {σ : av_M} {Q : Option av_V → av_M → Prop} {T : Nat} {S : q_S} {k : Int} (hT : T ≤ 50000) (h : cRM σ S) (V : q_V T S) (hk : rg k) (hQ : ∀ σ', cGf σ σ' → Q (some (av_i (sp_until S k))) σ') : av_C E cSH mX4_until [av_r 0, av_i k] σ Q := by
  apply uX4_until
  have h5 := V.1.2.2.1
  unfold sp_until at hQ
  refine c_isReader h V hk ⟨_, rfl, by split <;> decide, fun c => ?_, fun c => ?_⟩
  · have hkk : 0 ≤ k ∧ k < S.1.2.1 := by
      apply Decidable.byContradiction
      intro q
      rw [if_neg q] at c
      exact c rfl
    obtain ⟨k, rfl⟩ := Int.eq_ofNat_of_zero_le hkk.1
    rw [if_pos hkk, Int.toNat_natCast] at hQ
    have hkl : k < S.1.2.1 := by omega
    have hv := V.1.2.2.2 k hkl
    have hf := q_fall_lt V.2.1
    have hh := V.2.2.1.1
    refine c_fall h.2.1 V.2.1 ⟨_, rfl, by omega, ?_⟩
    refine c_verbsToldBy h.1 h.wr V hkl (fun σ1 F1 hlt => ⟨_, rfl, ?_⟩)
    have h1 := h.gf F1
    refine c_holds (k := 1) (by omega) (by omega) ⟨_, rfl, by split <;> decide, fun d => ?_, fun d => ?_⟩
    · rw [if_neg (fun q => by rw [if_pos q.1] at d; omega)] at hQ
      exact hQ σ1 F1
    · have hb : (dSv (q_D S) k).testBit 1 = true := by
        apply Decidable.byContradiction
        intro q
        rw [if_neg q] at d
        exact d rfl
      rw [Int.toNat_natCast, show σ 9 k = S.1.2.2 (3 * k + 1) from (h.1.2.2.2.1 k hkl).2.1, show σ1 27 0 = (S.2.2.1.1 : Int) from h1.2.2.1.1]
      refine ⟨by unfold rg; omega, by unfold rg; omega, fun e => ?_, fun e => ?_⟩
      · rw [if_neg (fun q => by have := q.2; omega)] at hQ
        exact hQ σ1 F1
      · rw [if_pos ⟨hb, by omega⟩] at hQ
        rw [show (q_fall S.2.1 : Int) - 1 - S.1.2.2 (3 * k + 1) = (q_fall S.2.1 : Int) - S.1.2.2 (3 * k + 1) - 1 by omega]
        exact hQ σ1 F1
  · rw [if_neg (fun q => by rw [if_pos q] at c; omega)] at hQ
    exact hQ σ (cGf.rf σ)
