theorem q_fall_lt {r : Nat × Nat × Nat} (V : q_RV r) : q_fall r ≤ 200 := by
  obtain ⟨⟨v1, v2⟩, v3, v4, v5⟩ := V
  unfold q_fall
  have := Nat.div_le_self (r.1 + r.2.2 - 3) r.2.2
  omega
theorem c_hasFallen {E : av_E} {σ : av_M} {Q : Option av_V → av_M → Prop} {T : Nat} {S : q_S} (hT : T ≤ 50000) (h : cRM σ S) (V : q_V T S) (hQ : Q (some (av_i (if S.2.2.1.2.2.2.1 = 0 ∧ q_fall S.2.1 ≤ S.2.2.1.1 then 1 else 0))) σ) : av_C E cSH mX4_hasFallen [av_r 0] σ Q := by
  apply uX4_hasFallen
  have hf := q_fall_lt V.2.1
  have hh := V.2.2.1.1
  have hg := V.2.2.1.2.2.2.1
  rw [show σ 27 3 = (S.2.2.1.2.2.2.1 : Int) from h.2.2.1.2.2.2.1, show σ 27 0 = (S.2.2.1.1 : Int) from h.2.2.1.1]
  refine ⟨by unfold rg; omega, fun c => ?_, fun c => ?_⟩
  · rw [if_neg (by omega)] at hQ; exact hQ
  · refine c_fall h.2.1 V.2.1 ⟨_, rfl, by unfold rg; omega, by unfold rg; omega, fun d => ?_, fun d => ?_⟩
    · rw [if_neg (by omega)] at hQ; exact hQ
    · rw [if_pos (by omega)] at hQ; exact hQ
theorem co_shut {E : av_E} {σ : av_M} {Q : Option av_V → av_M → Prop} {T : Nat} {S : q_S} (hT : T ≤ 50000) (h : cRM σ S) (V : q_V T S) (hQ : ∀ σ', cRM σ' (sp_shut S).2 → Q (some (av_i (sp_shut S).1)) σ') : av_C E cSH mX4_shut [av_r 0] σ Q := by
  apply uX4_shut
  unfold sp_shut at hQ
  have hkn := V.2.2.1.2.2.1
  have hg := V.2.2.1.2.2.2.1
  rw [show σ 27 2 = (S.2.2.1.2.2.1 : Int) from h.2.2.1.2.2.1]
  refine c_holds (k := 1) (by omega) (by omega) ⟨_, rfl, by split <;> decide, fun c => ?_, fun c => ?_⟩
  · have hb : S.2.2.1.2.2.1.testBit 1 = false := by
      cases hh : S.2.2.1.2.2.1.testBit 1
      · rfl
      · rw [hh] at c; simp at c
    rw [if_pos (Or.inl hb)] at hQ
    exact hQ σ h
  · have hb : S.2.2.1.2.2.1.testBit 1 = true := by
      cases hh : S.2.2.1.2.2.1.testBit 1
      · rw [hh] at c; simp at c
      · rfl
    rw [show σ 27 3 = (S.2.2.1.2.2.2.1 : Int) from h.2.2.1.2.2.2.1]
    refine ⟨by unfold rg; omega, fun d => ?_, fun d => ?_⟩
    · rw [if_pos (Or.inr (Or.inl (by omega)))] at hQ
      exact hQ σ h
    · refine c_hasFallen hT h V ⟨_, rfl, by split <;> decide, fun e => ?_, fun e => ?_⟩
      · have hnf : ¬ (S.2.2.1.2.2.2.1 = 0 ∧ q_fall S.2.1 ≤ S.2.2.1.1) := by
          intro q
          rw [if_pos q] at e
          omega
        rw [if_neg (by
          rintro (q | q | q)
          · rw [hb] at q; cases q
          · omega
          · exact hnf q)] at hQ
        refine c_put h V (fun σ1 h1 => ⟨rfl, ?_⟩)
        have m1 := h1.2.2.1
        have h2 : cRM (av_st σ1 27 3 1) (q_now (q_past S (q_push S.2.2.2.1 S.2.2.1)) (S.2.2.1.1, S.2.2.1.2.1, S.2.2.1.2.2.1, 1, S.2.2.1.2.2.2.2)) := by
          refine h1.now (fun a b p => ?_) ⟨?_, ?_, ?_, ?_, ?_⟩
          · simp only [av_st]; rw [if_neg (by omega)]
          · simp [av_st]; exact m1.1
          · simp [av_st]; exact m1.2.1
          · simp [av_st]; exact m1.2.2.1
          · simp [av_st]
          · simp [av_st]; exact m1.2.2.2.2
        refine c_fall (S := S) h2.2.1 V.2.1 ⟨_, rfl, ?_⟩
        rw [show av_st σ1 27 3 1 27 0 = (S.2.2.1.1 : Int) from h2.2.2.1.1]
        exact hQ _ h2
      · have hf : S.2.2.1.2.2.2.1 = 0 ∧ q_fall S.2.1 ≤ S.2.2.1.1 := by
          apply Decidable.byContradiction
          intro q
          rw [if_neg q] at e
          exact e rfl
        rw [if_pos (Or.inr (Or.inr hf))] at hQ
        exact hQ σ h
