theorem co_count {E : av_E} {σ : av_M} {Q : Option av_V → av_M → Prop} {T : Nat} {S : q_S} {w : Int} (hT : T ≤ 50000) (h : cRM σ S) (V : q_V T S) (hw : rg w) (hQ : Q (some (av_i (sp_count S w))) σ) : av_C E cSH mX4_count [av_r 0, av_i w] σ Q := by
  apply uX4_count
  have m := h.2.2.1
  have hh := V.2.2.1.1
  have hg := V.2.2.1.2.2.2.1
  refine ⟨hw, fun c => ?_, fun c => ?_, fun c => ?_, fun c => ?_, fun c => ?_, fun c => ?_, fun c => ?_, fun c => ?_, fun c => ?_, fun c => ?_, fun c => ?_, fun c => ?_, fun c => ?_, fun c => ?_⟩
  · subst c; rw [h.1.1]; exact hQ
  · subst c; rw [h.1.2.1]; exact hQ
  · subst c
    rw [h.wr]
    exact c_lettersIn (by have := V.wr.1; omega) ⟨_, rfl, hQ⟩
  · subst c; rw [show σ 27 0 = (S.2.2.1.1 : Int) from m.1]; exact hQ
  · subst c; rw [show σ 27 1 = (S.2.2.1.2.1 : Int) from m.2.1]; exact hQ
  · subst c
    rw [show σ 27 0 = (S.2.2.1.1 : Int) from m.1]
    exact c_depthIn h.2.1 V.2.1 (by omega) ⟨_, rfl, hQ⟩
  · subst c
    exact c_fall h.2.1 V.2.1 ⟨_, rfl, hQ⟩
  · subst c
    have hq : sp_count S 7 = if S.2.2.1.2.2.2.1 = 1 then 1 else if q_fall S.2.1 ≤ S.2.2.1.1 then 2 else 0 := rfl
    rw [hq] at hQ
    refine c_hasFallen hT h V ⟨_, rfl, by split <;> decide, fun d => ?_, fun d => ?_⟩
    · rw [show σ 27 3 = (S.2.2.1.2.2.2.1 : Int) from m.2.2.2.1]
      have hnf : ¬ (S.2.2.1.2.2.2.1 = 0 ∧ q_fall S.2.1 ≤ S.2.2.1.1) := by
        intro q
        rw [if_pos q] at d
        omega
      by_cases h1 : S.2.2.1.2.2.2.1 = 1
      · rw [if_pos h1] at hQ
        rw [h1]
        exact hQ
      · have h0 : S.2.2.1.2.2.2.1 = 0 := by omega
        rw [if_neg h1, if_neg (fun q => hnf ⟨h0, q⟩)] at hQ
        rw [h0]
        exact hQ
    · have hf : S.2.2.1.2.2.2.1 = 0 ∧ q_fall S.2.1 ≤ S.2.2.1.1 := by
        apply Decidable.byContradiction
        intro q
        rw [if_neg q] at d
        exact d rfl
      rw [if_neg (by omega), if_pos hf.2] at hQ
      exact hQ
  · subst c; rw [show σ 27 2 = (S.2.2.1.2.2.1 : Int) from m.2.2.1]; exact hQ
  · subst c; rw [h.2.2.2.2.2.1.1]; exact hQ
  · subst c; rw [h.2.2.2.1.1]; exact hQ
  · subst c; rw [h.2.2.2.2.1.1]; exact hQ
  · subst c; rw [h.2.2.2.2.2.2.1.1]; exact hQ
  · unfold sp_count at hQ
    rw [if_neg (by omega), if_neg (by omega), if_neg (by omega), if_neg (by omega), if_neg (by omega), if_neg (by omega), if_neg (by omega), if_neg (by omega), if_neg (by omega), if_neg (by omega), if_neg (by omega), if_neg (by omega), if_neg (by omega)] at hQ
    exact hQ
