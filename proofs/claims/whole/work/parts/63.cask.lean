theorem cA_mem {g : gq_T} {kd w i : Nat} : ∀ u ∈ (cA g kd w).getD i [], u < 2 * g.1 := by
  by_cases hi : i < (cA g kd w).length
  · have hmem : (cA g kd w).getD i [] ∈ cA g kd w := by
      rw [List.getD_eq_getElem?_getD, List.getElem?_eq_getElem hi]
      exact List.getElem_mem hi
    revert hmem
    generalize (cA g kd w).getD i [] = x
    intro hmem
    unfold cA gq_all at hmem
    split at hmem
    · cases hmem
    · exact gq_f_mem _ _ _ x hmem
  · rw [List.getD_eq_getElem?_getD, List.getElem?_eq_none (by omega)]
    intro u hu
    cases hu
theorem c_verbsToldBy {E : av_E} {σ : av_M} {Q : Option av_V → av_M → Prop} {S : q_S} {T k : Nat} (h : cWd σ 3 S.1) (h4 : σ 27 4 = (S.2.2.1.2.2.2.2 : Int)) (V : q_V T S) (hk : k < S.1.2.1) (hQ : ∀ σ', cGf σ σ' → dSv (q_D S) k < 16 → Q (some (av_i (dSv (q_D S) k : Int))) σ') : av_C E cSH mX4_verbsToldBy [av_r 0, av_i (k : Int)] σ Q := by
  apply uX4_verbsToldBy
  rw [h4]
  refine c_toldBy V.1 h hk V.wr (fun σ1 F1 hn => ⟨_, rfl, by decide, fun c => absurd rfl c, fun _ => ?_⟩) (fun i σ1 F1 tp hb P => ⟨_, rfl, by unfold rg; omega, fun _ => ?_, fun c => by omega⟩)
  · have e : dSv (q_D S) k = 0 := dSv_eq (Or.inl ⟨hn, rfl⟩)
    have := hQ σ1 F1 (by omega)
    rw [e] at this
    exact this
  · have e : dSv (q_D S) k = gq_vs S.1.1 ((dAA (q_D S) k).getD i []) 0 := dSv_eq (Or.inr ⟨i, tp, rfl⟩)
    have hlt := gq_vs_lt V.1.1 ((cA S.1.1 (S.1.2.2 (3 * k)).toNat S.2.2.1.2.2.2.2).getD i []) 0 (by decide) cA_mem
    have := hQ σ1 F1 (by rw [e]; exact hlt)
    rw [e] at this
    rw [P.2.2.2]
    exact this
theorem co_ask {E : av_E} {σ : av_M} {Q : Option av_V → av_M → Prop} {T : Nat} {S : q_S} {k : Int} (h : cRM σ S) (V : q_V T S) (hk : rg k) (hQ : ∀ σ', cRM σ' (sp_ask S k).2 → Q (some (av_i (sp_ask S k).1)) σ') : av_C E cSH mX4_ask [av_r 0, av_i k] σ Q := by
  apply uX4_ask
  have h5 := V.1.2.2.1
  unfold sp_ask at hQ
  refine c_isReader h V hk ⟨_, rfl, by split <;> decide, fun c => ?_, fun c => ?_⟩
  · have hkk : 0 ≤ k ∧ k < S.1.2.1 := by
      apply Decidable.byContradiction
      intro q
      rw [if_neg q] at c
      exact c rfl
    obtain ⟨k, rfl⟩ := Int.eq_ofNat_of_zero_le hkk.1
    rw [if_pos hkk, Int.toNat_natCast] at hQ
    have hkl : k < S.1.2.1 := by omega
    have wd := h.1.2.2.2.1 k hkl
    have hv := V.1.2.2.2 k hkl
    have hg := V.2.2.1.2.1
    have hkn := V.2.2.1.2.2.1
    rw [Int.toNat_natCast, show σ 10 k = _ from wd.2.2, show σ 27 1 = (S.2.2.1.2.1 : Int) from h.2.2.1.2.1]
    refine ⟨by omega, by unfold rg; omega, by unfold rg; omega, fun d => ?_, fun d => ?_⟩
    · rw [if_neg (by omega)] at hQ
      refine c_put h V (fun σ1 h1 => ⟨rfl, by omega, by omega, ?_⟩)
      have m1 := h1.2.2.1
      have wd1 := h1.1.2.2.2.1 k hkl
      have e1 : σ1 27 1 - σ1 10 k = ((S.2.2.1.2.1 - (S.1.2.2 (3 * k + 2)).toNat : Nat) : Int) := by
        rw [show σ1 10 k = S.1.2.2 (3 * k + 2) from wd1.2.2, show σ1 27 1 = (S.2.2.1.2.1 : Int) from m1.2.1]
        omega
      have e0 : σ1 27 0 + σ1 9 k = ((S.2.2.1.1 + (S.1.2.2 (3 * k + 1)).toNat : Nat) : Int) := by
        rw [show σ1 9 k = S.1.2.2 (3 * k + 1) from wd1.2.1, show σ1 27 0 = (S.2.2.1.1 : Int) from m1.1]
        omega
      have e2 : σ1 27 2 = (S.2.2.1.2.2.1 : Int) := m1.2.2.1
      rw [e1, e0, e2]
      have hA : cRM (av_st (av_st σ1 27 1 ((S.2.2.1.2.1 - (S.1.2.2 (3 * k + 2)).toNat : Nat) : Int)) 27 0 ((S.2.2.1.1 + (S.1.2.2 (3 * k + 1)).toNat : Nat) : Int)) (q_now (q_past S (q_push S.2.2.2.1 S.2.2.1)) (S.2.2.1.1 + (S.1.2.2 (3 * k + 1)).toNat, S.2.2.1.2.1 - (S.1.2.2 (3 * k + 2)).toNat, S.2.2.1.2.2.1, S.2.2.1.2.2.2.1, S.2.2.1.2.2.2.2)) := by
        refine h1.now (fun a b p => ?_) ⟨?_, ?_, ?_, ?_, ?_⟩
        · simp only [av_st]; rw [if_neg (by omega), if_neg (by omega)]
        · simp [av_st]
        · simp [av_st]
        · simp [av_st]; exact m1.2.2.1
        · simp [av_st]; exact m1.2.2.2.1
        · simp [av_st]; exact m1.2.2.2.2
      refine c_verbsToldBy (S := S) (T := T) hA.1 (by simp [av_st]; exact m1.2.2.2.2) V hkl (fun σ3 F3 hlt => ⟨_, rfl, ?_⟩)
      rw [bt_or (by omega) (by omega)]
      refine hQ _ ((hA.gf F3).now (fun a b p => ?_) ?_)
      · simp only [av_st]; rw [if_neg (by omega)]
      · have m3 := (hA.gf F3).2.2.1
        refine ⟨?_, ?_, ?_, ?_, ?_⟩
        · simp only [av_st]; rw [if_neg (by omega)]; exact m3.1
        · simp only [av_st]; rw [if_neg (by omega)]; exact m3.2.1
        · simp [av_st]
        · simp [av_st]; exact m3.2.2.2.1
        · simp [av_st]; exact m3.2.2.2.2
    · rw [if_pos (by omega)] at hQ
      exact hQ σ h
  · rw [if_neg (fun q => by rw [if_pos q] at c; omega)] at hQ
    exact hQ σ h
