theorem cA_mem {g : gq_T} {kd w i : Nat} : ∀ u ∈ (cA g kd w).getD i [], u < 2 * g.1 := by
  by_cases hi : i < (cA g kd w).length
  · have hmem : (cA g kd w).getD i [] ∈ cA g kd w := by
      rw [List.getD_eq_getElem?_getD, List.getElem?_eq_getElem hi]
      exact List.getElem_mem hi
    revert hmem
    generalize (cA g kd w).getD i [] = x
    intro hmem
    unfold cA gq_all at hmem
    split at hmem
    · cases hmem
    · exact gq_f_mem _ _ _ x hmem
  · rw [List.getD_eq_getElem?_getD, List.getElem?_eq_none (by omega)]
    intro u hu
    cases hu
theorem c_verbsToldBy {E : av_E} {σ : av_M} {Q : Option av_V → av_M → Prop} {S : q_S} {T k : Nat} (h : cWd σ 3 S.1) (h4 : σ 27 4 = (S.2.2.1.2.2.2.2 : Int)) (V : q_V T S) (hk : k < S.1.2.1) (hQ : ∀ σ', cGf σ σ' → dSv (q_D S) k < 16 → Q (some (av_i (dSv (q_D S) k : Int))) σ') : av_C E cSH mX4_verbsToldBy [av_r 0, av_i (k : Int)] σ Q := by
  apply uX4_verbsToldBy
  rw [h4]
  refine c_toldBy V.1 h hk V.wr (fun σ1 F1 hn => ⟨_, rfl, by decide, fun c => absurd rfl c, fun _ => ?_⟩) (fun i σ1 F1 tp hb P => ⟨_, rfl, by unfold rg; omega, fun _ => ?_, fun c => by omega⟩)
  · have e : dSv (q_D S) k = 0 := dSv_eq (Or.inl ⟨hn, rfl⟩)
    have := hQ σ1 F1 (by omega)
    rw [e] at this
    exact this
  · have e : dSv (q_D S) k = gq_vs S.1.1 ((dAA (q_D S) k).getD i []) 0 := dSv_eq (Or.inr ⟨i, tp, rfl⟩)
    have hlt := gq_vs_lt V.1.1 ((cA S.1.1 (S.1.2.2 (3 * k)).toNat S.2.2.1.2.2.2.2).getD i []) 0 (by decide) cA_mem
    have := hQ σ1 F1 (by rw [e]; exact hlt)
    rw [e] at this
    rw [P.2.2.2]
    exact this
