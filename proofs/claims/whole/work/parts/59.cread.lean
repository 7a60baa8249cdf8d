/-! reading, word, tells of the class -/
theorem c_isReading {E : av_E} {σ : av_M} {Q : Option av_V → av_M → Prop} {S : q_S} {T k : Nat} {i : Int} (h : cRM σ S) (V : q_V T S) (hk : k < S.1.2.1) (hi : rg i)
    (hQ0 : ∀ σ', cGf σ σ' → ¬ (0 ≤ i ∧ i < (dAA (q_D S) k).length) → Q (some (av_i 0)) σ')
    (hQ1 : ∀ σ', cGf σ σ' → (0 ≤ i ∧ i < (dAA (q_D S) k).length) → cRd σ' S.1.1 (S.1.2.2 (3 * k)).toNat S.2.2.1.2.2.2.2 65535 → Q (some (av_i 1)) σ') : av_C E cSH mX4_isReading [av_r 0, av_i (k : Int), av_i i] σ Q := by
  apply uX4_isReading
  rw [h.wr]
  refine ⟨hi, fun c => hQ0 σ (cGf.rf σ) (by omega), fun c => ?_⟩
  refine c_readingsOf V.1 h.1 hk V.wr (fun σ' F R => ⟨_, rfl, hi, ?_, fun d => ?_, fun d => ?_⟩)
  · have : (cA S.1.1 (S.1.2.2 (3 * k)).toNat S.2.2.1.2.2.2.2).length ≤ 10077696 := gq_all_few V.1.1 V.wr.2.1
    unfold rg
    omega
  · exact hQ0 σ' F (fun q => by have : (i : Int) < ((cA S.1.1 (S.1.2.2 (3 * k)).toNat S.2.2.1.2.2.2.2).length : Int) := q.2; omega)
  · exact hQ1 σ' F ⟨c, d⟩ R
theorem c_pickOf {E : av_E} {σ : av_M} {Q : Option av_V → av_M → Prop} {S : q_S} {T k i : Nat} (h : cRM σ S) (V : q_V T S) (hk : k < S.1.2.1) (R : cRd σ S.1.1 (S.1.2.2 (3 * k)).toNat S.2.2.1.2.2.2.2 65535) (hi : i < (dAA (q_D S) k).length) (hQ : ∀ σ', cGf σ σ' → cPk σ' S.1.1 ((dAA (q_D S) k).getD i []) → Q none σ') : av_C E cSH mX0_pick [av_r 21, av_i (i : Int)] σ Q := by
  have e0 : dAA (q_D S) k = cA S.1.1 (S.1.2.2 (3 * k)).toNat S.2.2.1.2.2.2.2 := rfl
  rw [e0] at hi hQ
  have hn : ¬ rw_cn 9 S.2.2.1.2.2.2.2 = 0 := by
    intro hc
    rw [show (cA S.1.1 (S.1.2.2 (3 * k)).toNat S.2.2.1.2.2.2.2) = [] by unfold cA gq_all; rw [if_pos hc]] at hi
    simp at hi
  rw [cA_eq V.1.1 hn] at hi hQ
  exact c_pick V.1.1 h.1 R.1 R.2 (by omega) V.wr.2.1 hi (fun σ' F P => hQ σ' F.gf P)
theorem gq_f_l9 {g : gq_T} {kw : Nat → Bool} {row : Nat → Int} {n : Nat} {acc : Nat → Bool} : ∀ (f p s : Nat) (x : List Nat), x ∈ gq_f g kw row n acc f p s → x.length ≤ f
  | 0, p, s, x, h => by
    rw [gq_f] at h
    split at h
    · rw [List.mem_singleton.mp h]
      exact Nat.le_refl _
    · cases h
  | f + 1, p, s, x, h => by
    rw [gq_f] at h
    split at h
    · split at h
      · rw [List.mem_singleton.mp h]
        exact Nat.zero_le _
      · cases h
    · obtain ⟨u, hu, hx⟩ := List.mem_flatMap.mp h
      split at hx
      · obtain ⟨y, hy, rfl⟩ := List.mem_map.mp hx
        have := gq_f_l9 f _ _ y hy
        rw [List.length_cons]
        omega
      · cases hx
theorem cA_len9 {g : gq_T} {kd w i : Nat} (hw : rw_cn 9 w ≤ 9) : ((cA g kd w).getD i []).length ≤ 9 := by
  by_cases hi : i < (cA g kd w).length
  · have hmem : (cA g kd w).getD i [] ∈ cA g kd w := by
      rw [List.getD_eq_getElem?_getD, List.getElem?_eq_getElem hi]
      exact List.getElem_mem hi
    revert hmem
    generalize (cA g kd w).getD i [] = x
    intro hmem
    unfold cA gq_all at hmem
    split at hmem
    · cases hmem
    · have := gq_f_l9 _ _ _ x hmem
      omega
  · rw [List.getD_eq_getElem?_getD, List.getElem?_eq_none (by omega)]
    exact Nat.zero_le _
theorem dAA_len9 {S : q_S} {T k : Nat} (V : q_V T S) {i : Nat} : ((dAA (q_D S) k).getD i []).length ≤ 9 := cA_len9 V.wr.2.1
theorem co_reading {E : av_E} {σ : av_M} {Q : Option av_V → av_M → Prop} {T : Nat} {S : q_S} {k i w : Int} (h : cRM σ S) (V : q_V T S) (hk : rg k) (hi : rg i) (hw : rg w) (hQ : ∀ σ', cGf σ σ' → Q (some (av_i (sp_reading (q_D S) k i w))) σ') : av_C E cSH mX4_reading [av_r 0, av_i k, av_i i, av_i w] σ Q := by
  apply uX4_reading
  have h5 := V.1.2.2.1
  unfold sp_reading at hQ
  have e0 : (q_D S).2.1 = S.1.2.1 := rfl
  have e1 : (q_D S).1 = S.1.1 := rfl
  rw [e0, e1] at hQ
  refine c_isReader h V hk ⟨_, rfl, by split <;> decide, fun c => ?_, fun c => ?_⟩
  · rw [if_neg (fun q => by rw [if_pos q.2.1] at c; omega)] at hQ
    exact hQ σ (cGf.rf σ)
  · have hkk : 0 ≤ k ∧ k < S.1.2.1 := by
      apply Decidable.byContradiction
      intro q
      rw [if_neg q] at c
      exact c rfl
    obtain ⟨k, rfl⟩ := Int.eq_ofNat_of_zero_le hkk.1
    rw [Int.toNat_natCast] at hQ
    refine ⟨hw, fun d => ?_, fun d => ⟨hw, fun e => ?_, fun e => ?_⟩⟩
    · rw [if_neg (by omega)] at hQ; exact hQ σ (cGf.rf σ)
    · rw [if_neg (by omega)] at hQ; exact hQ σ (cGf.rf σ)
    · refine c_isReading h V (by omega) hi (fun σ1 F1 hn => ⟨_, rfl, by decide, fun c => absurd rfl c, fun _ => ?_⟩) (fun σ1 F1 hy R => ⟨_, rfl, by decide, fun _ => ?_, fun c => absurd c (by decide)⟩)
      · rw [if_neg (fun q => hn q.2.2)] at hQ
        exact hQ σ1 F1
      · obtain ⟨i, rfl⟩ := Int.eq_ofNat_of_zero_le hy.1
        rw [if_pos ⟨⟨d, e⟩, hkk, hy⟩, Int.toNat_natCast] at hQ
        refine c_pickOf (h.gf F1) V (by omega) R (by omega) (fun σ2 F2 P => ⟨rfl, hw, fun f => ⟨hw, fun g => ?_, fun g => ?_⟩, fun f => ?_⟩)
        · rw [if_neg f, if_neg g] at hQ
          rw [P.2.2.2]
          exact hQ σ2 (F1.tr F2)
        · rw [if_neg f, if_pos g] at hQ
          rw [P.2.2.1]
          exact hQ σ2 (F1.tr F2)
        · rw [if_pos f] at hQ
          rw [P.1]
          exact hQ σ2 (F1.tr F2)
theorem co_word {E : av_E} {σ : av_M} {Q : Option av_V → av_M → Prop} {T : Nat} {S : q_S} {k i j : Int} (h : cRM σ S) (V : q_V T S) (hk : rg k) (hi : rg i) (hj : rg j) (hQ : ∀ σ', cGf σ σ' → Q (some (av_i (sp_word (q_D S) k i j))) σ') : av_C E cSH mX4_word [av_r 0, av_i k, av_i i, av_i j] σ Q := by
  apply uX4_word
  have h5 := V.1.2.2.1
  unfold sp_word at hQ
  have e0 : (q_D S).2.1 = S.1.2.1 := rfl
  rw [e0] at hQ
  refine c_isReader h V hk ⟨_, rfl, by split <;> decide, fun c => ?_, fun c => ?_⟩
  · rw [if_neg (fun q => by rw [if_pos q.2.1] at c; omega)] at hQ
    exact hQ σ (cGf.rf σ)
  · have hkk : 0 ≤ k ∧ k < S.1.2.1 := by
      apply Decidable.byContradiction
      intro q
      rw [if_neg q] at c
      exact c rfl
    obtain ⟨k, rfl⟩ := Int.eq_ofNat_of_zero_le hkk.1
    rw [Int.toNat_natCast] at hQ
    refine ⟨hj, fun d => ?_, fun d => ?_⟩
    · rw [if_neg (by omega)] at hQ; exact hQ σ (cGf.rf σ)
    · refine c_isReading h V (by omega) hi (fun σ1 F1 hn => ⟨_, rfl, by decide, fun c => absurd rfl c, fun _ => ?_⟩) (fun σ1 F1 hy R => ⟨_, rfl, by decide, fun _ => ?_, fun c => absurd c (by decide)⟩)
      · rw [if_neg (fun q => hn q.2.2)] at hQ
        exact hQ σ1 F1
      · obtain ⟨i, rfl⟩ := Int.eq_ofNat_of_zero_le hy.1
        rw [if_pos ⟨d, hkk, hy⟩, Int.toNat_natCast] at hQ
        have h9 := dAA_len9 (k := k) V (i := i)
        refine c_pickOf (h.gf F1) V (by omega) R (by omega) (fun σ2 F2 P => ⟨rfl, hj, by rw [P.1]; unfold rg; omega, fun f => ?_, fun f => ⟨hj, fun g => ?_, fun g => ⟨by omega, ?_⟩⟩⟩)
        · rw [P.1] at f
          rw [if_neg (by omega)] at hQ
          exact hQ σ2 (F1.tr F2)
        · rw [P.1] at f
          omega
        · rw [P.1] at f
          rw [if_pos f] at hQ
          obtain ⟨j, rfl⟩ := Int.eq_ofNat_of_zero_le d
          rw [Int.toNat_natCast] at hQ ⊢
          have hjl : j < ((dAA (q_D S) k).getD i []).length := by omega
          rw [P.2.1 j _ (List.getElem?_eq_getElem hjl)]
          rw [List.getD_eq_getElem?_getD (l := (dAA (q_D S) k).getD i []), List.getElem?_eq_getElem hjl] at hQ
          exact hQ σ2 (F1.tr F2)
theorem co_tells {E : av_E} {σ : av_M} {Q : Option av_V → av_M → Prop} {T : Nat} {S : q_S} {k w : Int} (h : cRM σ S) (V : q_V T S) (hk : rg k) (hw : rg w) (hQ : ∀ r σ', cGf σ σ' → sp_tells (q_D S) k w r → Q (some (av_i r)) σ') : av_C E cSH mX4_tells [av_r 0, av_i k, av_i w] σ Q := by
  apply uX4_tells
  have h5 := V.1.2.2.1
  unfold sp_tells at hQ
  have e0 : (q_D S).2.1 = S.1.2.1 := rfl
  have e1 : (q_D S).1 = S.1.1 := rfl
  rw [e0, e1] at hQ
  refine c_isReader h V hk ⟨_, rfl, by split <;> decide, fun c => ?_, fun c => ?_⟩
  · exact hQ _ σ (cGf.rf σ) (by rw [if_neg (fun q => by rw [if_pos q.1] at c; omega)])
  · have hkk : 0 ≤ k ∧ k < S.1.2.1 := by
      apply Decidable.byContradiction
      intro q
      rw [if_neg q] at c
      exact c rfl
    obtain ⟨k, rfl⟩ := Int.eq_ofNat_of_zero_le hkk.1
    rw [Int.toNat_natCast] at hQ
    refine ⟨hw, fun d => ?_, fun d => ⟨hw, fun e => ?_, fun e => ?_⟩⟩
    · exact hQ _ σ (cGf.rf σ) (by rw [if_neg (by omega)])
    · rw [h.wr]
      refine c_toldBy V.1 h.1 (by omega) V.wr (fun σ1 F1 hn => ⟨_, rfl, by decide, fun _ => ?_, fun c => absurd rfl c⟩) (fun i σ1 F1 tp hb P => ⟨_, rfl, by unfold rg; omega, fun c => by omega, fun _ => ⟨hw, fun f => ⟨hw, fun g => ?_, fun g => ?_⟩, fun f => ?_⟩⟩)
      · exact hQ _ σ1 F1 (by rw [if_pos ⟨hkk, d, e⟩]; exact Or.inl ⟨hn, rfl⟩)
      · exact hQ _ σ1 F1 (by rw [if_pos ⟨hkk, d, e⟩]; exact Or.inr ⟨i, tp, by rw [if_neg f, if_neg g]; exact P.2.2.2⟩)
      · exact hQ _ σ1 F1 (by rw [if_pos ⟨hkk, d, e⟩]; exact Or.inr ⟨i, tp, by rw [if_neg f, if_pos g]; exact P.2.2.1⟩)
      · exact hQ _ σ1 F1 (by rw [if_pos ⟨hkk, d, e⟩]; exact Or.inr ⟨i, tp, by rw [if_pos f]⟩)
    · exact hQ _ σ (cGf.rf σ) (by rw [if_neg (by omega)])
