/-! the river; pass, undo, rub, carve -/
theorem c_depthIn {E : av_E} {σ : av_M} {Q : Option av_V → av_M → Prop} {S : q_S} {h : Nat} (H : σ 3 11 = (S.2.1.1 : Int) ∧ σ 3 12 = (S.2.1.2.1 : Int) ∧ σ 3 13 = (S.2.1.2.2 : Int)) (V : q_RV S.2.1) (hh : h ≤ 100000) (hQ : Q (some (av_i (q_dep S.2.1 h : Nat))) σ) : av_C E cSH mX3_depthIn [av_r 3, av_i (h : Int)] σ Q := by
  apply uX3_depthIn
  obtain ⟨⟨v1, v2⟩, v3, v4, v5⟩ := V
  rw [H.1, H.2.1, H.2.2]
  unfold q_dep at hQ
  have hm : ∀ x : Nat, x ≤ 100000 → S.2.1.2.2 * x ≤ 2000000 := fun x hx => Nat.le_trans (Nat.mul_le_mul v5 hx) (by omega)
  refine ⟨by unfold rg; omega, by unfold rg; omega, fun c => ?_, fun c => ?_⟩
  · rw [if_neg (by omega)] at hQ
    have e : (S.2.1.1 : Int) - (S.2.1.2.2 : Int) * ((h : Int) - (S.2.1.2.1 : Int)) = (S.2.1.1 : Int) - ((S.2.1.2.2 * (h - S.2.1.2.1) : Nat) : Int) := by
      rw [Int.natCast_mul, show ((h - S.2.1.2.1 : Nat) : Int) = (h : Int) - (S.2.1.2.1 : Int) by omega]
    have h2 := hm (h - S.2.1.2.1) (by omega)
    rw [e]
    refine ⟨by unfold rg; omega, ?_⟩
    rw [show max 0 ((S.2.1.1 : Int) - ((S.2.1.2.2 * (h - S.2.1.2.1) : Nat) : Int)) = ((S.2.1.1 - S.2.1.2.2 * (h - S.2.1.2.1) : Nat) : Int) by omega]
    exact hQ
  · rw [if_pos (by omega)] at hQ
    exact hQ
theorem c_fall {E : av_E} {σ : av_M} {Q : Option av_V → av_M → Prop} {S : q_S} (H : σ 3 11 = (S.2.1.1 : Int) ∧ σ 3 12 = (S.2.1.2.1 : Int) ∧ σ 3 13 = (S.2.1.2.2 : Int)) (V : q_RV S.2.1) (hQ : Q (some (av_i (q_fall S.2.1 : Nat))) σ) : av_C E cSH mX3_fall [av_r 3] σ Q := by
  apply uX3_fall
  obtain ⟨⟨v1, v2⟩, v3, v4, v5⟩ := V
  rw [H.1, H.2.1, H.2.2]
  unfold q_fall at hQ
  refine ⟨by unfold rg; omega, fun c => ⟨by omega, by omega, ?_⟩, fun c => by omega⟩
  rw [show (S.2.1.1 : Int) - 2 + (S.2.1.2.2 : Int) - 1 = ((S.2.1.1 + S.2.1.2.2 - 3 : Nat) : Int) by omega, ← Int.natCast_ediv, ← Int.natCast_add]
  exact hQ
theorem co_pass {E : av_E} {σ : av_M} {Q : Option av_V → av_M → Prop} {T : Nat} {S : q_S} {n : Int} (hT : T ≤ 50000) (h : cRM σ S) (V : q_V T S) (ha : rg n) (hQ : ∀ σ', cRM σ' (sp_pass S n).2 → Q (some (av_i (sp_pass S n).1)) σ') : av_C E cSH mX4_pass [av_r 0, av_i n] σ Q := by
  apply uX4_pass
  unfold sp_pass at hQ
  have hh := V.2.2.1.1
  refine ⟨ha, fun c => ?_, fun c => ⟨ha, fun d => ?_, fun d => ?_⟩⟩
  · rw [if_neg (by omega)] at hQ; exact hQ σ h
  · rw [if_pos (by omega)] at hQ
    refine c_put h V (fun σ1 h1 => ⟨rfl, ?_⟩)
    have m1 := h1.2.2.1
    obtain ⟨z, rfl⟩ := Int.eq_ofNat_of_zero_le (by omega : 0 ≤ n)
    rw [Int.toNat_natCast] at hQ
    have e : σ1 27 0 + (z : Int) = ((S.2.2.1.1 + z : Nat) : Int) := by
      rw [show σ1 27 0 = (S.2.2.1.1 : Int) from m1.1]
      omega
    rw [e]
    have h2 : cRM (av_st σ1 27 0 ((S.2.2.1.1 + z : Nat) : Int)) (q_now (q_past S (q_push S.2.2.2.1 S.2.2.1)) (S.2.2.1.1 + z, S.2.2.1.2)) := by
      refine h1.now (fun a b p => ?_) ⟨?_, ?_, ?_, ?_, ?_⟩
      · simp only [av_st]; rw [if_neg (by omega)]
      · simp [av_st]
      · simp [av_st]; exact m1.2.1
      · simp [av_st]; exact m1.2.2.1
      · simp [av_st]; exact m1.2.2.2.1
      · simp [av_st]; exact m1.2.2.2.2
    exact c_depthIn (S := S) h2.2.1 V.2.1 (by omega) ⟨_, rfl, hQ _ h2⟩
  · rw [if_neg (by omega)] at hQ; exact hQ σ h
theorem co_undo {E : av_E} {σ : av_M} {Q : Option av_V → av_M → Prop} {T : Nat} {S : q_S} (h : cRM σ S) (V : q_V T S) (hQ : ∀ σ', cRM σ' (sp_undo S).2 → Q (some (av_i (sp_undo S).1)) σ') : av_C E cSH mX4_undo [av_r 0] σ Q := by
  apply uX4_undo
  unfold sp_undo at hQ
  obtain ⟨d1, d2⟩ := h.2.2.2.1
  have hl := V.2.2.2.1.2
  rw [d1]
  refine ⟨by unfold rg; omega, fun c => ?_, fun c => ?_⟩
  · rw [if_neg (by omega)] at hQ
    apply uX1_takeInto_28
    rw [d1]
    refine ⟨by unfold rg; omega, fun c => ⟨by omega, ⟨rfl, ?_⟩⟩, fun c => by omega⟩
    obtain ⟨L, hL⟩ : ∃ L, S.2.2.2.1.length = L + 1 := ⟨S.2.2.2.1.length - 1, by omega⟩
    rw [hL] at hQ ⊢
    have hlast := gq_last S.2.2.1 (show 0 < S.2.2.2.1.length by omega)
    rw [hL] at hlast
    have hm := d2 _ _ hlast
    have e : ((((L + 1 : Nat) : Int) - 1) * 5).toNat = 5 * L := by omega
    rw [e]
    have hp : cRM (av_st σ 28 1 (((L + 1 : Nat) : Int) - 1)) (q_past S S.2.2.2.1.dropLast) := by
      refine h.past (fun a b p q => ?_) ?_ (fun i m hi => ?_)
      · simp only [av_st]; rw [if_neg (by omega)]
      · rw [List.length_dropLast, hL]
        simp [av_st]
      · have hil : i < S.2.2.2.1.dropLast.length := (List.getElem?_eq_some_iff.mp hi).1
        rw [List.length_dropLast, hL] at hil
        rw [List.getElem?_dropLast, if_pos (by omega)] at hi
        exact (d2 i m hi).congr (fun u hu => by simp only [av_st]; rw [if_neg (by omega)])
    have h2 := hp.now (σ' := av_cp (av_st σ 28 1 (((L + 1 : Nat) : Int) - 1)) 29 (5 * L) 27 0 5) (m := S.2.2.2.1.getLastD S.2.2.1) (fun a b p => by simp only [av_cp]; rw [if_neg (by omega)]) (hm.congr (fun u hu => by
      simp only [av_st, av_cp]
      rw [if_pos ⟨trivial, by omega, by omega⟩, if_neg (by omega)]
      congr 1
      omega))
    have e2 : av_cp (av_st σ 28 1 (((L + 1 : Nat) : Int) - 1)) 29 (5 * L) 27 0 5 28 1 = ((L + 1 - 1 : Nat) : Int) := by
      simp [av_st, av_cp]
    rw [e2]
    exact hQ _ h2
  · rw [if_pos (by omega)] at hQ
    exact hQ σ h
