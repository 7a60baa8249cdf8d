theorem co_back {E : av_E} {σ : av_M} {Q : Option av_V → av_M → Prop} {T : Nat} {S : q_S} (h : cRM σ S) (V : q_V T S) (hQ : ∀ σ', cRM σ' (sp_back S).2 → Q (some (av_i (sp_back S).1)) σ') : av_C E cSH mX4_back [av_r 0] σ Q := by
  apply uX4_back
  unfold sp_back at hQ
  obtain ⟨d1, d2⟩ := h.2.2.2.2.1
  have hl := V.2.2.2.2.1.2
  rw [d1]
  refine ⟨by unfold rg; omega, fun c => ?_, fun c => ?_⟩
  · rw [if_neg (by omega)] at hQ
    apply uX1_takeInto_30
    rw [d1]
    refine ⟨by unfold rg; omega, fun c => ⟨by omega, ⟨rfl, ?_⟩⟩, fun c => by omega⟩
    obtain ⟨L, hL⟩ : ∃ L, S.2.2.2.2.1.length = L + 1 := ⟨S.2.2.2.2.1.length - 1, by omega⟩
    rw [hL] at hQ ⊢
    have hlast := gq_last S.2.2.1 (show 0 < S.2.2.2.2.1.length by omega)
    rw [hL] at hlast
    have hm := d2 _ _ hlast
    have e : ((((L + 1 : Nat) : Int) - 1) * 5).toNat = 5 * L := by omega
    rw [e]
    have hp : cRM (av_st σ 30 1 (((L + 1 : Nat) : Int) - 1)) (q_kept S S.2.2.2.2.1.dropLast) := by
      refine h.kept (fun a b p q => ?_) ?_ (fun i m hi => ?_)
      · simp only [av_st]; rw [if_neg (by omega)]
      · rw [List.length_dropLast, hL]
        simp [av_st]
      · have hil : i < S.2.2.2.2.1.dropLast.length := (List.getElem?_eq_some_iff.mp hi).1
        rw [List.length_dropLast, hL] at hil
        rw [List.getElem?_dropLast, if_pos (by omega)] at hi
        exact (d2 i m hi).congr (fun u hu => by simp only [av_st]; rw [if_neg (by omega)])
    have h2 := hp.now (σ' := av_cp (av_st σ 30 1 (((L + 1 : Nat) : Int) - 1)) 31 (5 * L) 27 0 5) (m := S.2.2.2.2.1.getLastD S.2.2.1) (fun a b p => by simp only [av_cp]; rw [if_neg (by omega)]) (hm.congr (fun u hu => by
      simp only [av_st, av_cp]
      rw [if_pos ⟨trivial, by omega, by omega⟩, if_neg (by omega)]
      congr 1
      omega))
    have e2 : av_cp (av_st σ 30 1 (((L + 1 : Nat) : Int) - 1)) 31 (5 * L) 27 0 5 30 1 = ((L + 1 - 1 : Nat) : Int) := by
      simp [av_st, av_cp]
    rw [e2]
    refine hQ _ (h2.past (p := []) (fun a b p q => ?_) (by simp [av_st]) (fun i m hm => by simp at hm))
    simp only [av_st]
    rw [if_neg (by omega)]
  · rw [if_pos (by omega)] at hQ
    exact hQ σ h
