/-! see, forget, wipe, shut -/
theorem cRM.seen {σ σ' : av_M} {S : q_S} {p : List (Nat × Nat)} (h : cRM σ S) (e : ∀ a b, a ≠ 32 → a ≠ 33 → ¬ (a = 0 ∧ b = 10) → σ' a b = σ a b) (h1 : σ' 0 10 = (p.length : Int)) (h2 : ∀ (i : Nat) (q : Nat × Nat), p[i]? = some q → σ' 32 i = (q.1 : Int) ∧ σ' 33 i = (q.2 : Int)) : cRM σ' (q_seen S p) := by
  obtain ⟨a, ⟨b1, b2, b3⟩, c, ⟨d1, d2⟩, ⟨e1, e2⟩, -, ⟨g1, g2⟩, l, l1, l2, l3⟩ := h
  refine ⟨a.congr (fun x y _ _ => e x y (by omega) (by omega) (by omega)), ⟨?_, ?_, ?_⟩, c.congr (fun i _ => e 27 _ (by omega) (by omega) (by omega)), ⟨?_, fun i m hm => ?_⟩, ⟨?_, fun i m hm => ?_⟩, ⟨h1, h2⟩, ⟨?_, fun i c hc => ?_⟩, l, l1, l2, l3.congr (fun x y _ _ => e x y (by omega) (by omega) (by omega))⟩
  · rw [e 3 11 (by omega) (by omega) (by omega)]; exact b1
  · rw [e 3 12 (by omega) (by omega) (by omega)]; exact b2
  · rw [e 3 13 (by omega) (by omega) (by omega)]; exact b3
  · rw [e 28 1 (by omega) (by omega) (by omega)]; exact d1
  · exact (d2 i m hm).congr (fun i _ => e 29 _ (by omega) (by omega) (by omega))
  · rw [e 30 1 (by omega) (by omega) (by omega)]; exact e1
  · exact (e2 i m hm).congr (fun i _ => e 31 _ (by omega) (by omega) (by omega))
  · rw [e 1 1 (by omega) (by omega) (by omega)]; exact g1
  · rw [e 2 i (by omega) (by omega) (by omega)]; exact g2 i c hc
theorem co_forget {E : av_E} {σ : av_M} {Q : Option av_V → av_M → Prop} {S : q_S} (h : cRM σ S) (hQ : ∀ σ', cRM σ' (sp_forget S).2 → Q (some (av_i (sp_forget S).1)) σ') : av_C E cSH mX4_forget [av_r 0] σ Q := by
  apply uX4_forget
  rw [h.2.2.2.2.2.1.1]
  refine hQ _ (h.seen (fun a b p q r => ?_) (by simp [av_st]) (fun i q hq => by simp at hq))
  simp only [av_st]
  rw [if_neg (by omega)]
theorem co_see {E : av_E} {σ : av_M} {Q : Option av_V → av_M → Prop} {T : Nat} {S : q_S} {k w : Int} (h : cRM σ S) (V : q_V T S) (hk : rg k) (hw : rg w) (hQ : ∀ σ', cRM σ' (sp_see S k w).2 → Q (some (av_i (sp_see S k w).1)) σ') : av_C E cSH mX4_see [av_r 0, av_i k, av_i w] σ Q := by
  apply uX4_see
  have h5 := V.1.2.2.1
  have hl := V.2.2.2.2.2.1.2
  obtain ⟨f1, f2⟩ := h.2.2.2.2.2.1
  unfold sp_see at hQ
  refine c_isReader h V hk ⟨_, rfl, by split <;> decide, fun c => ?_, fun c => ?_⟩
  · rw [if_neg (fun q => by rw [if_pos q.1] at c; omega)] at hQ
    exact hQ σ h
  · have hkk : 0 ≤ k ∧ k < S.1.2.1 := by
      apply Decidable.byContradiction
      intro q
      rw [if_neg q] at c
      exact c rfl
    obtain ⟨k, rfl⟩ := Int.eq_ofNat_of_zero_le hkk.1
    refine ⟨hw, fun d => ?_, fun d => ⟨hw, fun e => ?_, fun e => ?_⟩⟩
    · rw [if_neg (by omega)] at hQ; exact hQ σ h
    · obtain ⟨w, rfl⟩ := Int.eq_ofNat_of_zero_le d
      rw [if_pos ⟨hkk, d, e⟩, Int.toNat_natCast, Int.toNat_natCast] at hQ
      rw [f1, Int.toNat_natCast]
      refine ⟨by unfold rg; omega, fun f => ⟨by omega, by omega, ?_⟩, fun f => ?_⟩
      · rw [if_neg (by omega)] at hQ
        have := hQ (av_st (av_st (av_st σ 32 S.2.2.2.2.2.1.length (k : Int)) 33 S.2.2.2.2.2.1.length (w : Int)) 0 10 ((S.2.2.2.2.2.1.length : Int) + 1)) (h.seen (fun a b p q r => ?_) ?_ (fun i q hq => ?_))
        · exact this
        · simp only [av_st]
          rw [if_neg (by omega), if_neg (by omega), if_neg (by omega)]
        · rw [List.length_append, List.length_singleton]
          simp [av_st]
        · by_cases hi : i < S.2.2.2.2.2.1.length
          · rw [List.getElem?_append_left hi] at hq
            have := f2 i q hq
            simp only [av_st]
            rw [if_neg (by omega), if_neg (by omega), if_neg (by omega), if_neg (by omega), if_neg (by omega), if_neg (by omega)]
            exact this
          · have hi' : i < (S.2.2.2.2.2.1 ++ [(k, w)]).length := (List.getElem?_eq_some_iff.mp hq).1
            rw [List.length_append, List.length_singleton] at hi'
            have : i = S.2.2.2.2.2.1.length := by omega
            subst this
            simp at hq
            subst hq
            exact ⟨by simp [av_st], by simp [av_st]⟩
      · rw [if_pos (by omega)] at hQ
        exact hQ σ h
    · rw [if_neg (by omega)] at hQ; exact hQ σ h
