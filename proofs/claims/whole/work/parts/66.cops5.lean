/-! write, wipe, keep, back -/
theorem cRM.text {σ σ' : av_M} {S : q_S} {p : List Nat} (h : cRM σ S) (e : ∀ a b, a ≠ 1 → a ≠ 2 → σ' a b = σ a b) (h1 : σ' 1 1 = (p.length : Int)) (h2 : ∀ (i : Nat) (c : Nat), p[i]? = some c → σ' 2 i = (c : Int)) : cRM σ' (q_text S p) := by
  obtain ⟨a, ⟨b1, b2, b3⟩, c, ⟨d1, d2⟩, ⟨e1, e2⟩, ⟨f1, f2⟩, -, l, l1, l2, l3⟩ := h
  refine ⟨a.congr (fun x y _ _ => e x y (by omega) (by omega)), ⟨?_, ?_, ?_⟩, c.congr (fun i _ => e 27 _ (by omega) (by omega)), ⟨?_, fun i m hm => ?_⟩, ⟨?_, fun i m hm => ?_⟩, ⟨?_, fun i q hq => ?_⟩, ⟨h1, h2⟩, l, l1, l2, l3.congr (fun x y _ _ => e x y (by omega) (by omega))⟩
  · rw [e 3 11 (by omega) (by omega)]; exact b1
  · rw [e 3 12 (by omega) (by omega)]; exact b2
  · rw [e 3 13 (by omega) (by omega)]; exact b3
  · rw [e 28 1 (by omega) (by omega)]; exact d1
  · exact (d2 i m hm).congr (fun i _ => e 29 _ (by omega) (by omega))
  · rw [e 30 1 (by omega) (by omega)]; exact e1
  · exact (e2 i m hm).congr (fun i _ => e 31 _ (by omega) (by omega))
  · rw [e 0 10 (by omega) (by omega)]; exact f1
  · rw [e 32 i (by omega) (by omega), e 33 i (by omega) (by omega)]; exact f2 i q hq
theorem co_wipe {E : av_E} {σ : av_M} {Q : Option av_V → av_M → Prop} {S : q_S} (h : cRM σ S) (hQ : ∀ σ', cRM σ' (sp_wipe S).2 → Q (some (av_i (sp_wipe S).1)) σ') : av_C E cSH mX4_wipe [av_r 0] σ Q := by
  apply uX4_wipe
  apply uX2_clear
  rw [h.2.2.2.2.2.2.1.1]
  refine ⟨rfl, hQ _ (h.text (fun a b p q => ?_) (by simp [av_st]) (fun i c hc => by simp at hc))⟩
  simp only [av_st]
  rw [if_neg (by omega)]
theorem co_write {E : av_E} {σ : av_M} {Q : Option av_V → av_M → Prop} {T : Nat} {S : q_S} {a : Int} (h : cRM σ S) (V : q_V T S) (ha : rg a) (hQ : ∀ σ', cRM σ' (sp_write S a).2 → Q (some (av_i (sp_write S a).1)) σ') : av_C E cSH mX4_write [av_r 0, av_i a] σ Q := by
  apply uX4_write
  have hl := V.2.2.2.2.2.2.2
  obtain ⟨g1, g2⟩ := h.2.2.2.2.2.2.1
  unfold sp_write at hQ
  refine ⟨ha, fun c => ?_, fun c => ⟨ha, fun d => ⟨by omega, ?_⟩, fun d => ?_⟩⟩
  · rw [if_neg (by omega)] at hQ; exact hQ σ h
  · obtain ⟨w, rfl⟩ := Int.eq_ofNat_of_zero_le (by omega : 0 ≤ a)
    rw [if_pos ⟨c, d⟩, Int.toNat_natCast] at hQ
    apply uX2_add
    rw [g1, Int.toNat_natCast]
    refine ⟨by unfold rg; omega, fun f => ⟨by omega, by omega, ⟨_, rfl, by decide, fun e => absurd e (by decide), fun _ => ?_⟩⟩, fun f => ⟨_, rfl, by decide, fun _ => ?_, fun e => absurd rfl e⟩⟩
    · rw [if_neg (by omega)] at hQ
      have := hQ (av_st (av_st σ 2 S.2.2.2.2.2.2.length (w : Int)) 1 1 ((S.2.2.2.2.2.2.length : Int) + 1)) (h.text (fun a b p q => ?_) ?_ (fun i c hc => ?_))
      · rw [show av_st (av_st σ 2 S.2.2.2.2.2.2.length (w : Int)) 1 1 ((S.2.2.2.2.2.2.length : Int) + 1) 1 1 = ((S.2.2.2.2.2.2.length + 1 : Nat) : Int) by simp [av_st]]
        exact this
      · simp only [av_st]
        rw [if_neg (by omega), if_neg (by omega)]
      · rw [List.length_append, List.length_singleton]
        simp [av_st]
      · by_cases hi : i < S.2.2.2.2.2.2.length
        · rw [List.getElem?_append_left hi] at hc
          have := g2 i c hc
          simp only [av_st]
          rw [if_neg (by omega), if_neg (by omega)]
          exact this
        · have hi' : i < (S.2.2.2.2.2.2 ++ [w]).length := (List.getElem?_eq_some_iff.mp hc).1
          rw [List.length_append, List.length_singleton] at hi'
          have : i = S.2.2.2.2.2.2.length := by omega
          subst this
          simp at hc
          subst hc
          simp [av_st]
    · rw [if_pos (by omega)] at hQ
      exact hQ σ h
  · rw [if_neg (by omega)] at hQ; exact hQ σ h
theorem cRM.kept {σ σ' : av_M} {S : q_S} {p : List q_Mo} (h : cRM σ S) (e : ∀ a b, a ≠ 30 → a ≠ 31 → σ' a b = σ a b) (h1 : σ' 30 1 = (p.length : Int)) (h2 : ∀ (i : Nat) (m : q_Mo), p[i]? = some m → cMo (σ' 31) (5 * i) m) : cRM σ' (q_kept S p) := by
  obtain ⟨a, ⟨b1, b2, b3⟩, c, ⟨d1, d2⟩, -, ⟨f1, f2⟩, ⟨g1, g2⟩, l, l1, l2, l3⟩ := h
  refine ⟨a.congr (fun x y _ _ => e x y (by omega) (by omega)), ⟨?_, ?_, ?_⟩, c.congr (fun i _ => e 27 _ (by omega) (by omega)), ⟨?_, fun i m hm => ?_⟩, ⟨h1, h2⟩, ⟨?_, fun i q hq => ?_⟩, ⟨?_, fun i c hc => ?_⟩, l, l1, l2, l3.congr (fun x y _ _ => e x y (by omega) (by omega))⟩
  · rw [e 3 11 (by omega) (by omega)]; exact b1
  · rw [e 3 12 (by omega) (by omega)]; exact b2
  · rw [e 3 13 (by omega) (by omega)]; exact b3
  · rw [e 28 1 (by omega) (by omega)]; exact d1
  · exact (d2 i m hm).congr (fun i _ => e 29 _ (by omega) (by omega))
  · rw [e 0 10 (by omega) (by omega)]; exact f1
  · rw [e 32 i (by omega) (by omega), e 33 i (by omega) (by omega)]; exact f2 i q hq
  · rw [e 1 1 (by omega) (by omega)]; exact g1
  · rw [e 2 i (by omega) (by omega)]; exact g2 i c hc
theorem co_keep {E : av_E} {σ : av_M} {Q : Option av_V → av_M → Prop} {T : Nat} {S : q_S} (h : cRM σ S) (V : q_V T S) (hQ : ∀ σ', cRM σ' (sp_keep S).2 → Q (some (av_i (sp_keep S).1)) σ') : av_C E cSH mX4_keep [av_r 0] σ Q := by
  apply uX4_keep
  have hl := V.2.2.2.2.1.2
  obtain ⟨e1, e2⟩ := h.2.2.2.2.1
  have c := h.2.2.1
  unfold sp_keep at hQ
  rw [e1]
  refine ⟨by unfold rg; omega, fun d => ?_, fun d => ?_⟩
  · rw [if_neg (by omega)] at hQ
    apply uX1_put_30
    rw [e1, show ((S.2.2.2.2.1.length : Int) * 5).toNat = 5 * S.2.2.2.2.1.length by omega]
    refine ⟨by unfold rg; omega, fun _ => ⟨by omega, rfl, ?_⟩, fun c => by omega⟩
    have := hQ (av_st (av_cp σ 27 0 31 (5 * S.2.2.2.2.1.length) 5) 30 1 ((S.2.2.2.2.1.length : Int) + 1)) (h.kept (fun a b p q => ?_) ?_ (fun i m hm => ?_))
    · rw [show av_st (av_cp σ 27 0 31 (5 * S.2.2.2.2.1.length) 5) 30 1 ((S.2.2.2.2.1.length : Int) + 1) 30 1 = ((S.2.2.2.2.1.length + 1 : Nat) : Int) by simp [av_st]]
      exact this
    · simp only [av_st, av_cp]
      rw [if_neg (by omega), if_neg (by omega)]
    · rw [List.length_append, List.length_singleton]
      simp [av_st]
    · by_cases hi : i < S.2.2.2.2.1.length
      · rw [List.getElem?_append_left hi] at hm
        refine (e2 i m hm).congr (fun u hu => ?_)
        simp only [av_st, av_cp]
        rw [if_neg (by omega), if_neg (by omega)]
      · have hi' : i < (S.2.2.2.2.1 ++ [S.2.2.1]).length := (List.getElem?_eq_some_iff.mp hm).1
        rw [List.length_append, List.length_singleton] at hi'
        have : i = S.2.2.2.2.1.length := by omega
        subst this
        simp at hm
        subst hm
        refine c.congr (fun u hu => ?_)
        simp only [av_st, av_cp]
        rw [if_neg (by omega), if_pos ⟨trivial, by omega, by omega⟩]
        congr 1
        omega
  · rw [if_pos (by omega)] at hQ
    exact hQ σ h
