/-! the shelf of what can be undone; the river -/
theorem cRM.now {σ σ' : av_M} {S : q_S} {m : q_Mo} (h : cRM σ S) (e : ∀ a b, a ≠ 27 → σ' a b = σ a b) (hm : cMo (σ' 27) 0 m) : cRM σ' (q_now S m) := by
  obtain ⟨a, ⟨b1, b2, b3⟩, c, ⟨d1, d2⟩, ⟨e1, e2⟩, ⟨f1, f2⟩, ⟨g1, g2⟩, l, l1, l2, l3⟩ := h
  refine ⟨a.congr (fun x y _ _ => e x y (by omega)), ⟨?_, ?_, ?_⟩, hm, ⟨?_, fun i m hm => ?_⟩, ⟨?_, fun i m hm => ?_⟩, ⟨?_, fun i q hq => ?_⟩, ⟨?_, fun i c hc => ?_⟩, l, l1, l2, l3.congr (fun x y _ _ => e x y (by omega))⟩
  · rw [e 3 11 (by omega)]; exact b1
  · rw [e 3 12 (by omega)]; exact b2
  · rw [e 3 13 (by omega)]; exact b3
  · rw [e 28 1 (by omega)]; exact d1
  · exact (d2 i m hm).congr (fun i _ => e 29 _ (by omega))
  · rw [e 30 1 (by omega)]; exact e1
  · exact (e2 i m hm).congr (fun i _ => e 31 _ (by omega))
  · rw [e 0 10 (by omega)]; exact f1
  · rw [e 32 i (by omega), e 33 i (by omega)]; exact f2 i q hq
  · rw [e 1 1 (by omega)]; exact g1
  · rw [e 2 i (by omega)]; exact g2 i c hc
theorem cRM.past {σ σ' : av_M} {S : q_S} {p : List q_Mo} (h : cRM σ S) (e : ∀ a b, a ≠ 28 → a ≠ 29 → σ' a b = σ a b) (h1 : σ' 28 1 = (p.length : Int)) (h2 : ∀ (i : Nat) (m : q_Mo), p[i]? = some m → cMo (σ' 29) (5 * i) m) : cRM σ' (q_past S p) := by
  obtain ⟨a, ⟨b1, b2, b3⟩, c, -, ⟨e1, e2⟩, ⟨f1, f2⟩, ⟨g1, g2⟩, l, l1, l2, l3⟩ := h
  refine ⟨a.congr (fun x y _ _ => e x y (by omega) (by omega)), ⟨?_, ?_, ?_⟩, c.congr (fun i _ => e 27 _ (by omega) (by omega)), ⟨h1, h2⟩, ⟨?_, fun i m hm => ?_⟩, ⟨?_, fun i q hq => ?_⟩, ⟨?_, fun i c hc => ?_⟩, l, l1, l2, l3.congr (fun x y _ _ => e x y (by omega) (by omega))⟩
  · rw [e 3 11 (by omega) (by omega)]; exact b1
  · rw [e 3 12 (by omega) (by omega)]; exact b2
  · rw [e 3 13 (by omega) (by omega)]; exact b3
  · rw [e 30 1 (by omega) (by omega)]; exact e1
  · exact (e2 i m hm).congr (fun i _ => e 31 _ (by omega) (by omega))
  · rw [e 0 10 (by omega) (by omega)]; exact f1
  · rw [e 32 i (by omega) (by omega), e 33 i (by omega) (by omega)]; exact f2 i q hq
  · rw [e 1 1 (by omega) (by omega)]; exact g1
  · rw [e 2 i (by omega) (by omega)]; exact g2 i c hc
theorem c_put {E : av_E} {σ : av_M} {Q : Option av_V → av_M → Prop} {S : q_S} {T : Nat} (h : cRM σ S) (V : q_V T S) (hQ : ∀ σ', cRM σ' (q_past S (q_push S.2.2.2.1 S.2.2.1)) → Q none σ') : av_C E cSH mX1_put [av_r 28, av_r 27] σ Q := by
  apply uX1_put_28
  obtain ⟨d1, d2⟩ := h.2.2.2.1
  have c := h.2.2.1
  have hl := V.2.2.2.1.2
  rw [d1]
  refine ⟨by unfold rg; omega, fun lt => ⟨by omega, ?_⟩, fun ge => ?_⟩
  · rw [show ((S.2.2.2.1.length : Int) * 5).toNat = 5 * S.2.2.2.1.length by omega]
    refine hQ _ (h.past (fun a b p q => ?_) ?_ (fun i m hm => ?_))
    · simp only [av_st, av_cp]
      rw [if_neg (by omega), if_neg (by omega)]
    · unfold q_push
      rw [if_neg (by omega)]
      simp [av_st]
    · unfold q_push at hm
      rw [if_neg (by omega)] at hm
      by_cases hi : i < S.2.2.2.1.length
      · rw [List.getElem?_append_left hi] at hm
        refine (d2 i m hm).congr (fun u hu => ?_)
        simp only [av_st, av_cp]
        rw [if_neg (by omega), if_neg (by omega)]
      · have hi' : i < (S.2.2.2.1 ++ [S.2.2.1]).length := (List.getElem?_eq_some_iff.mp hm).1
        rw [List.length_append, List.length_singleton] at hi'
        have : i = S.2.2.2.1.length := by omega
        subst this
        simp at hm
        subst hm
        refine c.congr (fun u hu => ?_)
        simp only [av_st, av_cp]
        rw [if_neg (by omega), if_pos ⟨trivial, by omega, by omega⟩]
        congr 1
        omega
  · have h8 : S.2.2.2.1.length = 8 := by omega
    refine hQ _ (h.past (fun a b p q => ?_) ?_ (fun i m hm => ?_))
    · simp only [av_st, av_cp]
      rw [if_neg (by omega), if_neg (by omega), if_neg (by omega), if_neg (by omega)]
    · unfold q_push
      rw [if_pos h8, List.length_append, List.length_tail, h8]
      simp [av_st]
    · unfold q_push at hm
      rw [if_pos h8] at hm
      have htl : S.2.2.2.1.tail.length = 7 := by rw [List.length_tail, h8]
      by_cases hi : i < 7
      · rw [List.getElem?_append_left (by omega), List.getElem?_tail] at hm
        refine (d2 (i + 1) m hm).congr (fun u hu => ?_)
        simp only [av_st, av_cp]
        rw [if_neg (by omega), if_neg (by omega), if_neg (by omega), if_pos ⟨trivial, by omega, by omega⟩]
        congr 1
        omega
      · have hi' : i < (S.2.2.2.1.tail ++ [S.2.2.1]).length := (List.getElem?_eq_some_iff.mp hm).1
        rw [List.length_append, List.length_singleton, htl] at hi'
        have : i = 7 := by omega
        subst this
        rw [List.getElem?_append_right (by omega), htl] at hm
        simp at hm
        subst hm
        refine c.congr (fun u hu => ?_)
        simp only [av_st, av_cp]
        rw [if_neg (by omega), if_pos ⟨trivial, by omega, by omega⟩, if_neg (by omega), if_neg (by omega)]
        congr 1
        omega
