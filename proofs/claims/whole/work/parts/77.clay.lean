/-! the class: fault and lay -/
theorem cRM.tx {σ : av_M} {S : q_S} {T : Nat} (h : cRM σ S) (V : q_V T S) : cTx σ S.2.2.2.2.2.2 :=
  ⟨h.2.2.2.2.2.2.1.1, V.2.2.2.2.2.2.2, h.2.2.2.2.2.2.1.2, V.2.2.2.2.2.2.1⟩
theorem cRM.dr {σ σ' : av_M} {S : q_S} {l : gq_T × Nat × (Nat → Int)} (h : cRM σ S) (e : cBw 12 σ σ') (l1 : gq_V l.1) (l2 : l.2.1 ≤ 5) (l3 : cWd σ' 12 l) : cRM σ' S := by
  obtain ⟨a, ⟨b1, b2, b3⟩, c, ⟨d1, d2⟩, ⟨e1, e2⟩, ⟨f1, f2⟩, ⟨g1, g2⟩, -⟩ := h
  refine ⟨a.congr (fun x y _ _ => e x y (by omega) (by omega)), ⟨?_, ?_, ?_⟩, ?_, ⟨?_, fun i m hm => ?_⟩, ⟨?_, fun i m hm => ?_⟩, ⟨?_, fun i q hq => ?_⟩, ⟨?_, fun i c hc => ?_⟩, l, l1, l2, l3⟩
  · rw [e 3 11 (by omega) (by omega)]; exact b1
  · rw [e 3 12 (by omega) (by omega)]; exact b2
  · rw [e 3 13 (by omega) (by omega)]; exact b3
  · exact c.congr (fun i _ => e 27 _ (by omega) (by omega))
  · rw [e 28 1 (by omega) (by omega)]; exact d1
  · exact (d2 i m hm).congr (fun i _ => e 29 _ (by omega) (by omega))
  · rw [e 30 1 (by omega) (by omega)]; exact e1
  · exact (e2 i m hm).congr (fun i _ => e 31 _ (by omega) (by omega))
  · rw [e 0 10 (by omega) (by omega)]; exact f1
  · rw [e 32 i (by omega) (by omega), e 33 i (by omega) (by omega)]; exact f2 i q hq
  · rw [e 1 1 (by omega) (by omega)]; exact g1
  · rw [e 2 i (by omega) (by omega)]; exact g2 i c hc
theorem co_fault {E : av_E} {σ : av_M} {Q : Option av_V → av_M → Prop} {T : Nat} {S : q_S} (h : cRM σ S) (V : q_V T S) (hQ : ∀ σ', cRM σ' S → Q (some (av_i (sp_fault S))) σ') : av_C E cSH mX4_fault [av_r 0] σ Q := by
  apply uX4_fault
  obtain ⟨l, l1, l2, l3⟩ := h.2.2.2.2.2.2.2
  exact c_firstFault_12 (h.tx V) l1 l3 (fun σ' F wv w1 _ => ⟨_, rfl, hQ σ' (h.dr F (q_lg_V wv) wv.2.1.1 (w1.wd wv))⟩)
theorem c_begin {E : av_E} {σ : av_M} {Q : Option av_V → av_M → Prop} {W : q_W} {cs : List Nat} {l : gq_T × Nat × (Nat → Int)} (hT : cTx σ cs) (wv : p_Wv W) (w : cW2 σ 3 W) (l1 : gq_V l.1) (l2 : l.2.1 ≤ 5) (l3 : cWd σ 12 l) (hQ : ∀ σ', cRM σ' (q_lay W cs) → Q none σ') : av_C E cSH mX4_begin [av_r 0] σ Q := by
  apply uX4_begin
  have F : ∀ a b, ¬ (a = 27 ∨ a = 28 ∨ a = 30 ∨ a = 0) → (av_st (av_st (av_st (av_st (av_st (av_st (av_st (av_st σ 27 0 0) 27 1 (σ 3 14)) 27 2 0) 27 3 0) 27 4 (σ 3 10)) 28 1 0) 30 1 0) 0 10 0) a b = σ a b := by
    intro a b p
    simp only [av_st]
    rw [if_neg (by omega), if_neg (by omega), if_neg (by omega), if_neg (by omega), if_neg (by omega), if_neg (by omega), if_neg (by omega), if_neg (by omega)]
  refine hQ _ ⟨(w.1.wd wv).congr (fun x y _ _ => F x y (by omega)), ⟨?_, ?_, ?_⟩, ⟨?_, ?_, ?_, ?_, ?_⟩, ⟨?_, fun i m hm => ?_⟩, ⟨?_, fun i m hm => ?_⟩, ⟨?_, fun i q hq => ?_⟩, ⟨?_, fun i c hc => ?_⟩, l, l1, l2, l3.congr (fun x y _ _ => F x y (by omega))⟩
  · rw [F 3 11 (by omega)]; exact w.2.2.1.1
  · rw [F 3 12 (by omega)]; exact w.2.2.1.2.1
  · rw [F 3 13 (by omega)]; exact w.2.2.1.2.2
  · simp [av_st, q_lay]
  · simp [av_st, q_lay]; exact w.2.2.2
  · simp [av_st, q_lay]
  · simp [av_st, q_lay]
  · simp [av_st, q_lay]; exact w.2.1
  · simp [av_st, q_lay]
  · simp [q_lay] at hm
  · simp [av_st, q_lay]
  · simp [q_lay] at hm
  · simp [av_st, q_lay]
  · simp [q_lay] at hq
  · rw [F 1 1 (by omega)]; exact hT.1
  · rw [F 2 i (by omega)]; exact hT.2.2.1 i c hc
theorem co_lay {E : av_E} {σ : av_M} {Q : Option av_V → av_M → Prop} {T : Nat} {S : q_S} (h : cRM σ S) (V : q_V T S) (hQ : ∀ σ', cRM σ' (sp_lay S).2 → Q (some (av_i (sp_lay S).1)) σ') : av_C E cSH mX4_lay [av_r 0] σ Q := by
  apply uX4_lay
  unfold sp_lay at hQ
  have hT := h.tx V
  obtain ⟨l, l1, l2, l3⟩ := h.2.2.2.2.2.2.2
  have hrg : rg (p_fault S.2.2.2.2.2.2).1 := p_go_rg _ (by have := V.2.2.2.2.2.2.2; omega) _ _ _
  refine c_firstFault_12 hT l1 l3 (fun σ1 F1 wv w1 _ => ⟨_, rfl, hrg, fun c => ?_, fun c => ?_⟩)
  all_goals have h1 := h.dr F1 (q_lg_V wv) wv.2.1.1 (w1.wd wv)
  · rw [if_neg (fun q => c q.1)] at hQ
    exact hQ σ1 h1
  · have a1 := wv.1.1
    have a2 := wv.2.1.1
    rw [w1.1, w1.2.1]
    refine ⟨by unfold rg; omega, fun d => ?_, fun d => ⟨by unfold rg; omega, fun e => ?_, fun e => ?_⟩⟩
    · rw [if_neg (by omega)] at hQ
      exact hQ σ1 h1
    · rw [if_pos ⟨c, by omega, by omega⟩] at hQ
      refine c_firstFault_3 (hT.bw (by omega) F1) V.1.1 h1.1 (fun σ2 F2 wv2 _ w2 => ⟨_, rfl, ?_⟩)
      have W2 := w2 c
      refine c_begin ((hT.bw (by omega) F1).bw (by omega) F2) wv2 W2 (q_lg_V wv) wv.2.1.1 ((w1.wd wv).congr (fun x y p q => F2 x y (by omega) (by omega))) (fun σ3 m => ⟨rfl, ?_⟩)
      have := hQ σ3 m
      rw [show σ3 3 8 = ((p_fault S.2.2.2.2.2.2).2.1.length : Int) from m.1.1]
      exact this
    · rw [if_neg (by omega)] at hQ
      exact hQ σ1 h1
