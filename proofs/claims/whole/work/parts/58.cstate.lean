/-! the class's memory and the state -/
def cMo (f : Nat → Int) (o : Nat) (m : q_Mo) : Prop := f o = (m.1 : Int) ∧ f (o + 1) = (m.2.1 : Int) ∧ f (o + 2) = (m.2.2.1 : Int) ∧ f (o + 3) = (m.2.2.2.1 : Int) ∧ f (o + 4) = (m.2.2.2.2 : Int)
theorem cMo.congr {f h : Nat → Int} {o o' : Nat} {m : q_Mo} (e : ∀ i, i < 5 → h (o' + i) = f (o + i)) (H : cMo f o m) : cMo h o' m := by
  obtain ⟨h0, h1, h2, h3, h4⟩ := H
  exact ⟨(e 0 (by omega)).trans h0, (e 1 (by omega)).trans h1, (e 2 (by omega)).trans h2, (e 3 (by omega)).trans h3, (e 4 (by omega)).trans h4⟩
def cRM (σ : av_M) (S : q_S) : Prop :=
  cWd σ 3 S.1 ∧ (σ 3 11 = (S.2.1.1 : Int) ∧ σ 3 12 = (S.2.1.2.1 : Int) ∧ σ 3 13 = (S.2.1.2.2 : Int)) ∧ cMo (σ 27) 0 S.2.2.1 ∧
  (σ 28 1 = (S.2.2.2.1.length : Int) ∧ ∀ (i : Nat) (m : q_Mo), S.2.2.2.1[i]? = some m → cMo (σ 29) (5 * i) m) ∧ (σ 30 1 = (S.2.2.2.2.1.length : Int) ∧ ∀ (i : Nat) (m : q_Mo), S.2.2.2.2.1[i]? = some m → cMo (σ 31) (5 * i) m) ∧
  (σ 0 10 = (S.2.2.2.2.2.1.length : Int) ∧ ∀ (i : Nat) (q : Nat × Nat), S.2.2.2.2.2.1[i]? = some q → σ 32 i = (q.1 : Int) ∧ σ 33 i = (q.2 : Int)) ∧
  (σ 1 1 = (S.2.2.2.2.2.2.length : Int) ∧ ∀ (i : Nat) (c : Nat), S.2.2.2.2.2.2[i]? = some c → σ 2 i = (c : Int)) ∧
  ∃ l : gq_T × Nat × (Nat → Int), gq_V l.1 ∧ l.2.1 ≤ 5 ∧ cWd σ 12 l
theorem cRM.congr {σ σ' : av_M} {S : q_S} (h : cRM σ S) (e : ∀ a b, ¬ (21 ≤ a ∧ a ≤ 26) → ¬ a = 34 → ¬ (a = 1 ∧ b = 2) → σ' a b = σ a b) : cRM σ' S := by
  obtain ⟨a, ⟨b1, b2, b3⟩, c, ⟨d1, d2⟩, ⟨e1, e2⟩, ⟨f1, f2⟩, ⟨g1, g2⟩, l, l1, l2, l3⟩ := h
  refine ⟨a.congr (fun x y _ _ => e x y (by omega) (by omega) (by omega)), ⟨?_, ?_, ?_⟩, ?_, ⟨?_, fun i m hm => ?_⟩, ⟨?_, fun i m hm => ?_⟩, ⟨?_, fun i q hq => ?_⟩, ⟨?_, fun i c hc => ?_⟩, l, l1, l2, l3.congr (fun x y _ _ => e x y (by omega) (by omega) (by omega))⟩
  · rw [e 3 11 (by omega) (by omega) (by omega)]; exact b1
  · rw [e 3 12 (by omega) (by omega) (by omega)]; exact b2
  · rw [e 3 13 (by omega) (by omega) (by omega)]; exact b3
  · exact c.congr (fun i _ => e 27 _ (by omega) (by omega) (by omega))
  · rw [e 28 1 (by omega) (by omega) (by omega)]; exact d1
  · exact (d2 i m hm).congr (fun i _ => e 29 _ (by omega) (by omega) (by omega))
  · rw [e 30 1 (by omega) (by omega) (by omega)]; exact e1
  · exact (e2 i m hm).congr (fun i _ => e 31 _ (by omega) (by omega) (by omega))
  · rw [e 0 10 (by omega) (by omega) (by omega)]; exact f1
  · rw [e 32 i (by omega) (by omega) (by omega), e 33 i (by omega) (by omega) (by omega)]; exact f2 i q hq
  · rw [e 1 1 (by omega) (by omega) (by omega)]; exact g1
  · rw [e 2 i (by omega) (by omega) (by omega)]; exact g2 i c hc
theorem cRM.gf {σ σ' : av_M} {S : q_S} (h : cRM σ S) (e : cGf σ σ') : cRM σ' S := h.congr (fun a b p _ _ => e a b (by omega))
theorem q_V.wr {T : Nat} {S : q_S} (V : q_V T S) : rw_V S.2.2.1.2.2.2.2 := by
  obtain ⟨-, -, ⟨-, -, -, -, n, row, hn, hr, hw⟩, -⟩ := V
  obtain ⟨e1, e2⟩ := rw_dec n row _ 9 hr hw hn
  refine ⟨?_, by rw [e1]; exact hn, fun i hi => ?_⟩
  · have h1 := rw_nu_lt n hr
    have h2 : 6 ^ n ≤ 6 ^ 9 := Nat.pow_le_pow_right (by omega) hn
    rw [show 6 ^ 9 = 10077696 from rfl] at h2
    omega
  · rw [e1] at hi ⊢
    rw [e2 i hi]
    exact hr i hi
theorem cRM.wr {σ : av_M} {S : q_S} (h : cRM σ S) : σ 27 4 = (S.2.2.1.2.2.2.2 : Int) := h.2.2.1.2.2.2.2
theorem c_isReader {E : av_E} {σ : av_M} {Q : Option av_V → av_M → Prop} {S : q_S} {T : Nat} {k : Int} (h : cRM σ S) (V : q_V T S) (hk : rg k) (hQ : Q (some (av_i (if 0 ≤ k ∧ k < S.1.2.1 then 1 else 0))) σ) : av_C E cSH mX4_isReader [av_r 0, av_i k] σ Q := by
  apply uX4_isReader
  have h5 := V.1.2.2.1
  rw [h.1.2.1]
  refine ⟨hk, fun c => ?_, fun c => ⟨hk, by unfold rg; omega, fun d => ?_, fun d => ?_⟩⟩
  · rw [if_neg (by omega)] at hQ; exact hQ
  · rw [if_neg (by omega)] at hQ; exact hQ
  · rw [if_pos (by omega)] at hQ; exact hQ
theorem co_root {E : av_E} {σ : av_M} {Q : Option av_V → av_M → Prop} {T : Nat} {S : q_S} {r w : Int} (h : cRM σ S) (V : q_V T S) (hr : rg r) (hw : rg w) (hQ : Q (some (av_i (sp_root S r w))) σ) : av_C E cSH mX4_root [av_r 0, av_i r, av_i w] σ Q := by
  apply uX4_root
  have h8 := V.1.1.1
  unfold sp_root at hQ
  rw [h.1.1]
  refine ⟨hr, fun c => ?_, fun c => ⟨hr, by unfold rg; omega, fun d => ?_, fun d => ⟨hw, fun e => ?_, fun e => ⟨hw, fun f => ?_, fun f => ?_⟩⟩⟩⟩
  · rw [if_neg (by omega)] at hQ; exact hQ
  · rw [if_neg (by omega)] at hQ; exact hQ
  · rw [if_neg (by omega)] at hQ; exact hQ
  · rw [if_pos (by omega)] at hQ
    have wd := h.1.2.2.1 r.toNat (by omega)
    refine ⟨hw, fun g => ⟨hw, fun i => ⟨by omega, ?_⟩, fun i => ⟨by omega, ?_⟩⟩, fun g => ⟨by omega, ?_⟩⟩
    · rw [if_neg (by omega), if_neg (by omega)] at hQ
      rw [show σ 7 r.toNat = _ from wd.2.2.2]; exact hQ
    · rw [if_neg (by omega), if_pos (by omega)] at hQ
      rw [show σ 6 r.toNat = _ from wd.2.2.1]; exact hQ
    · rw [if_pos (by omega)] at hQ
      rw [show σ 4 r.toNat = _ from wd.1]; exact hQ
  · rw [if_neg (by omega)] at hQ; exact hQ
theorem co_reader {E : av_E} {σ : av_M} {Q : Option av_V → av_M → Prop} {T : Nat} {S : q_S} {k w : Int} (h : cRM σ S) (V : q_V T S) (hk : rg k) (hw : rg w) (hQ : ∀ σ', cGf σ σ' → Q (some (av_i (sp_reader (q_D S) k w))) σ') : av_C E cSH mX4_reader [av_r 0, av_i k, av_i w] σ Q := by
  apply uX4_reader
  have h5 := V.1.2.2.1
  unfold sp_reader at hQ
  have e0 : (q_D S).2.1 = S.1.2.1 := rfl
  have e1 : (q_D S).2.2.1 = S.1.2.2 := rfl
  rw [e0, e1] at hQ
  refine c_isReader h V hk ⟨_, rfl, by split <;> decide, fun c => ?_, fun c => ?_⟩
  · rw [if_neg (fun q => by rw [if_pos q.1] at c; omega)] at hQ
    exact hQ σ (cGf.rf σ)
  · have hkk : 0 ≤ k ∧ k < S.1.2.1 := by
      apply Decidable.byContradiction
      intro q
      rw [if_neg q] at c
      exact c rfl
    obtain ⟨k, rfl⟩ := Int.eq_ofNat_of_zero_le hkk.1
    rw [Int.toNat_natCast] at hQ
    have wd := h.1.2.2.2.1 k (by omega)
    refine ⟨hw, fun d => ?_, fun d => ⟨hw, fun e => ⟨hw, fun f => ⟨hw, fun g => ⟨hw, fun i => ⟨by omega, ?_⟩, fun i => ⟨by omega, ?_⟩⟩, fun g => ⟨by omega, ?_⟩⟩, fun f => ?_⟩, fun e => ?_⟩⟩
    · rw [if_neg (by omega)] at hQ; exact hQ σ (cGf.rf σ)
    · have : w = 2 := by omega
      subst this
      rw [if_pos (by omega), if_neg (by omega)] at hQ
      rw [Int.toNat_natCast, show σ 10 k = _ from wd.2.2]
      exact hQ σ (cGf.rf σ)
    · subst i
      rw [if_pos (by omega), if_neg (by omega)] at hQ
      rw [Int.toNat_natCast, show σ 9 k = _ from wd.2.1]
      exact hQ σ (cGf.rf σ)
    · subst g
      rw [if_pos (by omega), if_neg (by omega)] at hQ
      rw [Int.toNat_natCast, show σ 8 k = _ from wd.1]
      exact hQ σ (cGf.rf σ)
    · rw [if_pos (by omega), if_pos (by omega)] at hQ
      rw [h.wr]
      exact c_readingsOf V.1 h.1 (by omega) V.wr (fun σ' F _ => ⟨_, rfl, hQ σ' F⟩)
    · rw [if_neg (by omega)] at hQ; exact hQ σ (cGf.rf σ)
