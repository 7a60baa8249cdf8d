theorem mRM.kept {σ σ' : av_M} {S : q_S} {p : List q_Mo} (h : mRM σ S) (e : ∀ a b, a ≠ 9 → ¬ (a = 0 ∧ b = 11) → σ' a b = σ a b) (h9 : σ' 0 11 = (p.length : Int)) (hp : ∀ (i : Nat) (m : q_Mo), p[i]? = some m → mMo (σ' 9) (14 * i) m) : mRM σ' (q_kept S p) := by
  obtain ⟨⟨a1, a2, a3, a4, a5⟩, ⟨b1, b2⟩, ⟨c1, c2, c3⟩, d, ⟨e1, e2⟩, ⟨f1, f2⟩, ⟨g1, g2⟩, ⟨h1, h2⟩⟩ := h
  refine ⟨⟨?_, ?_, ?_, ?_, ?_⟩, ⟨?_, ?_⟩, ⟨?_, ?_, ?_⟩, ?_, ⟨?_, ?_⟩, ⟨h9, hp⟩, ⟨?_, ?_⟩, ⟨?_, ?_⟩⟩
  · rw [e 0 0 (by omega) (by omega)]; exact a1
  · intro r hr; rw [e 1 r (by omega) (by omega)]; exact a2 r hr
  · intro r i hr hi; rw [e 2 _ (by omega) (by omega)]; exact a3 r i hr hi
  · intro r hr; rw [e 3 r (by omega) (by omega)]; exact a4 r hr
  · intro r hr; rw [e 4 r (by omega) (by omega)]; exact a5 r hr
  · rw [e 0 5 (by omega) (by omega)]; exact b1
  · intro r hr; rw [e 5 r (by omega) (by omega)]; exact b2 r hr
  · rw [e 6 0 (by omega) (by omega)]; exact c1
  · rw [e 6 1 (by omega) (by omega)]; exact c2
  · rw [e 6 2 (by omega) (by omega)]; exact c3
  · exact d.congr (fun i _ => e 7 _ (by omega) (by omega))
  · rw [e 0 9 (by omega) (by omega)]; exact e1
  · intro i m hm; exact (e2 i m hm).congr (fun i _ => e 8 _ (by omega) (by omega))
  · rw [e 0 13 (by omega) (by omega)]; exact g1
  · intro i q hq; rw [e 10 _ (by omega) (by omega), e 10 _ (by omega) (by omega)]; exact g2 i q hq
  · rw [e 0 16 (by omega) (by omega)]; exact h1
  · intro i c hc; rw [e 11 _ (by omega) (by omega)]; exact h2 i c hc

theorem mRM.seen {σ σ' : av_M} {S : q_S} {p : List (Nat × Nat)} (h : mRM σ S) (e : ∀ a b, a ≠ 10 → ¬ (a = 0 ∧ b = 13) → σ' a b = σ a b) (h9 : σ' 0 13 = (p.length : Int)) (hp : ∀ (i : Nat) (q : Nat × Nat), p[i]? = some q → σ' 10 (2 * i) = (q.1 : Int) ∧ σ' 10 (2 * i + 1) = (q.2 : Int)) : mRM σ' (q_seen S p) := by
  obtain ⟨⟨a1, a2, a3, a4, a5⟩, ⟨b1, b2⟩, ⟨c1, c2, c3⟩, d, ⟨e1, e2⟩, ⟨f1, f2⟩, ⟨g1, g2⟩, ⟨h1, h2⟩⟩ := h
  refine ⟨⟨?_, ?_, ?_, ?_, ?_⟩, ⟨?_, ?_⟩, ⟨?_, ?_, ?_⟩, ?_, ⟨?_, ?_⟩, ⟨?_, ?_⟩, ⟨h9, hp⟩, ⟨?_, ?_⟩⟩
  · rw [e 0 0 (by omega) (by omega)]; exact a1
  · intro r hr; rw [e 1 r (by omega) (by omega)]; exact a2 r hr
  · intro r i hr hi; rw [e 2 _ (by omega) (by omega)]; exact a3 r i hr hi
  · intro r hr; rw [e 3 r (by omega) (by omega)]; exact a4 r hr
  · intro r hr; rw [e 4 r (by omega) (by omega)]; exact a5 r hr
  · rw [e 0 5 (by omega) (by omega)]; exact b1
  · intro r hr; rw [e 5 r (by omega) (by omega)]; exact b2 r hr
  · rw [e 6 0 (by omega) (by omega)]; exact c1
  · rw [e 6 1 (by omega) (by omega)]; exact c2
  · rw [e 6 2 (by omega) (by omega)]; exact c3
  · exact d.congr (fun i _ => e 7 _ (by omega) (by omega))
  · rw [e 0 9 (by omega) (by omega)]; exact e1
  · intro i m hm; exact (e2 i m hm).congr (fun i _ => e 8 _ (by omega) (by omega))
  · rw [e 0 11 (by omega) (by omega)]; exact f1
  · intro i m hm; exact (f2 i m hm).congr (fun i _ => e 9 _ (by omega) (by omega))
  · rw [e 0 16 (by omega) (by omega)]; exact h1
  · intro i c hc; rw [e 11 _ (by omega) (by omega)]; exact h2 i c hc

theorem mRM.text {σ σ' : av_M} {S : q_S} {p : List Nat} (h : mRM σ S) (e : ∀ a b, a ≠ 11 → ¬ (a = 0 ∧ b = 16) → σ' a b = σ a b) (h9 : σ' 0 16 = (p.length : Int)) (hp : ∀ (i : Nat) (c : Nat), p[i]? = some c → σ' 11 i = (c : Int)) : mRM σ' (q_text S p) := by
  obtain ⟨⟨a1, a2, a3, a4, a5⟩, ⟨b1, b2⟩, ⟨c1, c2, c3⟩, d, ⟨e1, e2⟩, ⟨f1, f2⟩, ⟨g1, g2⟩, ⟨h1, h2⟩⟩ := h
  refine ⟨⟨?_, ?_, ?_, ?_, ?_⟩, ⟨?_, ?_⟩, ⟨?_, ?_, ?_⟩, ?_, ⟨?_, ?_⟩, ⟨?_, ?_⟩, ⟨?_, ?_⟩, ⟨h9, hp⟩⟩
  · rw [e 0 0 (by omega) (by omega)]; exact a1
  · intro r hr; rw [e 1 r (by omega) (by omega)]; exact a2 r hr
  · intro r i hr hi; rw [e 2 _ (by omega) (by omega)]; exact a3 r i hr hi
  · intro r hr; rw [e 3 r (by omega) (by omega)]; exact a4 r hr
  · intro r hr; rw [e 4 r (by omega) (by omega)]; exact a5 r hr
  · rw [e 0 5 (by omega) (by omega)]; exact b1
  · intro r hr; rw [e 5 r (by omega) (by omega)]; exact b2 r hr
  · rw [e 6 0 (by omega) (by omega)]; exact c1
  · rw [e 6 1 (by omega) (by omega)]; exact c2
  · rw [e 6 2 (by omega) (by omega)]; exact c3
  · exact d.congr (fun i _ => e 7 _ (by omega) (by omega))
  · rw [e 0 9 (by omega) (by omega)]; exact e1
  · intro i m hm; exact (e2 i m hm).congr (fun i _ => e 8 _ (by omega) (by omega))
  · rw [e 0 11 (by omega) (by omega)]; exact f1
  · intro i m hm; exact (f2 i m hm).congr (fun i _ => e 9 _ (by omega) (by omega))
  · rw [e 0 13 (by omega) (by omega)]; exact g1
  · intro i q hq; rw [e 10 _ (by omega) (by omega), e 10 _ (by omega) (by omega)]; exact g2 i q hq

theorem gq_app1 {α : Type} {l : List α} {a x : α} {i : Nat} (h : (l ++ [a])[i]? = some x) : l[i]? = some x ∧ i < l.length ∨ i = l.length ∧ x = a := by
  rw [List.getElem?_append] at h
  split at h
  · rename_i hi
    exact Or.inl ⟨h, hi⟩
  · rename_i hi
    cases hx : i - l.length with
    | zero =>
      rw [hx] at h
      simp at h
      exact Or.inr ⟨by omega, h.symm⟩
    | succ z => rw [hx] at h; simp at h
theorem gq_dl {α : Type} {l : List α} {x : α} {i : Nat} (h : l.dropLast[i]? = some x) : l[i]? = some x ∧ i < l.length - 1 := by
  rw [List.getElem?_dropLast] at h
  split at h
  · exact ⟨h, by assumption⟩
  · cases h
theorem gq_last {α : Type} {l : List α} (d : α) (h : 0 < l.length) : l[l.length - 1]? = some (l.getLastD d) := by
  cases hl : l with
  | nil => rw [hl] at h; simp at h
  | cons a t => rw [List.getLastD_cons, ← List.getLast?_eq_getElem?, List.getLast?_cons]; simp [List.getLastD_eq_getLast?]
theorem mMo.n {f : Nat → Int} {o : Nat} {m : q_Mo} (H : mMo f o m) : f (o + 4) = (rw_cn 9 m.2.2.2.2 : Int) ∧ rw_cn 9 m.2.2.2.2 ≤ 9 ∧ (∀ i, i < rw_cn 9 m.2.2.2.2 → 0 ≤ f (o + (5 + i)) ∧ f (o + (5 + i)) ≤ 4) ∧ rw_nu (fun i => f (o + (5 + i))) (rw_cn 9 m.2.2.2.2) = (m.2.2.2.2 : Int) := by
  obtain ⟨-, -, -, -, n, h4, h5, h6, h7⟩ := H
  obtain ⟨e1, -⟩ := rw_dec n _ _ 9 h6 h7 h5
  rw [e1]
  exact ⟨h4, h5, h6, h7⟩
theorem q_cn9 {T : Nat} {m : q_Mo} (H : q_Mv T m) : rw_cn 9 m.2.2.2.2 ≤ 9 := by
  obtain ⟨-, -, -, -, n, row, h5, h6, h7⟩ := H
  obtain ⟨e1, -⟩ := rw_dec n _ _ 9 h6 h7 h5
  omega
-- shut
def sp_shut (S : q_S) : Int × q_S := if S.2.2.1.2.2.1.testBit 1 = false ∨ S.2.2.1.2.2.2.1 = 1 ∨ (S.2.2.1.2.2.2.1 = 0 ∧ q_fall S.2.1 ≤ S.2.2.1.1) then (-2, S) else
  ((q_fall S.2.1 : Int) - (S.2.2.1.1 : Int), q_now (q_past S (q_push S.2.2.2.1 S.2.2.1)) (S.2.2.1.1, S.2.2.1.2.1, S.2.2.1.2.2.1, 1, S.2.2.1.2.2.2.2))
theorem mo_shut {E : av_E} {σ : av_M} {Q : Option av_V → av_M → Prop} {T : Nat} {S : q_S} (hT : T ≤ 50000) (h : mRM σ S) (V : q_V T S) (hQ : ∀ σ', mRM σ' (sp_shut S).2 → q_V (T + 24) (sp_shut S).2 → Q (some (av_i (sp_shut S).1)) σ') : av_C E mSH mX5_shut [av_r 0] σ Q := by
  apply uX5_shut
  unfold sp_shut at hQ
  obtain ⟨m0, m1, m2, m3, m4⟩ := h.2.2.2.1
  rw [Nat.zero_add] at m1 m2 m3
  obtain ⟨v0, v1, v2, v3, v4⟩ := V.2.2.1
  rw [m2]
  refine s_has (k := 1) (by omega) (by omega) ⟨_, rfl, ?_⟩
  have no : (S.2.2.1.2.2.1.testBit 1 = false ∨ S.2.2.1.2.2.2.1 = 1 ∨ (S.2.2.1.2.2.2.1 = 0 ∧ q_fall S.2.1 ≤ S.2.2.1.1)) → Q (some (av_i (-2))) σ := by
    intro hc
    simp only [if_pos hc] at hQ
    exact hQ σ h (V.mono (Nat.le_add_right _ _))
  by_cases hb : S.2.2.1.2.2.1.testBit 1 = true
  · rw [if_pos hb, m3]
    refine ⟨by decide, fun c => absurd c (by decide), fun _ => ⟨by omega, fun c => no (Or.inr (Or.inl (by omega))), fun c => ?_⟩⟩
    refine s_isFallen V.2.1 h.2.2.1.1 h.2.2.1.2.1 h.2.2.1.2.2 m0 m3 (by omega) v3 ⟨_, rfl, ?_⟩
    by_cases hf : S.2.2.1.2.2.2.1 = 0 ∧ q_fall S.2.1 ≤ S.2.2.1.1
    · rw [if_pos hf]
      exact ⟨by decide, fun c => absurd c (by decide), fun _ => no (Or.inr (Or.inr hf))⟩
    · rw [if_neg hf]
      have hc : ¬ (S.2.2.1.2.2.1.testBit 1 = false ∨ S.2.2.1.2.2.2.1 = 1 ∨ (S.2.2.1.2.2.2.1 = 0 ∧ q_fall S.2.1 ≤ S.2.2.1.1)) := by
        rintro (z | z | z)
        · rw [z] at hb; cases hb
        · omega
        · exact hf z
      simp only [if_neg hc] at hQ
      refine ⟨by decide, fun _ => s_rem h V (fun σ2 h2 => ⟨rfl, ?_⟩), fun c => absurd rfl c⟩
      obtain ⟨p0, p1, p2, p3, n, p4, p5, p6, p7⟩ := h2.2.2.2.1
      have M3 : mMo (av_st σ2 7 3 1 7) 0 (S.2.2.1.1, S.2.2.1.2.1, S.2.2.1.2.2.1, 1, S.2.2.1.2.2.2.2) := by
        refine ⟨?_, ?_, ?_, ?_, n, ?_, p5, fun i hi => ?_, ?_⟩
        · simp only [av_st]; rw [if_neg (by omega)]; exact p0
        · simp only [av_st]; rw [if_neg (by omega)]; exact p1
        · simp only [av_st]; rw [if_neg (by omega)]; exact p2
        · simp [av_st]
        · simp only [av_st]; rw [if_neg (by omega)]; exact p4
        · simp only [av_st]; rw [if_neg (by omega)]; exact p6 i hi
        · refine Eq.trans (rw_nu_congr n (fun i hi => ?_)) p7
          simp only [av_st]; rw [if_neg (by omega)]
      have h3 := h2.now (σ' := av_st σ2 7 3 1) (fun a b ha => av_st_o a b ha) M3
      refine s_fall V.2.1 h3.2.2.1.1 h3.2.2.1.2.1 h3.2.2.1.2.2 ⟨_, rfl, ?_⟩
      have e0 : av_st σ2 7 3 1 7 0 = (S.2.2.1.1 : Int) := M3.1
      rw [e0]
      exact hQ _ h3 (V.step (M3.val (by have := V.2.2.1.1; show S.2.2.1.1 ≤ _; omega) v1 v2 (Nat.le_refl _)))
  · rw [if_neg hb]
    exact ⟨by decide, fun _ => no (Or.inl (by simpa using hb)), fun c => absurd rfl c⟩
-- carve, rub
def sp_carve (S : q_S) (a : Int) : Int × q_S := if 0 ≤ a ∧ a ≤ 4 then (if rw_cn 9 S.2.2.1.2.2.2.2 = 9 then (-3, S) else
  ((rw_cn 9 S.2.2.1.2.2.2.2 : Int) + 1, q_now (q_past S (q_push S.2.2.2.1 S.2.2.1)) (S.2.2.1.1, S.2.2.1.2.1, S.2.2.1.2.2.1, S.2.2.1.2.2.2.1, 6 * S.2.2.1.2.2.2.2 + a.toNat + 1))) else (-1, S)
theorem mo_carve {E : av_E} {σ : av_M} {Q : Option av_V → av_M → Prop} {T : Nat} {S : q_S} {a : Int} (h : mRM σ S) (V : q_V T S) (ha : rg a) (hQ : ∀ σ', mRM σ' (sp_carve S a).2 → q_V (T + 24) (sp_carve S a).2 → Q (some (av_i (sp_carve S a).1)) σ') : av_C E mSH mX5_carve [av_r 0, av_i a] σ Q := by
  apply uX5_carve
  unfold sp_carve at hQ
  obtain ⟨v0, v1, v2, v3, v4⟩ := V.2.2.1
  have hn9 := q_cn9 V.2.2.1
  refine s_in ha (by decide) (by decide) ⟨_, rfl, ?_⟩
  by_cases h1 : 0 ≤ a ∧ a ≤ 4
  · simp only [if_pos h1] at hQ
    rw [if_pos h1]
    have e4 := h.2.2.2.1.n.1
    rw [Nat.zero_add] at e4
    rw [e4]
    refine ⟨by decide, fun _ => ⟨by omega, fun c => ?_, fun c => ?_⟩, fun c => absurd c (by decide)⟩
    · simp only [if_neg (show ¬ rw_cn 9 S.2.2.1.2.2.2.2 = 9 by omega)] at hQ
      refine s_rem h V (fun σ2 h2 => ⟨rfl, ?_⟩)
      have n4 := h2.2.2.2.1.n
      obtain ⟨p0, p1, p2, p3, -⟩ := h2.2.2.2.1
      obtain ⟨n, hn⟩ : ∃ n, n = rw_cn 9 S.2.2.1.2.2.2.2 := ⟨_, rfl⟩
      have n4' : σ2 7 4 = (n : Int) ∧ n ≤ 9 ∧ (∀ i, i < n → 0 ≤ σ2 7 (0 + (5 + i)) ∧ σ2 7 (0 + (5 + i)) ≤ 4) ∧ rw_nu (fun i => σ2 7 (0 + (5 + i))) n = (S.2.2.1.2.2.2.2 : Int) := by
        rw [hn]
        have := n4
        rw [Nat.zero_add] at this
        exact this
      obtain ⟨q4, q5, q6, q7⟩ := n4'
      have e5 : (5 + (n : Int)).toNat = 5 + n := by omega
      have e6 : av_st σ2 7 (5 + n) a 7 4 = (n : Int) := by
        simp only [av_st]; rw [if_neg (by omega)]; exact q4
      rw [q4, e5, e6]
      refine ⟨by omega, ?_⟩
      have ev : ∀ i, av_st (av_st σ2 7 (5 + n) a) 7 4 ((n : Int) + 1) 7 (0 + (5 + i)) = if i = n then a else σ2 7 (0 + (5 + i)) := by
        intro i
        have q1 : ¬ (0 + (5 + i) = 4) := by omega
        by_cases hin : i = n
        · simp only [av_st]
          rw [if_neg (fun z => q1 z.2), if_pos ⟨trivial, by omega⟩, if_pos hin]
        · simp only [av_st]
          rw [if_neg (fun z => q1 z.2), if_neg (fun z => hin (by have := z.2; omega)), if_neg hin]
      have M3 : mMo (av_st (av_st σ2 7 (5 + n) a) 7 4 ((n : Int) + 1) 7) 0 (S.2.2.1.1, S.2.2.1.2.1, S.2.2.1.2.2.1, S.2.2.1.2.2.2.1, 6 * S.2.2.1.2.2.2.2 + a.toNat + 1) := by
        refine ⟨?_, ?_, ?_, ?_, n + 1, ?_, by omega, fun i hi => ?_, ?_⟩
        · simp only [av_st]; rw [if_neg (by omega), if_neg (by omega)]; exact p0
        · simp only [av_st]; rw [if_neg (by omega), if_neg (by omega)]; exact p1
        · simp only [av_st]; rw [if_neg (by omega), if_neg (by omega)]; exact p2
        · simp only [av_st]; rw [if_neg (by omega), if_neg (by omega)]; exact p3
        · simp [av_st]
        · rw [ev i]
          by_cases hin : i = n
          · rw [if_pos hin]; exact h1
          · rw [if_neg hin]; exact q6 i (by omega)
        · rw [rw_nu, rw_nu_congr (h := fun i => σ2 7 (0 + (5 + i))) n (fun i hi => by rw [ev i, if_neg (by omega)]), q7, ev n, if_pos rfl]
          show 6 * (S.2.2.1.2.2.2.2 : Int) + a + 1 = ((6 * S.2.2.1.2.2.2.2 + a.toNat + 1 : Nat) : Int)
          omega
      have h3 := h2.now (σ' := av_st (av_st σ2 7 (5 + n) a) 7 4 ((n : Int) + 1)) (fun a b ha => by rw [av_st_o a b ha, av_st_o a b ha]) M3
      rw [← hn] at hQ
      exact hQ _ h3 (V.step (M3.val (by have := V.2.2.1.1; show S.2.2.1.1 ≤ _; omega) v1 v2 v3))
    · simp only [if_pos (show rw_cn 9 S.2.2.1.2.2.2.2 = 9 by omega)] at hQ
      exact hQ σ h (V.mono (Nat.le_add_right _ _))
  · simp only [if_neg h1] at hQ
    rw [if_neg h1]
    exact ⟨by decide, fun c => absurd rfl c, fun _ => hQ σ h (V.mono (Nat.le_add_right _ _))⟩
def sp_rub (S : q_S) : Int × q_S := if rw_cn 9 S.2.2.1.2.2.2.2 = 0 then (-2, S) else
  ((rw_cn 9 S.2.2.1.2.2.2.2 : Int) - 1, q_now (q_past S (q_push S.2.2.2.1 S.2.2.1)) (S.2.2.1.1, S.2.2.1.2.1, S.2.2.1.2.2.1, S.2.2.1.2.2.2.1, S.2.2.1.2.2.2.2 / 6))
theorem mo_rub {E : av_E} {σ : av_M} {Q : Option av_V → av_M → Prop} {T : Nat} {S : q_S} (h : mRM σ S) (V : q_V T S) (hQ : ∀ σ', mRM σ' (sp_rub S).2 → q_V (T + 24) (sp_rub S).2 → Q (some (av_i (sp_rub S).1)) σ') : av_C E mSH mX5_rub [av_r 0] σ Q := by
  apply uX5_rub
  unfold sp_rub at hQ
  obtain ⟨v0, v1, v2, v3, v4⟩ := V.2.2.1
  have hn9 := q_cn9 V.2.2.1
  have e4 := h.2.2.2.1.n.1
  rw [Nat.zero_add] at e4
  rw [e4]
  refine ⟨by omega, fun c => ?_, fun c => ?_⟩
  · simp only [if_neg (show ¬ rw_cn 9 S.2.2.1.2.2.2.2 = 0 by omega)] at hQ
    refine s_rem h V (fun σ2 h2 => ⟨rfl, ?_⟩)
    have n4 := h2.2.2.2.1.n
    obtain ⟨p0, p1, p2, p3, -⟩ := h2.2.2.2.1
    obtain ⟨n, hn⟩ : ∃ n, n + 1 = rw_cn 9 S.2.2.1.2.2.2.2 := ⟨rw_cn 9 S.2.2.1.2.2.2.2 - 1, by omega⟩
    have n4' : σ2 7 4 = ((n + 1 : Nat) : Int) ∧ n + 1 ≤ 9 ∧ (∀ i, i < n + 1 → 0 ≤ σ2 7 (0 + (5 + i)) ∧ σ2 7 (0 + (5 + i)) ≤ 4) ∧ rw_nu (fun i => σ2 7 (0 + (5 + i))) (n + 1) = (S.2.2.1.2.2.2.2 : Int) := by
      rw [hn]
      have := n4
      rw [Nat.zero_add] at this
      exact this
    obtain ⟨q4, q5, q6, q7⟩ := n4'
    have e5 : ((n + 1 : Nat) : Int) - 1 = (n : Int) := by omega
    rw [q4, e5]
    have M3 : mMo (av_st σ2 7 4 (n : Int) 7) 0 (S.2.2.1.1, S.2.2.1.2.1, S.2.2.1.2.2.1, S.2.2.1.2.2.2.1, S.2.2.1.2.2.2.2 / 6) := by
      refine ⟨?_, ?_, ?_, ?_, n, ?_, by omega, fun i hi => ?_, ?_⟩
      · simp only [av_st]; rw [if_neg (by omega)]; exact p0
      · simp only [av_st]; rw [if_neg (by omega)]; exact p1
      · simp only [av_st]; rw [if_neg (by omega)]; exact p2
      · simp only [av_st]; rw [if_neg (by omega)]; exact p3
      · simp [av_st]
      · simp only [av_st]
        rw [if_neg (by omega)]
        exact q6 i (by omega)
      · rw [rw_nu_congr (h := fun i => σ2 7 (0 + (5 + i))) n (fun i hi => by simp only [av_st]; rw [if_neg (by omega)])]
        rw [rw_nu] at q7
        have := q6 n (by omega)
        show _ = ((S.2.2.1.2.2.2.2 / 6 : Nat) : Int)
        omega
    have h3 := h2.now (σ' := av_st σ2 7 4 (n : Int)) (fun a b ha => av_st_o a b ha) M3
    rw [← hn, e5] at hQ
    exact hQ _ h3 (V.step (M3.val (by have := V.2.2.1.1; show S.2.2.1.1 ≤ _; omega) v1 v2 v3))
  · simp only [if_pos (show rw_cn 9 S.2.2.1.2.2.2.2 = 0 by omega)] at hQ
    exact hQ σ h (V.mono (Nat.le_add_right _ _))
-- pass
def sp_pass (S : q_S) (n : Int) : Int × q_S := if 1 ≤ n ∧ n ≤ 24 then ((q_dep S.2.1 (S.2.2.1.1 + n.toNat) : Int), q_now (q_past S (q_push S.2.2.2.1 S.2.2.1)) (S.2.2.1.1 + n.toNat, S.2.2.1.2)) else (-1, S)
theorem mo_pass {E : av_E} {σ : av_M} {Q : Option av_V → av_M → Prop} {T : Nat} {S : q_S} {n : Int} (hT : T ≤ 50000) (h : mRM σ S) (V : q_V T S) (ha : rg n) (hQ : ∀ σ', mRM σ' (sp_pass S n).2 → q_V (T + 24) (sp_pass S n).2 → Q (some (av_i (sp_pass S n).1)) σ') : av_C E mSH mX5_pass [av_r 0, av_i n] σ Q := by
  apply uX5_pass
  unfold sp_pass at hQ
  obtain ⟨v0, v1, v2, v3, v4⟩ := V.2.2.1
  refine s_in ha (by decide) (by decide) ⟨_, rfl, ?_⟩
  by_cases h1 : 1 ≤ n ∧ n ≤ 24
  · simp only [if_pos h1] at hQ
    rw [if_pos h1]
    obtain ⟨q, rfl⟩ := Int.eq_ofNat_of_zero_le (show 0 ≤ n by omega)
    rw [Int.toNat_natCast] at hQ
    refine ⟨by decide, fun _ => s_rem h V (fun σ2 h2 => ⟨rfl, ?_⟩), fun c => absurd c (by decide)⟩
    obtain ⟨p0, p1, p2, p3, n, p4, p5, p6, p7⟩ := h2.2.2.2.1
    have e0 : σ2 7 0 + (q : Int) = ((S.2.2.1.1 + q : Nat) : Int) := by rw [p0]; show (S.2.2.1.1 : Int) + (q : Int) = _; omega
    rw [e0]
    have M3 : mMo (av_st σ2 7 0 ((S.2.2.1.1 + q : Nat) : Int) 7) 0 (S.2.2.1.1 + q, S.2.2.1.2) := by
      refine ⟨?_, ?_, ?_, ?_, n, ?_, p5, fun i hi => ?_, ?_⟩
      · simp [av_st]
      · simp only [av_st]; rw [if_neg (by omega)]; exact p1
      · simp only [av_st]; rw [if_neg (by omega)]; exact p2
      · simp only [av_st]; rw [if_neg (by omega)]; exact p3
      · simp only [av_st]; rw [if_neg (by omega)]; exact p4
      · simp only [av_st]; rw [if_neg (by omega)]; exact p6 i hi
      · refine Eq.trans (rw_nu_congr n (fun i hi => ?_)) p7
        simp only [av_st]; rw [if_neg (by omega)]
    have h3 := h2.now (σ' := av_st σ2 7 0 ((S.2.2.1.1 + q : Nat) : Int)) (fun a b ha => av_st_o a b ha) M3
    exact s_deepIn V.2.1 h3.2.2.1.1 h3.2.2.1.2.1 h3.2.2.1.2.2 (by omega) ⟨_, rfl, hQ _ h3 (V.step (M3.val (by show S.2.2.1.1 + q ≤ T + 24; omega) v1 v2 v3))⟩
  · simp only [if_neg h1] at hQ
    rw [if_neg h1]
    exact ⟨by decide, fun c => absurd rfl c, fun _ => hQ σ h (V.mono (Nat.le_add_right _ _))⟩
-- undo, keep, back
def sp_undo (S : q_S) : Int × q_S := if S.2.2.2.1.length = 0 then (-2, S) else (((S.2.2.2.1.length - 1 : Nat) : Int), q_now (q_past S S.2.2.2.1.dropLast) (S.2.2.2.1.getLastD S.2.2.1))
theorem gq_mem_last {α : Type} {l : List α} (d : α) (h : 0 < l.length) : l.getLastD d ∈ l := by
  have := gq_last d h
  exact List.mem_of_getElem? this
theorem mo_undo {E : av_E} {σ : av_M} {Q : Option av_V → av_M → Prop} {T : Nat} {S : q_S} (h : mRM σ S) (V : q_V T S) (hQ : ∀ σ', mRM σ' (sp_undo S).2 → q_V (T + 24) (sp_undo S).2 → Q (some (av_i (sp_undo S).1)) σ') : av_C E mSH mX5_undo [av_r 0] σ Q := by
  apply uX5_undo
  unfold sp_undo at hQ
  have V2 := V.mono (Nat.le_add_right T 24)
  have h8 := V.2.2.2.1.2
  rw [h.2.2.2.2.1.1]
  refine ⟨by omega, fun c => ?_, fun c => ?_⟩
  · simp only [if_neg (show ¬ S.2.2.2.1.length = 0 by omega)] at hQ
    have e1 : 14 * ((S.2.2.2.1.length : Int) - 1) = ((14 * (S.2.2.2.1.length - 1) : Nat) : Int) := by omega
    have e2 : (S.2.2.2.1.length : Int) - 1 = ((S.2.2.2.1.length - 1 : Nat) : Int) := by omega
    rw [e1, e2]
    refine s_copies (n0 := 14) (n1 := 112) (d := 0) (s := 14 * (S.2.2.2.1.length - 1)) (n := 14) rfl rfl (by omega) (by omega) (by omega) (by omega) (by omega) ⟨rfl, ?_⟩
    have hp : mRM (av_st σ 0 9 ((S.2.2.2.1.length - 1 : Nat) : Int)) (q_past S S.2.2.2.1.dropLast) := by
      refine h.past (fun a b q1 q2 => by simp [av_st, q2]) (by simp [av_st]) (fun i m hm => ?_)
      obtain ⟨g1, g2⟩ := gq_dl hm
      exact (h.2.2.2.2.1.2 i m g1).congr (fun u hu => by simp [av_st])
    have hl := h.2.2.2.2.1.2 _ _ (gq_last S.2.2.1 (show 0 < S.2.2.2.1.length by omega))
    have hn := hp.now (σ' := av_cp (av_st σ 0 9 ((S.2.2.2.1.length - 1 : Nat) : Int)) 8 (14 * (S.2.2.2.1.length - 1)) 7 0 14) (m := S.2.2.2.1.getLastD S.2.2.1) (fun a b ha => by simp [av_cp, ha]) (hl.congr (fun u hu => by simp [av_cp, av_st, hu]))
    have e3 : av_cp (av_st σ 0 9 ((S.2.2.2.1.length - 1 : Nat) : Int)) 8 (14 * (S.2.2.2.1.length - 1)) 7 0 14 0 9 = ((S.2.2.2.1.length - 1 : Nat) : Int) := by simp [av_cp, av_st]
    rw [e3]
    refine hQ _ hn ⟨V2.1, V2.2.1, V2.2.2.2.1.1 _ (gq_mem_last _ (by omega)), ⟨fun m hm => V2.2.2.2.1.1 m (List.dropLast_subset _ hm), by show S.2.2.2.1.dropLast.length ≤ 8; rw [List.length_dropLast]; omega⟩, V2.2.2.2.2⟩
  · simp only [if_pos (show S.2.2.2.1.length = 0 by omega)] at hQ
    exact hQ σ h V2
def sp_keep (S : q_S) : Int × q_S := if S.2.2.2.2.1.length = 2 then (-3, S) else (((S.2.2.2.2.1.length + 1 : Nat) : Int), q_kept S (S.2.2.2.2.1 ++ [S.2.2.1]))
theorem mo_keep {E : av_E} {σ : av_M} {Q : Option av_V → av_M → Prop} {T : Nat} {S : q_S} (h : mRM σ S) (V : q_V T S) (hQ : ∀ σ', mRM σ' (sp_keep S).2 → q_V (T + 24) (sp_keep S).2 → Q (some (av_i (sp_keep S).1)) σ') : av_C E mSH mX5_keep [av_r 0] σ Q := by
  apply uX5_keep
  unfold sp_keep at hQ
  have V2 := V.mono (Nat.le_add_right T 24)
  have h8 := V.2.2.2.2.1.2
  have h11 := h.2.2.2.2.2.1.1
  rw [h11]
  refine ⟨by omega, fun c => ?_, fun c => ?_⟩
  · simp only [if_neg (show ¬ S.2.2.2.2.1.length = 2 by omega)] at hQ
    have e1 : 14 * (S.2.2.2.2.1.length : Int) = ((14 * S.2.2.2.2.1.length : Nat) : Int) := by omega
    rw [e1]
    refine s_copies (n0 := 28) (n1 := 14) (d := 14 * S.2.2.2.2.1.length) (s := 0) (n := 14) rfl rfl (by omega) (by omega) (by omega) (by omega) (by omega) ⟨rfl, ?_⟩
    have e3 : av_cp σ 7 0 9 (14 * S.2.2.2.2.1.length) 14 0 11 = (S.2.2.2.2.1.length : Int) := by simp [av_cp, h11]
    have e4 : (S.2.2.2.2.1.length : Int) + 1 = ((S.2.2.2.2.1.length + 1 : Nat) : Int) := by omega
    rw [e3, e4]
    refine hQ _ (h.kept (fun a b q1 q2 => by simp [av_st, av_cp, q1, q2]) (by simp [av_st]) (fun i m hm => ?_)) ⟨V2.1, V2.2.1, V2.2.2.1, V2.2.2.2.1, ⟨fun m hm => ?_, by show (S.2.2.2.2.1 ++ [S.2.2.1]).length ≤ 2; rw [List.length_append]; simp; omega⟩, V2.2.2.2.2.2⟩
    · rcases gq_app1 hm with ⟨g1, g2⟩ | ⟨g1, g2⟩
      · refine (h.2.2.2.2.2.1.2 i m g1).congr (fun u hu => ?_)
        have q1 : ¬ (14 * S.2.2.2.2.1.length ≤ 14 * i + u ∧ 14 * i + u < 14 * S.2.2.2.2.1.length + 14) := by omega
        simp [av_st, av_cp, q1]
      · subst g1; subst g2
        refine h.2.2.2.1.congr (fun u hu => ?_)
        simp [av_st, av_cp, hu]
    · rcases List.mem_append.mp hm with hm | hm
      · exact V2.2.2.2.2.1.1 m hm
      · rw [List.mem_singleton.mp hm]; exact V2.2.2.1
  · simp only [if_pos (show S.2.2.2.2.1.length = 2 by omega)] at hQ
    exact hQ σ h V2
def sp_back (S : q_S) : Int × q_S := if S.2.2.2.2.1.length = 0 then (-2, S) else (((S.2.2.2.2.1.length - 1 : Nat) : Int), q_past (q_now (q_kept S S.2.2.2.2.1.dropLast) (S.2.2.2.2.1.getLastD S.2.2.1)) [])
theorem mo_back {E : av_E} {σ : av_M} {Q : Option av_V → av_M → Prop} {T : Nat} {S : q_S} (h : mRM σ S) (V : q_V T S) (hQ : ∀ σ', mRM σ' (sp_back S).2 → q_V (T + 24) (sp_back S).2 → Q (some (av_i (sp_back S).1)) σ') : av_C E mSH mX5_back [av_r 0] σ Q := by
  apply uX5_back
  unfold sp_back at hQ
  have V2 := V.mono (Nat.le_add_right T 24)
  have h8 := V.2.2.2.2.1.2
  rw [h.2.2.2.2.2.1.1]
  refine ⟨by omega, fun c => ?_, fun c => ?_⟩
  · simp only [if_neg (show ¬ S.2.2.2.2.1.length = 0 by omega)] at hQ
    have e1 : 14 * ((S.2.2.2.2.1.length : Int) - 1) = ((14 * (S.2.2.2.2.1.length - 1) : Nat) : Int) := by omega
    have e2 : (S.2.2.2.2.1.length : Int) - 1 = ((S.2.2.2.2.1.length - 1 : Nat) : Int) := by omega
    rw [e1, e2]
    refine s_copies (n0 := 14) (n1 := 28) (d := 0) (s := 14 * (S.2.2.2.2.1.length - 1)) (n := 14) rfl rfl (by omega) (by omega) (by omega) (by omega) (by omega) ⟨rfl, ?_⟩
    have hp : mRM (av_st σ 0 11 ((S.2.2.2.2.1.length - 1 : Nat) : Int)) (q_kept S S.2.2.2.2.1.dropLast) := by
      refine h.kept (fun a b q1 q2 => by simp [av_st, q2]) (by simp [av_st]) (fun i m hm => ?_)
      obtain ⟨g1, g2⟩ := gq_dl hm
      exact (h.2.2.2.2.2.1.2 i m g1).congr (fun u hu => by simp [av_st])
    have hl := h.2.2.2.2.2.1.2 _ _ (gq_last S.2.2.1 (show 0 < S.2.2.2.2.1.length by omega))
    have hn := hp.now (σ' := av_cp (av_st σ 0 11 ((S.2.2.2.2.1.length - 1 : Nat) : Int)) 9 (14 * (S.2.2.2.2.1.length - 1)) 7 0 14) (m := S.2.2.2.2.1.getLastD S.2.2.1) (fun a b ha => by simp [av_cp, ha]) (hl.congr (fun u hu => by simp [av_cp, av_st, hu]))
    have e3 : av_cp (av_st σ 0 11 ((S.2.2.2.2.1.length - 1 : Nat) : Int)) 9 (14 * (S.2.2.2.2.1.length - 1)) 7 0 14 0 11 = ((S.2.2.2.2.1.length - 1 : Nat) : Int) := by simp [av_cp, av_st]
    rw [e3]
    have ho := hn.past (σ' := av_st (av_cp (av_st σ 0 11 ((S.2.2.2.2.1.length - 1 : Nat) : Int)) 9 (14 * (S.2.2.2.2.1.length - 1)) 7 0 14) 0 9 0) (p := []) (fun a b q1 q2 => by simp [av_st, q2]) (by simp [av_st]) (fun i m hm => by simp at hm)
    refine hQ _ ho ⟨V2.1, V2.2.1, V2.2.2.2.2.1.1 _ (gq_mem_last _ (by omega)), ⟨fun m hm => (by cases hm), (Nat.zero_le _)⟩, ⟨fun m hm => V2.2.2.2.2.1.1 m (List.dropLast_subset _ hm), by show S.2.2.2.2.1.dropLast.length ≤ 2; rw [List.length_dropLast]; omega⟩, V2.2.2.2.2.2⟩
  · simp only [if_pos (show S.2.2.2.2.1.length = 0 by omega)] at hQ
    exact hQ σ h V2
-- see, forget
def sp_see (S : q_S) (k w : Int) : Int × q_S := if (0 ≤ k ∧ k < S.1.2.1) ∧ 0 ≤ w ∧ w ≤ 600 then (if S.2.2.2.2.2.1.length = 6 then (-3, S) else (((S.2.2.2.2.2.1.length + 1 : Nat) : Int), q_seen S (S.2.2.2.2.2.1 ++ [(k.toNat, w.toNat)]))) else (-1, S)
theorem mo_see {E : av_E} {σ : av_M} {Q : Option av_V → av_M → Prop} {T : Nat} {S : q_S} {k w : Int} (h : mRM σ S) (V : q_V T S) (hk : rg k) (hw : rg w) (hQ : ∀ σ', mRM σ' (sp_see S k w).2 → q_V (T + 24) (sp_see S k w).2 → Q (some (av_i (sp_see S k w).1)) σ') : av_C E mSH mX5_see [av_r 0, av_i k, av_i w] σ Q := by
  apply uX5_see
  unfold sp_see at hQ
  have V2 := V.mono (Nat.le_add_right T 24)
  refine s_isReader (h.D V) hk ⟨_, rfl, ?_⟩
  have eK : (q_D S).2.1 = S.1.2.1 := rfl
  rw [eK]
  by_cases h1 : 0 ≤ k ∧ k < S.1.2.1
  · rw [if_pos h1]
    refine ⟨by decide, fun c => absurd c (by decide), fun _ => s_in hw (by decide) (by decide) ⟨_, rfl, ?_⟩⟩
    by_cases h2 : 0 ≤ w ∧ w ≤ 600
    · simp only [if_pos (show (0 ≤ k ∧ k < S.1.2.1) ∧ 0 ≤ w ∧ w ≤ 600 from ⟨h1, h2⟩)] at hQ
      rw [if_pos h2]
      have h13 := h.2.2.2.2.2.2.1.1
      have h6 := V.2.2.2.2.2.1.2
      rw [h13]
      refine ⟨by decide, fun _ => ⟨by omega, fun c => ?_, fun c => ?_⟩, fun c => absurd c (by decide)⟩
      · simp only [if_neg (show ¬ S.2.2.2.2.2.1.length = 6 by omega)] at hQ
        have e1 : (2 * (S.2.2.2.2.2.1.length : Int)).toNat = 2 * S.2.2.2.2.2.1.length := by omega
        have e2 : (2 * (S.2.2.2.2.2.1.length : Int) + 1).toNat = 2 * S.2.2.2.2.2.1.length + 1 := by omega
        have e4 : (S.2.2.2.2.2.1.length : Int) + 1 = ((S.2.2.2.2.2.1.length + 1 : Nat) : Int) := by omega
        rw [e1, e2, e4]
        refine ⟨by omega, by omega, hQ _ (h.seen (fun a b q1 q2 => by simp [av_st, q1, q2]) (by simp [av_st]) (fun i q hq => ?_)) ⟨V2.1, V2.2.1, V2.2.2.1, V2.2.2.2.1, V2.2.2.2.2.1, ⟨fun q hq => ?_, by show (S.2.2.2.2.2.1 ++ [(k.toNat, w.toNat)]).length ≤ 6; rw [List.length_append]; simp; omega⟩, V2.2.2.2.2.2.2⟩⟩
        · rcases gq_app1 hq with ⟨g1, g2⟩ | ⟨g1, g2⟩
          · have q1 : ¬ (2 * i = 2 * S.2.2.2.2.2.1.length) := by omega
            have q2 : ¬ (2 * i = 2 * S.2.2.2.2.2.1.length + 1) := by omega
            have q3 : ¬ (2 * i + 1 = 2 * S.2.2.2.2.2.1.length) := by omega
            have q4 : ¬ (2 * i + 1 = 2 * S.2.2.2.2.2.1.length + 1) := by omega
            have := h.2.2.2.2.2.2.1.2 i q g1
            refine ⟨?_, ?_⟩
            · simp only [av_st, q1, q2, and_false, if_false]; rw [if_neg (by omega)]; exact this.1
            · simp only [av_st, q3, q4, and_false, if_false]; rw [if_neg (by omega)]; exact this.2
          · subst g1; subst g2
            refine ⟨?_, ?_⟩
            · simp [av_st]; omega
            · simp [av_st]; omega
        · rcases List.mem_append.mp hq with hq | hq
          · exact V2.2.2.2.2.2.1.1 q hq
          · rw [List.mem_singleton.mp hq]
            show k.toNat < S.1.2.1 ∧ w.toNat ≤ 600
            omega
      · simp only [if_pos (show S.2.2.2.2.2.1.length = 6 by omega)] at hQ
        exact hQ σ h V2
    · simp only [if_neg (show ¬ ((0 ≤ k ∧ k < S.1.2.1) ∧ 0 ≤ w ∧ w ≤ 600) from fun z => h2 z.2)] at hQ
      rw [if_neg h2]
      exact ⟨by decide, fun c => absurd rfl c, fun _ => hQ σ h V2⟩
  · simp only [if_neg (show ¬ ((0 ≤ k ∧ k < S.1.2.1) ∧ 0 ≤ w ∧ w ≤ 600) from fun z => h1 z.1)] at hQ
    rw [if_neg h1]
    exact ⟨by decide, fun _ => hQ σ h V2, fun c => absurd rfl c⟩
def sp_forget (S : q_S) : Int × q_S := ((S.2.2.2.2.2.1.length : Int), q_seen S [])
theorem mo_forget {E : av_E} {σ : av_M} {Q : Option av_V → av_M → Prop} {T : Nat} {S : q_S} (h : mRM σ S) (V : q_V T S) (hQ : ∀ σ', mRM σ' (sp_forget S).2 → q_V (T + 24) (sp_forget S).2 → Q (some (av_i (sp_forget S).1)) σ') : av_C E mSH mX5_forget [av_r 0] σ Q := by
  apply uX5_forget
  have V2 := V.mono (Nat.le_add_right T 24)
  rw [h.2.2.2.2.2.2.1.1]
  exact hQ _ (h.seen (fun a b q1 q2 => by simp [av_st, q2]) (by simp [av_st]) (fun i q hq => by simp at hq)) ⟨V2.1, V2.2.1, V2.2.2.1, V2.2.2.2.1, V2.2.2.2.2.1, ⟨fun q hq => (by cases hq), (Nat.zero_le _)⟩, V2.2.2.2.2.2.2⟩
-- write, wipe
def sp_write (S : q_S) (a : Int) : Int × q_S := if 32 ≤ a ∧ a ≤ 126 then (if S.2.2.2.2.2.2.length = 200 then (-3, S) else (((S.2.2.2.2.2.2.length + 1 : Nat) : Int), q_text S (S.2.2.2.2.2.2 ++ [a.toNat]))) else (-1, S)
theorem mo_write {E : av_E} {σ : av_M} {Q : Option av_V → av_M → Prop} {T : Nat} {S : q_S} {a : Int} (h : mRM σ S) (V : q_V T S) (ha : rg a) (hQ : ∀ σ', mRM σ' (sp_write S a).2 → q_V (T + 24) (sp_write S a).2 → Q (some (av_i (sp_write S a).1)) σ') : av_C E mSH mX5_write [av_r 0, av_i a] σ Q := by
  apply uX5_write
  unfold sp_write at hQ
  have V2 := V.mono (Nat.le_add_right T 24)
  refine s_in ha (by decide) (by decide) ⟨_, rfl, ?_⟩
  by_cases h1 : 32 ≤ a ∧ a ≤ 126
  · simp only [if_pos h1] at hQ
    rw [if_pos h1]
    have h16 := h.2.2.2.2.2.2.2.1
    have h200 := V.2.2.2.2.2.2.2
    rw [h16]
    refine ⟨by decide, fun _ => ⟨by omega, fun c => ?_, fun c => ?_⟩, fun c => absurd c (by decide)⟩
    · simp only [if_neg (show ¬ S.2.2.2.2.2.2.length = 200 by omega)] at hQ
      have e4 : (S.2.2.2.2.2.2.length : Int) + 1 = ((S.2.2.2.2.2.2.length + 1 : Nat) : Int) := by omega
      rw [e4, Int.toNat_natCast]
      refine ⟨by omega, hQ _ (h.text (fun a b q1 q2 => by simp [av_st, q1, q2]) (by simp [av_st]) (fun i c hc => ?_)) ⟨V2.1, V2.2.1, V2.2.2.1, V2.2.2.2.1, V2.2.2.2.2.1, V2.2.2.2.2.2.1, fun c hc => ?_, by show (S.2.2.2.2.2.2 ++ [a.toNat]).length ≤ 200; rw [List.length_append]; simp; omega⟩⟩
      · rcases gq_app1 hc with ⟨g1, g2⟩ | ⟨g1, g2⟩
        · have q1 : ¬ (i = S.2.2.2.2.2.2.length) := by omega
          have := h.2.2.2.2.2.2.2.2 i c g1
          simp [av_st, q1, this]
        · subst g1; subst g2
          simp [av_st]; omega
      · rcases List.mem_append.mp hc with hc | hc
        · exact V2.2.2.2.2.2.2.1 c hc
        · rw [List.mem_singleton.mp hc]
          omega
    · simp only [if_pos (show S.2.2.2.2.2.2.length = 200 by omega)] at hQ
      exact hQ σ h V2
  · simp only [if_neg h1] at hQ
    rw [if_neg h1]
    exact ⟨by decide, fun c => absurd rfl c, fun _ => hQ σ h V2⟩
def sp_wipe (S : q_S) : Int × q_S := ((S.2.2.2.2.2.2.length : Int), q_text S [])
theorem mo_wipe {E : av_E} {σ : av_M} {Q : Option av_V → av_M → Prop} {T : Nat} {S : q_S} (h : mRM σ S) (V : q_V T S) (hQ : ∀ σ', mRM σ' (sp_wipe S).2 → q_V (T + 24) (sp_wipe S).2 → Q (some (av_i (sp_wipe S).1)) σ') : av_C E mSH mX5_wipe [av_r 0] σ Q := by
  apply uX5_wipe
  have V2 := V.mono (Nat.le_add_right T 24)
  rw [h.2.2.2.2.2.2.2.1]
  exact hQ _ (h.text (fun a b q1 q2 => by simp [av_st, q2]) (by simp [av_st]) (fun i q hq => by simp at hq)) ⟨V2.1, V2.2.1, V2.2.2.1, V2.2.2.2.1, V2.2.2.2.2.1, V2.2.2.2.2.2.1, fun c hc => (by cases hc), (Nat.zero_le _)⟩
