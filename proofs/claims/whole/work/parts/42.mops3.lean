noncomputable def dSv (D : gq_D) (k : Nat) : Nat := @Classical.epsilon Nat ⟨0⟩ (fun v => gq_sy D.1 (dk D k) (dAA D k) v)
theorem dSv_eq {D : gq_D} {k v : Nat} (h : gq_sy D.1 (dk D k) (dAA D k) v) : dSv D k = v := gq_sy_uniq (@Classical.epsilon_spec Nat (fun v => gq_sy D.1 (dk D k) (dAA D k) v) ⟨v, h⟩) h
theorem s_verbsByS {E : av_E} {σ : av_M} {Q : Option av_V → av_M → Prop} {D : gq_D} {k : Nat} (h : mD σ D) (hk : k < D.2.1) (hQ : ∀ σ', mS2 σ σ' → dSv D k < 16 → Q (some (av_i (dSv D k : Int))) σ') : av_C E mSH mX5_verbsBy [av_r 0, av_i (k : Int)] σ Q :=
  s_verbsBy h hk (fun v σ' S hv hl => by
    have := hQ σ' S
    rw [dSv_eq hv] at this
    exact this hl)
-- states from states
abbrev q_now (S : q_S) (m : q_Mo) : q_S := (S.1, S.2.1, m, S.2.2.2)
abbrev q_past (S : q_S) (p : List q_Mo) : q_S := (S.1, S.2.1, S.2.2.1, p, S.2.2.2.2)
abbrev q_kept (S : q_S) (p : List q_Mo) : q_S := (S.1, S.2.1, S.2.2.1, S.2.2.2.1, p, S.2.2.2.2.2)
abbrev q_seen (S : q_S) (p : List (Nat × Nat)) : q_S := (S.1, S.2.1, S.2.2.1, S.2.2.2.1, S.2.2.2.2.1, p, S.2.2.2.2.2.2)
abbrev q_text (S : q_S) (p : List Nat) : q_S := (S.1, S.2.1, S.2.2.1, S.2.2.2.1, S.2.2.2.2.1, S.2.2.2.2.2.1, p)
theorem q_Mv.mono {T T' : Nat} {m : q_Mo} (h : q_Mv T m) (e : T ≤ T') : q_Mv T' m := ⟨Nat.le_trans h.1 e, h.2⟩
theorem q_V.mono {T T' : Nat} {S : q_S} (h : q_V T S) (e : T ≤ T') : q_V T' S :=
  ⟨h.1, h.2.1, h.2.2.1.mono e, ⟨fun m hm => (h.2.2.2.1.1 m hm).mono e, h.2.2.2.1.2⟩, ⟨fun m hm => (h.2.2.2.2.1.1 m hm).mono e, h.2.2.2.2.1.2⟩, h.2.2.2.2.2⟩
theorem q_push_V {T : Nat} {p : List q_Mo} {m : q_Mo} (h : (∀ m ∈ p, q_Mv T m) ∧ p.length ≤ 8) (hm : q_Mv T m) : (∀ u ∈ q_push p m, q_Mv T u) ∧ (q_push p m).length ≤ 8 := by
  unfold q_push
  refine ⟨fun u hu => ?_, ?_⟩
  · rcases List.mem_append.mp hu with hu | hu
    · split at hu
      · exact h.1 u (List.mem_of_mem_tail hu)
      · exact h.1 u hu
    · rw [List.mem_singleton.mp hu]
      exact hm
  · rw [List.length_append]
    split
    · rw [List.length_tail]
      simp
      omega
    · simp
      have := h.2
      omega
/-- one more remembered, then another moment -/
theorem q_V.step {T : Nat} {S : q_S} {m : q_Mo} (h : q_V T S) (hm : q_Mv (T + 24) m) : q_V (T + 24) (q_now (q_past S (q_push S.2.2.2.1 S.2.2.1)) m) := by
  have h2 := h.mono (Nat.le_add_right T 24)
  exact ⟨h2.1, h2.2.1, hm, q_push_V h2.2.2.2.1 h2.2.2.1, h2.2.2.2.2⟩
theorem mRM.now {σ σ' : av_M} {S : q_S} {m : q_Mo} (h : mRM σ S) (e : ∀ a b, a ≠ 7 → σ' a b = σ a b) (hm : mMo (σ' 7) 0 m) : mRM σ' (q_now S m) := by
  obtain ⟨⟨a1, a2, a3, a4, a5⟩, ⟨b1, b2⟩, ⟨c1, c2, c3⟩, d, ⟨e1, e2⟩, ⟨f1, f2⟩, ⟨g1, g2⟩, ⟨h1, h2⟩⟩ := h
  refine ⟨⟨?_, ?_, ?_, ?_, ?_⟩, ⟨?_, ?_⟩, ⟨?_, ?_, ?_⟩, hm, ⟨?_, ?_⟩, ⟨?_, ?_⟩, ⟨?_, ?_⟩, ⟨?_, ?_⟩⟩
  · rw [e 0 0 (by omega)]; exact a1
  · intro r hr; rw [e 1 r (by omega)]; exact a2 r hr
  · intro r i hr hi; rw [e 2 _ (by omega)]; exact a3 r i hr hi
  · intro r hr; rw [e 3 r (by omega)]; exact a4 r hr
  · intro r hr; rw [e 4 r (by omega)]; exact a5 r hr
  · rw [e 0 5 (by omega)]; exact b1
  · intro r hr; rw [e 5 r (by omega)]; exact b2 r hr
  · rw [e 6 0 (by omega)]; exact c1
  · rw [e 6 1 (by omega)]; exact c2
  · rw [e 6 2 (by omega)]; exact c3
  · rw [e 0 9 (by omega)]; exact e1
  · intro i m hm; exact (e2 i m hm).congr (fun i _ => e 8 _ (by omega))
  · rw [e 0 11 (by omega)]; exact f1
  · intro i m hm; exact (f2 i m hm).congr (fun i _ => e 9 _ (by omega))
  · rw [e 0 13 (by omega)]; exact g1
  · intro i q hq; rw [e 10 _ (by omega), e 10 _ (by omega)]; exact g2 i q hq
  · rw [e 0 16 (by omega)]; exact h1
  · intro i c hc; rw [e 11 _ (by omega)]; exact h2 i c hc
theorem mRM.past {σ σ' : av_M} {S : q_S} {p : List q_Mo} (h : mRM σ S) (e : mS8 σ σ') (h9 : σ' 0 9 = (p.length : Int)) (hp : ∀ (i : Nat) (m : q_Mo), p[i]? = some m → mMo (σ' 8) (14 * i) m) : mRM σ' (q_past S p) := by
  obtain ⟨⟨a1, a2, a3, a4, a5⟩, ⟨b1, b2⟩, ⟨c1, c2, c3⟩, d, ⟨e1, e2⟩, ⟨f1, f2⟩, ⟨g1, g2⟩, ⟨h1, h2⟩⟩ := h
  refine ⟨⟨?_, ?_, ?_, ?_, ?_⟩, ⟨?_, ?_⟩, ⟨?_, ?_, ?_⟩, ?_, ⟨h9, hp⟩, ⟨?_, ?_⟩, ⟨?_, ?_⟩, ⟨?_, ?_⟩⟩
  · rw [e 0 0 (by omega) (by omega)]; exact a1
  · intro r hr; rw [e 1 r (by omega) (by omega)]; exact a2 r hr
  · intro r i hr hi; rw [e 2 _ (by omega) (by omega)]; exact a3 r i hr hi
  · intro r hr; rw [e 3 r (by omega) (by omega)]; exact a4 r hr
  · intro r hr; rw [e 4 r (by omega) (by omega)]; exact a5 r hr
  · rw [e 0 5 (by omega) (by omega)]; exact b1
  · intro r hr; rw [e 5 r (by omega) (by omega)]; exact b2 r hr
  · rw [e 6 0 (by omega) (by omega)]; exact c1
  · rw [e 6 1 (by omega) (by omega)]; exact c2
  · rw [e 6 2 (by omega) (by omega)]; exact c3
  · exact d.congr (fun i _ => e 7 _ (by omega) (by omega))
  · rw [e 0 11 (by omega) (by omega)]; exact f1
  · intro i m hm; exact (f2 i m hm).congr (fun i _ => e 9 _ (by omega) (by omega))
  · rw [e 0 13 (by omega) (by omega)]; exact g1
  · intro i q hq; rw [e 10 _ (by omega) (by omega), e 10 _ (by omega) (by omega)]; exact g2 i q hq
  · rw [e 0 16 (by omega) (by omega)]; exact h1
  · intro i c hc; rw [e 11 _ (by omega) (by omega)]; exact h2 i c hc
theorem s_rem {E : av_E} {σ : av_M} {Q : Option av_V → av_M → Prop} {T : Nat} {S : q_S} (h : mRM σ S) (V : q_V T S) (hQ : ∀ σ', mRM σ' (q_past S (q_push S.2.2.2.1 S.2.2.1)) → Q none σ') : av_C E mSH mX5_remembers [av_r 0] σ Q :=
  s_remembers h.2.2.2.2.1.1 V.2.2.2.1.2 h.2.2.2.2.1.2 h.2.2.2.1 (fun σ' e h9 hp => hQ σ' (h.past e h9 hp))
theorem av_st_o {σ : av_M} {c k : Nat} {x : Int} : ∀ a b, a ≠ c → av_st σ c k x a b = σ a b := by
  intro a b h
  simp [av_st, h]
-- ask
noncomputable def sp_ask (S : q_S) (k : Int) : Int × q_S :=
  if 0 ≤ k ∧ k < S.1.2.1 then (if (S.2.2.1.2.1 : Int) < S.1.2.2 (3 * k.toNat + 2) then (-2, S) else
    (((S.2.2.1.2.2.1 ||| dSv (q_D S) k.toNat : Nat) : Int), q_now (q_past S (q_push S.2.2.2.1 S.2.2.1)) (S.2.2.1.1 + (S.1.2.2 (3 * k.toNat + 1)).toNat, S.2.2.1.2.1 - (S.1.2.2 (3 * k.toNat + 2)).toNat, S.2.2.1.2.2.1 ||| dSv (q_D S) k.toNat, S.2.2.1.2.2.2.1, S.2.2.1.2.2.2.2)))
  else (-1, S)
theorem mo_ask {E : av_E} {σ : av_M} {Q : Option av_V → av_M → Prop} {T : Nat} {S : q_S} {k : Int} (h : mRM σ S) (V : q_V T S) (hk : rg k) (hQ : ∀ σ', mRM σ' (sp_ask S k).2 → q_V (T + 24) (sp_ask S k).2 → Q (some (av_i (sp_ask S k).1)) σ') : av_C E mSH mX5_ask [av_r 0, av_i k] σ Q := by
  apply uX5_ask
  have hD := h.D V
  unfold sp_ask at hQ
  refine s_isReader hD hk ⟨_, rfl, ?_⟩
  have eK : (q_D S).2.1 = S.1.2.1 := rfl
  rw [eK]
  by_cases h1 : 0 ≤ k ∧ k < S.1.2.1
  · simp only [if_pos h1] at hQ
    rw [if_pos h1]
    obtain ⟨q, rfl⟩ := Int.eq_ofNat_of_zero_le h1.1
    rw [Int.toNat_natCast] at hQ
    have hK5 := V.1.2.2.1
    have hv := V.1.2.2.2 q (by omega)
    have e2 : (3 * (q : Int) + 2).toNat = 3 * q + 2 := by omega
    have e1 : (3 * (q : Int) + 1).toNat = 3 * q + 1 := by omega
    have hm := h.2.2.2.1
    have g1 : σ 7 1 = (S.2.2.1.2.1 : Int) := by have := hm.2.1; simpa using this
    have hgd := V.2.2.1.2.1
    refine ⟨by decide, fun _ => ⟨by omega, ?_⟩, fun c => absurd c (by decide)⟩
    rw [e2, h.2.1.2 _ (by omega), g1]
    refine ⟨by omega, by omega, fun c => ?_, fun c => ?_⟩
    · simp only [if_neg (show ¬ ((S.2.2.1.2.1 : Int) < S.1.2.2 (3 * q + 2)) by omega)] at hQ
      refine s_rem h V (fun σ2 h2 => ⟨rfl, by omega, by omega, ?_⟩)
      have m2 := h2.2.2.2.1
      have k0 : σ2 7 0 = (S.2.2.1.1 : Int) := by have := m2.1; simpa using this
      have k1 : σ2 7 1 = (S.2.2.1.2.1 : Int) := by have := m2.2.1; simpa using this
      have k2 : σ2 7 2 = (S.2.2.1.2.2.1 : Int) := by have := m2.2.2.1; simpa using this
      have k3 : σ2 7 3 = (S.2.2.1.2.2.2.1 : Int) := by have := m2.2.2.2.1; simpa using this
      have r1 : σ2 5 (3 * q + 1) = S.1.2.2 (3 * q + 1) := h2.2.1.2 _ (by show 3 * q + 1 < 3 * S.1.2.1; omega)
      have r2 : σ2 5 (3 * q + 2) = S.1.2.2 (3 * q + 2) := h2.2.1.2 _ (by show 3 * q + 2 < 3 * S.1.2.1; omega)
      rw [e1, r1, r2, k0, k1, k2]
      obtain ⟨n, n1, n2, n3, n4⟩ := m2.2.2.2.2
      have M3 : mMo (av_st (av_st σ2 7 1 ((S.2.2.1.2.1 : Int) - S.1.2.2 (3 * q + 2))) 7 0 ((S.2.2.1.1 : Int) + S.1.2.2 (3 * q + 1)) 7) 0 (S.2.2.1.1 + (S.1.2.2 (3 * q + 1)).toNat, S.2.2.1.2.1 - (S.1.2.2 (3 * q + 2)).toNat, S.2.2.1.2.2.1, S.2.2.1.2.2.2.1, S.2.2.1.2.2.2.2) := by
        refine ⟨?_, ?_, ?_, ?_, n, ?_, n2, fun i hi => ?_, ?_⟩
        · simp [av_st]; omega
        · simp [av_st]; omega
        · simp [av_st, k2]
        · simp [av_st, k3]
        · simp [av_st]; simpa using n1
        · have := n3 i hi
          have q1 : ¬ (0 + (5 + i)) = 0 := by omega
          have q2 : ¬ (0 + (5 + i)) = 1 := by omega
          simp only [av_st, q1, q2, and_false, if_false]
          exact this
        · refine Eq.trans (rw_nu_congr n (fun i hi => ?_)) n4
          have q1 : ¬ (0 + (5 + i)) = 0 := by omega
          have q2 : ¬ (0 + (5 + i)) = 1 := by omega
          simp only [av_st, q1, q2, and_false, if_false]
      have h3 := h2.now (σ' := av_st (av_st σ2 7 1 ((S.2.2.1.2.1 : Int) - S.1.2.2 (3 * q + 2))) 7 0 ((S.2.2.1.1 : Int) + S.1.2.2 (3 * q + 1))) (fun a b ha => by rw [av_st_o a b ha, av_st_o a b ha]) M3
      have V3 := V.step (m := (S.2.2.1.1 + (S.1.2.2 (3 * q + 1)).toNat, S.2.2.1.2.1 - (S.1.2.2 (3 * q + 2)).toNat, S.2.2.1.2.2.1, S.2.2.1.2.2.2.1, S.2.2.1.2.2.2.2)) (M3.val (by have := V.2.2.1.1; show S.2.2.1.1 + _ ≤ _; omega) (by show S.2.2.1.2.1 - _ ≤ 99; omega) V.2.2.1.2.2.1 V.2.2.1.2.2.2.1)
      refine s_verbsByS (D := q_D S) (k := q) (h3.D V3) (by show q < S.1.2.1; omega) (fun σ4 S4 hl => ⟨_, rfl, ?_⟩)
      have hvs := V.2.2.1.2.2.1
      rw [bt_or (by omega) (by omega)]
      have h4 := h3.s2 S4
      have hor : S.2.2.1.2.2.1 ||| dSv (q_D S) q < 16 := Nat.or_lt_two_pow (n := 4) hvs hl
      obtain ⟨p0, p1, p2, p3, n', p4, p5, p6, p7⟩ := h4.2.2.2.1
      have M4 : mMo (av_st σ4 7 2 ((S.2.2.1.2.2.1 ||| dSv (q_D S) q : Nat) : Int) 7) 0 (S.2.2.1.1 + (S.1.2.2 (3 * q + 1)).toNat, S.2.2.1.2.1 - (S.1.2.2 (3 * q + 2)).toNat, S.2.2.1.2.2.1 ||| dSv (q_D S) q, S.2.2.1.2.2.2.1, S.2.2.1.2.2.2.2) := by
        refine ⟨?_, ?_, ?_, ?_, n', ?_, p5, fun i hi => ?_, ?_⟩
        · simp only [av_st]; rw [if_neg (by omega)]; exact p0
        · simp only [av_st]; rw [if_neg (by omega)]; exact p1
        · simp [av_st]
        · simp only [av_st]; rw [if_neg (by omega)]; exact p3
        · simp only [av_st]; rw [if_neg (by omega)]; exact p4
        · simp only [av_st]; rw [if_neg (by omega)]; exact p6 i hi
        · refine Eq.trans (rw_nu_congr n' (fun i hi => ?_)) p7
          simp only [av_st]; rw [if_neg (by omega)]
      have h5 := h4.now (σ' := av_st σ4 7 2 ((S.2.2.1.2.2.1 ||| dSv (q_D S) q : Nat) : Int)) (fun a b ha => av_st_o a b ha) M4
      exact hQ _ h5 (V.step (M4.val (by have := V.2.2.1.1; show S.2.2.1.1 + _ ≤ _; omega) (by show S.2.2.1.2.1 - _ ≤ 99; omega) hor V.2.2.1.2.2.2.1))
    · simp only [if_pos c] at hQ
      exact hQ σ h (V.mono (Nat.le_add_right _ _))
  · simp only [if_neg h1] at hQ
    rw [if_neg h1]
    exact ⟨by decide, fun c => absurd rfl c, fun _ => hQ σ h (V.mono (Nat.le_add_right _ _))⟩
