/-! the model's memory and the state -/
def mMo (f : Nat → Int) (o : Nat) (m : q_Mo) : Prop := f o = (m.1 : Int) ∧ f (o + 1) = (m.2.1 : Int) ∧ f (o + 2) = (m.2.2.1 : Int) ∧ f (o + 3) = (m.2.2.2.1 : Int) ∧ ∃ n : Nat, f (o + 4) = (n : Int) ∧ n ≤ 9 ∧ (∀ i, i < n → 0 ≤ f (o + (5 + i)) ∧ f (o + (5 + i)) ≤ 4) ∧ rw_nu (fun i => f (o + (5 + i))) n = (m.2.2.2.2 : Int)
theorem mMo.congr {f h : Nat → Int} {o o' : Nat} {m : q_Mo} (e : ∀ i, i < 14 → h (o' + i) = f (o + i)) (H : mMo f o m) : mMo h o' m := by
  obtain ⟨h0, h1, h2, h3, n, h4, h5, h6, h7⟩ := H
  refine ⟨(e 0 (by omega)).trans h0, (e 1 (by omega)).trans h1, (e 2 (by omega)).trans h2, (e 3 (by omega)).trans h3, n, (e 4 (by omega)).trans h4, h5, fun i hi => ?_, ?_⟩
  · rw [e (5 + i) (by omega)]
    exact h6 i hi
  · rw [← h7]
    exact rw_nu_congr n (fun i hi => e (5 + i) (by omega))
theorem mMo.val {f : Nat → Int} {o T : Nat} {m : q_Mo} (H : mMo f o m) (h1 : m.1 ≤ T) (h2 : m.2.1 ≤ 99) (h3 : m.2.2.1 < 16) (h4 : m.2.2.2.1 ≤ 1) : q_Mv T m := by
  obtain ⟨-, -, -, -, n, -, g5, g6, g7⟩ := H
  exact ⟨h1, h2, h3, h4, n, _, g5, g6, g7⟩
def mRM (σ : av_M) (S : q_S) : Prop :=
  (σ 0 0 = (S.1.1.1 : Int) ∧ (∀ r, r < S.1.1.1 → σ 1 r = (S.1.1.2.1 r : Int)) ∧ (∀ r i, r < S.1.1.1 → i < S.1.1.2.1 r → σ 2 (3 * r + i) = S.1.1.2.2.1 (3 * r + i)) ∧ (∀ r, r < S.1.1.1 → σ 3 r = S.1.1.2.2.2.1 r) ∧ (∀ r, r < S.1.1.1 → σ 4 r = S.1.1.2.2.2.2 r)) ∧
  (σ 0 5 = (S.1.2.1 : Int) ∧ ∀ j, j < 3 * S.1.2.1 → σ 5 j = S.1.2.2 j) ∧ (σ 6 0 = (S.2.1.1 : Int) ∧ σ 6 1 = (S.2.1.2.1 : Int) ∧ σ 6 2 = (S.2.1.2.2 : Int)) ∧ mMo (σ 7) 0 S.2.2.1 ∧
  (σ 0 9 = (S.2.2.2.1.length : Int) ∧ ∀ (i : Nat) (m : q_Mo), S.2.2.2.1[i]? = some m → mMo (σ 8) (14 * i) m) ∧ (σ 0 11 = (S.2.2.2.2.1.length : Int) ∧ ∀ (i : Nat) (m : q_Mo), S.2.2.2.2.1[i]? = some m → mMo (σ 9) (14 * i) m) ∧
  (σ 0 13 = (S.2.2.2.2.2.1.length : Int) ∧ ∀ (i : Nat) (q : Nat × Nat), S.2.2.2.2.2.1[i]? = some q → σ 10 (2 * i) = (q.1 : Int) ∧ σ 10 (2 * i + 1) = (q.2 : Int)) ∧
  (σ 0 16 = (S.2.2.2.2.2.2.length : Int) ∧ ∀ (i : Nat) (c : Nat), S.2.2.2.2.2.2[i]? = some c → σ 11 i = (c : Int))
theorem mRM.congr {σ σ' : av_M} {S : q_S} (h : mRM σ S) (e : ∀ a b, (1 ≤ a ∧ a ≤ 11) ∨ (a = 0 ∧ b ≤ 16) → σ' a b = σ a b) : mRM σ' S := by
  obtain ⟨⟨a1, a2, a3, a4, a5⟩, ⟨b1, b2⟩, ⟨c1, c2, c3⟩, d, ⟨e1, e2⟩, ⟨f1, f2⟩, ⟨g1, g2⟩, ⟨h1, h2⟩⟩ := h
  refine ⟨⟨?_, ?_, ?_, ?_, ?_⟩, ⟨?_, ?_⟩, ⟨?_, ?_, ?_⟩, ?_, ⟨?_, ?_⟩, ⟨?_, ?_⟩, ⟨?_, ?_⟩, ⟨?_, ?_⟩⟩
  · rw [e 0 0 (by omega)]; exact a1
  · intro r hr; rw [e 1 r (by omega)]; exact a2 r hr
  · intro r i hr hi; rw [e 2 _ (by omega)]; exact a3 r i hr hi
  · intro r hr; rw [e 3 r (by omega)]; exact a4 r hr
  · intro r hr; rw [e 4 r (by omega)]; exact a5 r hr
  · rw [e 0 5 (by omega)]; exact b1
  · intro r hr; rw [e 5 r (by omega)]; exact b2 r hr
  · rw [e 6 0 (by omega)]; exact c1
  · rw [e 6 1 (by omega)]; exact c2
  · rw [e 6 2 (by omega)]; exact c3
  · exact d.congr (fun i _ => e 7 _ (by omega))
  · rw [e 0 9 (by omega)]; exact e1
  · intro i m hm; exact (e2 i m hm).congr (fun i _ => e 8 _ (by omega))
  · rw [e 0 11 (by omega)]; exact f1
  · intro i m hm; exact (f2 i m hm).congr (fun i _ => e 9 _ (by omega))
  · rw [e 0 13 (by omega)]; exact g1
  · intro i q hq; rw [e 10 _ (by omega), e 10 _ (by omega)]; exact g2 i q hq
  · rw [e 0 16 (by omega)]; exact h1
  · intro i c hc; rw [e 11 _ (by omega)]; exact h2 i c hc
theorem mRM.s2 {σ σ' : av_M} {S : q_S} (h : mRM σ S) (e : mS2 σ σ') : mRM σ' S := h.congr (fun a b q => e a b (by omega) (by omega) (by omega) (by omega))
theorem mRM.D {σ : av_M} {S : q_S} {T : Nat} (h : mRM σ S) (V : q_V T S) : mD σ (q_D S) := by
  obtain ⟨⟨a1, a2, a3, a4, a5⟩, ⟨b1, b2⟩, -, ⟨d0, d1, d2, d3, n, d4, d5, d6, d7⟩, -⟩ := h
  obtain ⟨e1, e2⟩ := rw_dec n _ _ 9 d6 d7 d5
  refine ⟨q_DV V, ⟨V.1.1, a1, a2, a3, a4, a5⟩, b1, b2, ?_, fun i hi => ?_⟩
  · show σ 7 4 = ((rw_cn 9 S.2.2.1.2.2.2.2 : Nat) : Int)
    rw [e1]
    exact d4
  · have hi' : i < n := by have : i < rw_cn 9 S.2.2.1.2.2.2.2 := hi; omega
    show σ 7 (5 + i) = rw_d S.2.2.1.2.2.2.2 (rw_cn 9 S.2.2.1.2.2.2.2) i
    rw [e1, e2 i hi', Nat.zero_add]
theorem mRM.sn {σ : av_M} {S : q_S} {T : Nat} (h : mRM σ S) (V : q_V T S) : mSn σ (q_D S) S.2.2.2.2.2.1.length (fun i => (S.2.2.2.2.2.1.getD i (0, 0)).1) (fun i => ((S.2.2.2.2.2.1.getD i (0, 0)).2 : Int)) := by
  obtain ⟨-, -, -, -, -, -, ⟨g1, g2⟩, -⟩ := h
  obtain ⟨-, -, -, -, -, ⟨v1, v2⟩, -⟩ := V
  refine ⟨g1, v2, fun i hi => ?_⟩
  have hq : S.2.2.2.2.2.1[i]? = some (S.2.2.2.2.2.1[i]) := List.getElem?_eq_getElem hi
  have hd : S.2.2.2.2.2.1.getD i (0, 0) = S.2.2.2.2.2.1[i] := by rw [List.getD_eq_getElem?_getD, hq]; rfl
  have hv := v1 _ (List.getElem_mem hi)
  obtain ⟨q1, q2⟩ := g2 i _ hq
  refine ⟨⟨?_, ?_⟩, ?_, ?_, ?_⟩
  · show σ 10 (2 * i) = (((S.2.2.2.2.2.1.getD i (0, 0)).1 : Nat) : Int)
    rw [hd]; exact q1
  · show (S.2.2.2.2.2.1.getD i (0, 0)).1 < S.1.2.1
    rw [hd]; exact hv.1
  · show σ 10 (2 * i + 1) = (((S.2.2.2.2.2.1.getD i (0, 0)).2 : Nat) : Int)
    rw [hd]; exact q2
  · show 0 ≤ (((S.2.2.2.2.2.1.getD i (0, 0)).2 : Nat) : Int)
    omega
  · show (((S.2.2.2.2.2.1.getD i (0, 0)).2 : Nat) : Int) ≤ 600
    rw [hd]; omega
theorem s_deepIn {E : av_E} {σ : av_M} {Q : Option av_V → av_M → Prop} {r : Nat × Nat × Nat} {h : Nat} (V : q_RV r) (h0 : σ 6 0 = (r.1 : Int)) (h1 : σ 6 1 = (r.2.1 : Int)) (h2 : σ 6 2 = (r.2.2 : Int)) (hh : h ≤ 100000) (hQ : Q (some (av_i (q_dep r h : Nat))) σ) : av_C E mSH mX5_deepIn [av_r 0, av_i (h : Int)] σ Q := by
  apply uX5_deepIn
  obtain ⟨⟨v1, v2⟩, v3, v4, v5⟩ := V
  rw [h0, h1, h2]
  unfold q_dep at hQ
  have hm : ∀ x : Nat, x ≤ 100000 → r.2.2 * x ≤ 2000000 := fun x hx => Nat.le_trans (Nat.mul_le_mul v5 hx) (by omega)
  by_cases c : h ≤ r.2.1
  · rw [if_pos c] at hQ
    exact ⟨by omega, by omega, fun c => by omega, fun _ => ⟨by omega, fun _ => hQ, fun c => by omega⟩⟩
  · rw [if_neg c] at hQ
    have e : (r.1 : Int) - (r.2.2 : Int) * ((h : Int) - (r.2.1 : Int)) = (r.1 : Int) - ((r.2.2 * (h - r.2.1) : Nat) : Int) := by
      rw [Int.natCast_mul, show ((h - r.2.1 : Nat) : Int) = (h : Int) - (r.2.1 : Int) by omega]
    have := hm (h - r.2.1) (by omega)
    rw [e]
    refine ⟨by omega, by omega, fun _ => ⟨by omega, fun c2 => ?_, fun c2 => ?_⟩, fun c => by omega⟩
    · rw [show ((r.1 - r.2.2 * (h - r.2.1) : Nat) : Int) = (r.1 : Int) - ((r.2.2 * (h - r.2.1) : Nat) : Int) by omega] at hQ
      exact hQ
    · rw [show r.1 - r.2.2 * (h - r.2.1) = 0 by omega] at hQ
      exact hQ
theorem q_dep_le {r : Nat × Nat × Nat} (V : q_RV r) (h : Nat) : q_dep r h ≤ 60 := by
  unfold q_dep
  have := V.1.2
  split <;> omega
theorem q_fall_le {r : Nat × Nat × Nat} (V : q_RV r) : r.2.1 ≤ q_fall r ∧ q_fall r ≤ 200 := by
  unfold q_fall
  obtain ⟨⟨v1, v2⟩, v3, v4, v5⟩ := V
  have h1 : (r.1 + r.2.2 - 3) / r.2.2 ≤ r.1 + r.2.2 - 3 := Nat.div_le_self _ _
  obtain ⟨x, hx⟩ : ∃ x, (r.1 + r.2.2 - 3) / r.2.2 = x := ⟨_, rfl⟩
  rw [hx] at h1 ⊢
  omega
theorem s_fall {E : av_E} {σ : av_M} {Q : Option av_V → av_M → Prop} {r : Nat × Nat × Nat} (V : q_RV r) (h0 : σ 6 0 = (r.1 : Int)) (h1 : σ 6 1 = (r.2.1 : Int)) (h2 : σ 6 2 = (r.2.2 : Int)) (hQ : Q (some (av_i (q_fall r : Nat))) σ) : av_C E mSH mX5_fall [av_r 0] σ Q := by
  apply uX5_fall
  rw [h1]
  have hf := q_fall_le V
  have key : ∀ (t h : Nat), q_fall r - h = t → h ≤ q_fall r → av_W E mSH mX5_fall 7 [some (av_r 0), some (av_i (h : Int))] [] σ Q := by
    intro t
    induction t with
    | zero =>
      intro h ht hh
      apply uX5_fall_7
      have e : h = q_fall r := by omega
      have hd := (q_dep_fall V (h := h)).mpr (by omega)
      refine s_deepIn V h0 h1 h2 (by omega) ⟨_, rfl, by omega, fun _ => ?_, fun c => by omega⟩
      rw [e]
      exact hQ
    | succ t ih =>
      intro h ht hh
      apply uX5_fall_7
      have hd : ¬ q_dep r h ≤ 2 := fun z => by have := (q_dep_fall V).mp z; omega
      have hl := q_dep_le V h
      have e : (h : Int) + 1 = ((h + 1 : Nat) : Int) := by omega
      refine s_deepIn V h0 h1 h2 (by omega) ⟨_, rfl, by omega, fun c => by omega, fun _ => ?_⟩
      rw [e]
      exact ih (h + 1) (by omega) (by omega)
  exact key _ r.2.1 rfl hf.1
theorem s_isFallen {E : av_E} {σ : av_M} {Q : Option av_V → av_M → Prop} {r : Nat × Nat × Nat} {hr sh : Nat} (V : q_RV r) (h0 : σ 6 0 = (r.1 : Int)) (h1 : σ 6 1 = (r.2.1 : Int)) (h2 : σ 6 2 = (r.2.2 : Int)) (h3 : σ 7 0 = (hr : Int)) (h4 : σ 7 3 = (sh : Int)) (hh : hr ≤ 100000) (hs : sh ≤ 1) (hQ : Q (some (av_i (if sh = 0 ∧ q_fall r ≤ hr then 1 else 0))) σ) : av_C E mSH mX5_isFallen [av_r 0] σ Q := by
  apply uX5_isFallen
  have hf := q_fall_le V
  rw [h4, h3]
  refine ⟨by omega, fun c => ?_, fun c => s_fall V h0 h1 h2 ⟨_, rfl, by omega, by omega, fun c2 => ?_, fun c2 => ?_⟩⟩
  · rwa [if_neg (by omega)] at hQ
  · rwa [if_neg (by omega)] at hQ
  · rwa [if_pos (by omega)] at hQ
-- what is remembered
def mSh (σ : av_M) (j : Nat) : av_M := fun a b => if a = 8 ∧ b < j then σ 8 (b + 14) else σ a b
theorem mSh_0 (σ : av_M) : mSh σ 0 = σ := by
  funext a b
  unfold mSh
  rw [if_neg (by omega)]
theorem mSh_step {σ : av_M} {j : Nat} : av_st (mSh σ j) 8 j (mSh σ j 8 (j + 14)) = mSh σ (j + 1) := by
  have e1 : mSh σ j 8 (j + 14) = σ 8 (j + 14) := by
    unfold mSh
    rw [if_neg (by omega)]
  rw [e1]
  funext a b
  unfold av_st mSh
  by_cases h : a = 8 ∧ b = j
  · rw [if_pos h, if_pos (by omega), h.2]
  · rw [if_neg h]
    by_cases h2 : a = 8 ∧ b < j
    · rw [if_pos h2, if_pos (by omega)]
    · rw [if_neg h2, if_neg (by omega)]
/-- all but what is remembered stays -/
def mS8 (σ0 σ : av_M) : Prop := ∀ a b, a ≠ 8 → ¬ (a = 0 ∧ b = 9) → σ a b = σ0 a b
theorem s_remembers {E : av_E} {σ : av_M} {Q : Option av_V → av_M → Prop} {past : List q_Mo} {now : q_Mo} (h9 : σ 0 9 = (past.length : Int)) (hl : past.length ≤ 8) (hp : ∀ (i : Nat) (m : q_Mo), past[i]? = some m → mMo (σ 8) (14 * i) m) (hn : mMo (σ 7) 0 now)
    (hQ : ∀ σ', mS8 σ σ' → σ' 0 9 = ((q_push past now).length : Int) → (∀ (i : Nat) (m : q_Mo), (q_push past now)[i]? = some m → mMo (σ' 8) (14 * i) m) → Q none σ') : av_C E mSH mX5_remembers [av_r 0] σ Q := by
  apply uX5_remembers
  rw [h9]
  refine ⟨by omega, fun c => ?_, fun c => ?_⟩
  · have hl8 : past.length ≠ 8 := by omega
    have e1 : 14 * (past.length : Int) = ((14 * past.length : Nat) : Int) := by omega
    rw [e1]
    refine s_copies (n0 := 112) (n1 := 14) (d := 14 * past.length) (s := 0) (n := 14) rfl rfl (by omega) (by omega) (by omega) (by omega) (by omega) ⟨rfl, ?_⟩
    have e2 : q_push past now = past ++ [now] := by unfold q_push; rw [if_neg hl8]
    refine hQ _ ?_ ?_ ?_
    · intro a b h1 h2
      simp [av_st, av_cp, h1, h2]
    · rw [e2]
      simp [av_st, av_cp, h9]
    · rw [e2]
      intro i m hm
      rw [List.getElem?_append] at hm
      split at hm
      · rename_i hi
        refine (hp i m hm).congr (fun u hu => ?_)
        have q1 : ¬ (14 * past.length ≤ 14 * i + u ∧ 14 * i + u < 14 * past.length + 14) := by omega
        simp [av_st, av_cp, q1]
      · rename_i hi
        have hi0 : i = past.length := by
          cases hx : i - past.length with
          | zero => omega
          | succ z => rw [hx] at hm; simp at hm
        subst hi0
        rw [Nat.sub_self] at hm
        simp at hm
        subst hm
        refine hn.congr (fun u hu => ?_)
        have q1 : (14 * past.length ≤ 14 * past.length + u ∧ 14 * past.length + u < 14 * past.length + 14) := by omega
        simp [av_st, av_cp, hu]
  · have hl8 : past.length = 8 := by omega
    have key : ∀ (t j : Nat), 98 - j = t → j ≤ 98 → av_W E mSH mX5_remembers 11 [some (av_r 0), some (av_i (j : Int))] [] (mSh σ j) Q := by
      intro t
      induction t with
      | zero =>
        intro j ht hj
        have hj98 : j = 98 := by omega
        subst hj98
        apply uX5_remembers_11
        have e9 : mSh σ 98 0 9 = (8 : Int) := by
          unfold mSh
          rw [if_neg (by omega), h9, hl8]
          rfl
        rw [e9]
        refine ⟨by omega, fun _ => ?_, fun c => by omega⟩
        refine s_copies (n0 := 112) (n1 := 14) (d := 98) (s := 0) (n := 14) rfl rfl (by omega) (by omega) (by omega) (by omega) (by omega) ⟨rfl, ?_⟩
        have e2 : q_push past now = past.tail ++ [now] := by unfold q_push; rw [if_pos hl8]
        refine hQ _ ?_ ?_ ?_
        · intro a b h1 h2
          simp [av_st, av_cp, mSh, h1, h2]
        · rw [e2]
          simp [av_st, av_cp, hl8]
        · rw [e2]
          intro i m hm
          have ht7 : past.tail.length = 7 := by rw [List.length_tail, hl8]
          rw [List.getElem?_append] at hm
          split at hm
          · rename_i hi
            rw [List.getElem?_tail] at hm
            refine (hp (i + 1) m hm).congr (fun u hu => ?_)
            have q1 : ¬ (98 ≤ 14 * i + u ∧ 14 * i + u < 112) := by omega
            have q2 : 14 * i + u < 98 := by omega
            have q3 : 14 * i + u + 14 = 14 * (i + 1) + u := by omega
            simp [av_st, av_cp, mSh, q1, q2, q3]
          · rename_i hi
            have hi0 : i = 7 := by
              cases hx : i - past.tail.length with
              | zero => omega
              | succ z => rw [hx] at hm; simp at hm
            subst hi0
            rw [ht7] at hm
            simp at hm
            subst hm
            refine hn.congr (fun u hu => ?_)
            have q1 : (98 ≤ 98 + u ∧ 98 + u < 112) := by omega
            simp [av_st, av_cp, mSh, q1]
      | succ t ih =>
        intro j ht hj
        apply uX5_remembers_11
        have e1 : ((j : Int) + 14).toNat = j + 14 := by omega
        have e3 : (j : Int) + 1 = ((j + 1 : Nat) : Int) := by omega
        rw [e1, e3, Int.toNat_natCast, mSh_step]
        exact ⟨by omega, fun c => by omega, fun _ => ⟨by omega, by omega, ih (j + 1) (by omega) (by omega)⟩⟩
    have := key _ 0 rfl (by omega)
    rw [mSh_0] at this
    exact this
