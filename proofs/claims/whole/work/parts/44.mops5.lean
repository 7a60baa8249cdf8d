-- root, count
def sp_root (S : q_S) (r w : Int) : Int := if (0 ≤ r ∧ r < S.1.1.1) ∧ 0 ≤ w ∧ w ≤ 2 then (if w = 0 then rw_nu (fun i => S.1.1.2.2.1 (3 * r.toNat + i)) (S.1.1.2.1 r.toNat) else if w = 1 then S.1.1.2.2.2.1 r.toNat else S.1.1.2.2.2.2 r.toNat) else -1
theorem mo_root {E : av_E} {σ : av_M} {Q : Option av_V → av_M → Prop} {T : Nat} {S : q_S} {r w : Int} (h : mRM σ S) (V : q_V T S) (hr : rg r) (hw : rg w) (hQ : Q (some (av_i (sp_root S r w))) σ) : av_C E mSH mX5_root [av_r 0, av_i r, av_i w] σ Q := by
  apply uX5_root
  unfold sp_root at hQ
  have h8 := V.1.1.1
  obtain ⟨a1, a2, a3, a4, a5⟩ := h.1
  rw [a1]
  refine s_in hr (by decide) (by omega) ⟨_, rfl, ?_⟩
  by_cases h1 : 0 ≤ r ∧ r < S.1.1.1
  · rw [if_pos (by omega)]
    obtain ⟨q, rfl⟩ := Int.eq_ofNat_of_zero_le h1.1
    rw [Int.toNat_natCast] at hQ
    refine ⟨by decide, fun _ => ⟨hw, fun c => ?_, fun c => ?_, fun c => ?_, fun c => ?_⟩, fun c => absurd c (by decide)⟩
    · rw [if_pos ⟨h1, by omega⟩, if_pos c] at hQ
      have hv := V.1.1.2.1 q (by omega)
      have key : ∀ (t i : Nat), S.1.1.2.1 q - i = t → i ≤ S.1.1.2.1 q → av_W E mSH mX5_root 49 [some (av_r 0), some (av_i (q : Int)), some (av_i w), some (av_i (rw_nu (fun i => S.1.1.2.2.1 (3 * q + i)) i)), some (av_i (i : Int))] [] σ Q := by
        intro t
        induction t with
        | zero =>
          intro i ht hi
          apply uX5_root_49
          have : i = S.1.1.2.1 q := by omega
          subst this
          rw [Int.toNat_natCast, a2 q (by omega)]
          exact ⟨by omega, by omega, by omega, fun _ => hQ, fun c => by omega⟩
        | succ t ih =>
          intro i ht hi
          apply uX5_root_49
          have e1 : (3 * (q : Int) + (i : Int)).toNat = 3 * q + i := by omega
          have e2 : (i : Int) + 1 = ((i + 1 : Nat) : Int) := by omega
          rw [Int.toNat_natCast, a2 q (by omega), e1, a3 q i (by omega) (by omega), e2]
          exact ⟨by omega, by omega, by omega, fun c => by omega, fun _ => ⟨by omega, ih (i + 1) (by omega) (by omega)⟩⟩
      exact key _ 0 rfl (Nat.zero_le _)
    · rw [if_pos ⟨h1, by omega⟩, if_neg (by omega), if_pos c] at hQ
      rw [Int.toNat_natCast, a4 q (by omega)]
      exact ⟨by omega, hQ⟩
    · rw [if_pos ⟨h1, by omega⟩, if_neg (by omega), if_neg (by omega)] at hQ
      rw [Int.toNat_natCast, a5 q (by omega)]
      exact ⟨by omega, hQ⟩
    · rw [if_neg (by omega)] at hQ
      exact hQ
  · rw [if_neg (fun z => h1 z.1)] at hQ
    rw [if_neg (by omega)]
    exact ⟨by decide, fun c => absurd rfl c, fun _ => hQ⟩
def sp_count (S : q_S) (w : Int) : Int :=
  if w = 0 then (S.1.1.1 : Int) else if w = 1 then (S.1.2.1 : Int) else if w = 2 then (rw_cn 9 S.2.2.1.2.2.2.2 : Int) else if w = 3 then (S.2.2.1.1 : Int) else if w = 4 then (S.2.2.1.2.1 : Int) else if w = 5 then (q_dep S.2.1 S.2.2.1.1 : Int) else if w = 6 then (q_fall S.2.1 : Int)
  else if w = 7 then (if S.2.2.1.2.2.2.1 = 1 then 1 else if q_fall S.2.1 ≤ S.2.2.1.1 then 2 else 0) else if w = 8 then (S.2.2.1.2.2.1 : Int) else if w = 9 then (S.2.2.2.2.2.1.length : Int) else if w = 10 then (S.2.2.2.1.length : Int) else if w = 11 then (S.2.2.2.2.1.length : Int) else if w = 12 then (S.2.2.2.2.2.2.length : Int) else -1
theorem mo_count {E : av_E} {σ : av_M} {Q : Option av_V → av_M → Prop} {T : Nat} {S : q_S} {w : Int} (hT : T ≤ 50000) (h : mRM σ S) (V : q_V T S) (hw : rg w) (hQ : Q (some (av_i (sp_count S w))) σ) : av_C E mSH mX5_count [av_r 0, av_i w] σ Q := by
  apply uX5_count
  unfold sp_count at hQ
  obtain ⟨v0, v1, v2, v3, v4⟩ := V.2.2.1
  obtain ⟨m0, m1, m2, m3, m4⟩ := h.2.2.2.1
  have n4 := h.2.2.2.1.n.1
  rw [Nat.zero_add] at m1 m2 m3 n4
  refine ⟨hw, fun c => ?_, fun c => ?_, fun c => ?_, fun c => ?_, fun c => ?_, fun c => ?_, fun c => ?_, fun c => ?_, fun c => ?_, fun c => ?_, fun c => ?_, fun c => ?_, fun c => ?_, fun c => ?_⟩
  · subst c; rw [h.1.1]; simpa using hQ
  · subst c; rw [h.2.1.1]; simpa using hQ
  · subst c; rw [n4]; simpa using hQ
  · subst c; rw [m0]; simpa using hQ
  · subst c; rw [m1]; simpa using hQ
  · subst c; rw [m0]; exact s_deepIn V.2.1 h.2.2.1.1 h.2.2.1.2.1 h.2.2.1.2.2 (by omega) ⟨_, rfl, by simpa using hQ⟩
  · subst c; exact s_fall V.2.1 h.2.2.1.1 h.2.2.1.2.1 h.2.2.1.2.2 ⟨_, rfl, by simpa using hQ⟩
  · subst c
    simp only [show ¬ ((7 : Int) = 0) by decide, show ¬ ((7 : Int) = 1) by decide, show ¬ ((7 : Int) = 2) by decide, show ¬ ((7 : Int) = 3) by decide, show ¬ ((7 : Int) = 4) by decide, show ¬ ((7 : Int) = 5) by decide, show ¬ ((7 : Int) = 6) by decide, if_false, if_true] at hQ
    rw [m3]
    refine ⟨by omega, fun c => ?_, fun c => ?_⟩
    · rw [if_neg (show ¬ S.2.2.1.2.2.2.1 = 1 by omega)] at hQ
      refine s_isFallen V.2.1 h.2.2.1.1 h.2.2.1.2.1 h.2.2.1.2.2 m0 m3 (by omega) v3 ⟨_, rfl, ?_⟩
      by_cases hf : q_fall S.2.1 ≤ S.2.2.1.1
      · rw [if_pos hf] at hQ
        rw [if_pos ⟨by omega, hf⟩]
        exact ⟨by decide, fun c => absurd c (by decide), fun _ => hQ⟩
      · rw [if_neg hf] at hQ
        rw [if_neg (fun z => hf z.2)]
        exact ⟨by decide, fun _ => hQ, fun c => absurd rfl c⟩
    · rw [if_pos (show S.2.2.1.2.2.2.1 = 1 by omega)] at hQ
      exact hQ
  · subst c; rw [m2]; simpa using hQ
  · subst c; rw [h.2.2.2.2.2.2.1.1]; simpa using hQ
  · subst c; rw [h.2.2.2.2.1.1]; simpa using hQ
  · subst c; rw [h.2.2.2.2.2.1.1]; simpa using hQ
  · subst c; rw [h.2.2.2.2.2.2.2.1]; simpa using hQ
  · rw [if_neg (by omega), if_neg (by omega), if_neg (by omega), if_neg (by omega), if_neg (by omega), if_neg (by omega), if_neg (by omega), if_neg (by omega), if_neg (by omega), if_neg (by omega), if_neg (by omega), if_neg (by omega), if_neg (by omega)] at hQ
    exact hQ
-- until
noncomputable def sp_until (S : q_S) (k : Int) : Int := if 0 ≤ k ∧ k < S.1.2.1 then
  (if (dSv (q_D S) k.toNat).testBit 1 = true ∧ (S.2.2.1.1 : Int) ≤ (q_fall S.2.1 : Int) - S.1.2.2 (3 * k.toNat + 1) - 1 then (q_fall S.2.1 : Int) - S.1.2.2 (3 * k.toNat + 1) - 1 else -4) else -1
theorem mo_until {E : av_E} {σ : av_M} {Q : Option av_V → av_M → Prop} {T : Nat} {S : q_S} {k : Int} (hT : T ≤ 50000) (h : mRM σ S) (V : q_V T S) (hk : rg k) (hQ : ∀ σ', mS2 σ σ' → Q (some (av_i (sp_until S k))) σ') : av_C E mSH mX5_until [av_r 0, av_i k] σ Q := by
  apply uX5_until
  unfold sp_until at hQ
  refine s_isReader (h.D V) hk ⟨_, rfl, ?_⟩
  have eK : (q_D S).2.1 = S.1.2.1 := rfl
  rw [eK]
  by_cases h1 : 0 ≤ k ∧ k < S.1.2.1
  · rw [if_pos h1] at hQ ⊢
    obtain ⟨q, rfl⟩ := Int.eq_ofNat_of_zero_le h1.1
    rw [Int.toNat_natCast] at hQ
    have hK5 := V.1.2.2.1
    have hv := V.1.2.2.2 q (by omega)
    have hf := q_fall_le V.2.1
    have hh := V.2.2.1.1
    have e1 : (3 * (q : Int) + 1).toNat = 3 * q + 1 := by omega
    refine ⟨by decide, fun _ => s_fall V.2.1 h.2.2.1.1 h.2.2.1.2.1 h.2.2.1.2.2 ⟨_, rfl, by omega, ?_⟩, fun c => absurd c (by decide)⟩
    rw [e1, h.2.1.2 _ (by omega)]
    refine s_verbsByS (D := q_D S) (k := q) (h.D V) (by show q < S.1.2.1; omega) (fun σ4 S4 hl => ⟨_, rfl, s_has (k := 1) (by omega) (by omega) ⟨_, rfl, ?_⟩⟩)
    have g0 : σ4 7 0 = (S.2.2.1.1 : Int) := (h.s2 S4).2.2.2.1.1
    rw [g0]
    by_cases hb : (dSv (q_D S) q).testBit 1 = true
    · rw [if_pos hb]
      refine ⟨by decide, fun c => absurd c (by decide), fun _ => ⟨by omega, by omega, fun c => ?_, fun c => ?_⟩⟩
      · rw [if_neg (fun z => by have := z.2; omega)] at hQ
        exact hQ σ4 S4
      · rw [if_pos ⟨hb, c⟩] at hQ
        exact hQ σ4 S4
    · rw [if_neg hb]
      rw [if_neg (fun z => hb z.1)] at hQ
      exact ⟨by decide, fun _ => hQ σ4 S4, fun c => absurd rfl c⟩
  · rw [if_neg h1] at hQ ⊢
    exact ⟨by decide, fun c => absurd rfl c, fun _ => hQ σ (mS2.rf σ)⟩
-- enough
def en_g (S : q_S) (set : Nat) : Nat → Nat
  | 0 => 0
  | k + 1 => en_g S set k + (if set.testBit k = true then (S.1.2.2 (3 * k + 2)).toNat else 0)
def en_h (S : q_S) (set : Nat) : Nat → Nat
  | 0 => 0
  | k + 1 => en_h S set k + (if set.testBit k = true then (S.1.2.2 (3 * k + 1)).toNat else 0)
noncomputable def en_v (S : q_S) (set : Nat) : Nat → Nat
  | 0 => S.2.2.1.2.2.1
  | k + 1 => if set.testBit k = true then en_v S set k ||| dSv (q_D S) k else en_v S set k
noncomputable def en_ok (S : q_S) (v : Nat) (set : Nat) : Bool := decide (en_g S set S.1.2.1 ≤ S.2.2.1.2.1) && decide (S.2.2.1.1 + en_h S set S.1.2.1 < q_fall S.2.1) && decide (en_v S set S.1.2.1 &&& v = v)
/-- the best of the first sets, or -4 -/
noncomputable def en_b (S : q_S) (v : Nat) : Nat → Int
  | 0 => -4
  | m + 1 => if en_ok S v m = true ∧ (en_b S v m < 0 ∨ en_g S m S.1.2.1 < en_g S (en_b S v m).toNat S.1.2.1 ∨ (en_g S m S.1.2.1 = en_g S (en_b S v m).toNat S.1.2.1 ∧ en_h S m S.1.2.1 < en_h S (en_b S v m).toNat S.1.2.1)) then (m : Int) else en_b S v m
noncomputable def sp_enough (S : q_S) (v w : Int) : Int := if (2 ≤ v ∧ v ≤ 14) ∧ v % 2 = 0 ∧ 0 ≤ w ∧ w ≤ 2 then
  (if en_b S v.toNat (2 ^ S.1.2.1) < 0 ∨ w = 0 then en_b S v.toNat (2 ^ S.1.2.1) else if w = 1 then (en_g S (en_b S v.toNat (2 ^ S.1.2.1)).toNat S.1.2.1 : Int) else (en_h S (en_b S v.toNat (2 ^ S.1.2.1)).toNat S.1.2.1 : Int)) else -1
theorem en_g_le {S : q_S} (V : q_LV S.1) (set : Nat) : ∀ k, k ≤ S.1.2.1 → en_g S set k ≤ 60 * k
  | 0, _ => Nat.le_refl _
  | k + 1, h => by
    have := en_g_le V set k (by omega)
    have := V.2.2.2 k (by omega)
    rw [en_g]
    split <;> omega
theorem en_h_le {S : q_S} (V : q_LV S.1) (set : Nat) : ∀ k, k ≤ S.1.2.1 → en_h S set k ≤ 12 * k
  | 0, _ => Nat.le_refl _
  | k + 1, h => by
    have := en_h_le V set k (by omega)
    have := V.2.2.2 k (by omega)
    rw [en_h]
    split <;> omega
theorem en_b_lt {S : q_S} {v : Nat} : ∀ m, -4 ≤ en_b S v m ∧ en_b S v m < m ∧ (en_b S v m < 0 → en_b S v m = -4)
  | 0 => ⟨by show (-4 : Int) ≤ -4; omega, by show (-4 : Int) < 0; omega, fun _ => rfl⟩
  | m + 1 => by
    have := en_b_lt (S := S) (v := v) m
    rw [en_b]
    split
    · exact ⟨by omega, by omega, fun _ => by omega⟩
    · exact ⟨by omega, by omega, this.2.2⟩
theorem mo_enough {E : av_E} {σ : av_M} {Q : Option av_V → av_M → Prop} {T : Nat} {S : q_S} {v w : Int} (hT : T ≤ 50000) (h : mRM σ S) (V : q_V T S) (hv : rg v) (hw : rg w) (hQ : ∀ σ', mS2 σ σ' → Q (some (av_i (sp_enough S v w))) σ') : av_C E mSH mX5_enough [av_r 0, av_i v, av_i w] σ Q := by
  apply uX5_enough
  unfold sp_enough at hQ
  refine s_in hv (by decide) (by decide) ⟨_, rfl, ?_⟩
  by_cases h1 : 2 ≤ v ∧ v ≤ 14
  · rw [if_pos h1]
    refine ⟨by decide, fun c => absurd c (by decide), fun _ => ⟨by omega, by omega, fun c => ?_, fun c => ?_⟩⟩
    · rw [if_neg (fun z => by have := z.2.1; omega)] at hQ
      exact hQ σ (mS2.rf σ)
    · refine s_in hw (by decide) (by decide) ⟨_, rfl, ?_⟩
      by_cases h2 : 0 ≤ w ∧ w ≤ 2
      · rw [if_pos ⟨h1, by omega, h2⟩] at hQ
        rw [if_pos h2]
        obtain ⟨u, rfl⟩ := Int.eq_ofNat_of_zero_le (show 0 ≤ v by omega)
        rw [Int.toNat_natCast] at hQ
        have hK5 := V.1.2.2.1
        have hK0 := h.2.1.1
        have hf := q_fall_le V.2.1
        have h2K : 2 ^ S.1.2.1 ≤ 32 := Nat.le_trans (Nat.pow_le_pow_right (by omega) hK5) (by decide)
        have h2K0 : 0 < 2 ^ S.1.2.1 := Nat.two_pow_pos _
        have esh : i_shl 1 (S.1.2.1 : Int) = ((2 ^ S.1.2.1 : Nat) : Int) := by
          have := bt_shl (a := 1) (k := S.1.2.1) (by omega) (by omega)
          rw [Nat.one_mul] at this
          exact this
        obtain ⟨vh, vg, vv, vs, vn⟩ := V.2.2.1
        refine ⟨by decide, fun _ => ?_, fun c => absurd c (by decide)⟩
        have outer : ∀ (t m : Nat) (x4 x5 : Int) (τ : av_M), 2 ^ S.1.2.1 - m = t → m ≤ 2 ^ S.1.2.1 → mS2 σ τ → (0 ≤ en_b S u m → x4 = (en_g S (en_b S u m).toNat S.1.2.1 : Int) ∧ x5 = (en_h S (en_b S u m).toNat S.1.2.1 : Int)) →
            av_W E mSH mX5_enough 40 [some (av_r 0), some (av_i (u : Int)), some (av_i w), some (av_i (en_b S u m)), some (av_i x4), some (av_i x5), some (av_i (m : Int)), none, none, none, none] [] τ Q := by
          intro t
          induction t with
          | zero =>
            intro m x4 x5 τ ht hm S' hx
            have hmm : m = 2 ^ S.1.2.1 := by omega
            have hb := en_b_lt (S := S) (v := u) m
            apply uX5_enough_40
            rw [(h.s2 S').2.1.1, esh]
            rw [← hmm] at hQ
            refine ⟨by omega, by omega, fun _ => ⟨by omega, fun c => ?_, fun c => ⟨hw, fun c2 => ⟨hw, fun c3 => ?_, fun c3 => ?_⟩, fun c2 => ?_⟩⟩, fun c => by omega⟩
            · rw [if_pos (Or.inl c)] at hQ
              exact hQ τ S'
            · rw [if_neg (by omega), if_neg c3, ← (hx c).2] at hQ
              exact hQ τ S'
            · rw [if_neg (by omega), if_pos c3, ← (hx c).1] at hQ
              exact hQ τ S'
            · rw [if_pos (Or.inr c2)] at hQ
              exact hQ τ S'
          | succ t ih =>
            intro m x4 x5 τ ht hm S' hx
            have hb := en_b_lt (S := S) (v := u) m
            apply uX5_enough_40
            have g2 : τ 7 2 = (S.2.2.1.2.2.1 : Int) := by have := (h.s2 S').2.2.2.1.2.2.1; rwa [Nat.zero_add] at this
            rw [(h.s2 S').2.1.1, esh, g2]
            refine ⟨by omega, by omega, fun c => by omega, fun _ => ?_⟩
            have e3 : (m : Int) + 1 = ((m + 1 : Nat) : Int) := by omega
            have inner : ∀ (s k : Nat) (τ : av_M), S.1.2.1 - k = s → k ≤ S.1.2.1 → mS2 σ τ → en_v S m k < 16 → av_W E mSH mX5_enough 68 [some (av_r 0), some (av_i (u : Int)), some (av_i w), some (av_i (en_b S u m)), some (av_i x4), some (av_i x5), some (av_i (m : Int)), some (av_i (en_g S m k : Nat)), some (av_i (en_h S m k : Nat)), some (av_i (en_v S m k : Nat)), some (av_i (k : Int))] [] τ Q := by
              intro s
              induction s with
              | zero =>
                intro k τ hs hk S'' hv16
                have hkk : k = S.1.2.1 := by omega
                subst hkk
                have hgl := en_g_le V.1 m S.1.2.1 (Nat.le_refl _)
                have hhl := en_h_le V.1 m S.1.2.1 (Nat.le_refl _)
                have g0 : τ 7 0 = (S.2.2.1.1 : Int) := (h.s2 S'').2.2.2.1.1
                have g1 : τ 7 1 = (S.2.2.1.2.1 : Int) := by have := (h.s2 S'').2.2.2.1.2.1; rwa [Nat.zero_add] at this
                have G := (h.s2 S'').2.2.1
                have hgb := en_g_le V.1 (en_b S u m).toNat S.1.2.1 (Nat.le_refl _)
                have hhb := en_h_le V.1 (en_b S u m).toNat S.1.2.1 (Nat.le_refl _)
                -- not this one
                have skip : en_b S u (m + 1) = en_b S u m → ∀ τ', mS2 σ τ' → av_W E mSH mX5_enough 40 [some (av_r 0), some (av_i (u : Int)), some (av_i w), some (av_i (en_b S u m)), some (av_i x4), some (av_i x5), some (av_i ((m + 1 : Nat) : Int)), none, none, none, none] [] τ' Q := by
                  intro he τ' S3
                  have := ih (m + 1) x4 x5 τ' (by omega) (by omega) S3 (by rw [he]; exact hx)
                  rw [he] at this
                  exact this
                have take : en_b S u (m + 1) = (m : Int) → ∀ τ', mS2 σ τ' → av_W E mSH mX5_enough 40 [some (av_r 0), some (av_i (u : Int)), some (av_i w), some (av_i (m : Int)), some (av_i (en_g S m S.1.2.1 : Nat)), some (av_i (en_h S m S.1.2.1 : Nat)), some (av_i ((m + 1 : Nat) : Int)), none, none, none, none] [] τ' Q := by
                  intro he τ' S3
                  have := ih (m + 1) (en_g S m S.1.2.1 : Nat) (en_h S m S.1.2.1 : Nat) τ' (by omega) (by omega) S3 (by rw [he, Int.toNat_natCast]; exact fun _ => ⟨rfl, rfl⟩)
                  rw [he] at this
                  exact this
                have nok : en_ok S u m = false → en_b S u (m + 1) = en_b S u m := fun hno => by rw [en_b, hno, if_neg (fun z => by have := z.1; cases this)]
                apply uX5_enough_68
                rw [(h.s2 S'').2.1.1, g0, g1, e3]
                have hvand : en_v S m S.1.2.1 &&& u < 16 := Nat.lt_of_le_of_lt Nat.and_le_left hv16
                refine ⟨by omega, by omega, fun _ => ⟨by omega, by omega, fun c => ?_, fun c => ?_⟩, fun c => by omega⟩
                · refine skip (nok ?_) τ S''
                  have : ¬ en_g S m S.1.2.1 ≤ S.2.2.1.2.1 := by omega
                  simp [en_ok, this]
                · refine s_fall V.2.1 G.1 G.2.1 G.2.2 ⟨_, rfl, by omega, by omega, fun c2 => ?_, fun c2 => ?_⟩
                  · refine skip (nok ?_) τ S''
                    have : ¬ S.2.2.1.1 + en_h S m S.1.2.1 < q_fall S.2.1 := by omega
                    simp [en_ok, this]
                  · rw [bt_and (by omega) (by omega)]
                    refine ⟨by omega, by omega, fun c3 => ?_, fun c3 => ?_⟩
                    · refine skip (nok ?_) τ S''
                      have : ¬ en_v S m S.1.2.1 &&& u = u := by omega
                      simp [en_ok, this]
                    · have hok : en_ok S u m = true := by
                        have q1 : en_g S m S.1.2.1 ≤ S.2.2.1.2.1 := by omega
                        have q2 : S.2.2.1.1 + en_h S m S.1.2.1 < q_fall S.2.1 := by omega
                        have q3 : en_v S m S.1.2.1 &&& u = u := by omega
                        simp [en_ok, q1, q2, q3]
                      refine ⟨by omega, fun c4 => take ?_ τ S'', fun c4 => ?_⟩
                      · rw [en_b, if_pos ⟨hok, Or.inl c4⟩]
                      · obtain ⟨x4e, x5e⟩ := hx c4
                        rw [x4e, x5e]
                        rw [x4e, x5e] at skip
                        refine ⟨by omega, by omega, fun c5 => take ?_ τ S'', fun c5 => ⟨by omega, by omega, fun c6 => skip ?_ τ S'', fun c6 => ⟨by omega, by omega, fun c7 => skip ?_ τ S'', fun c7 => take ?_ τ S''⟩⟩⟩
                        · rw [en_b, if_pos ⟨hok, Or.inr (Or.inl (by omega))⟩]
                        · rw [en_b, if_neg (by omega)]
                        · rw [en_b, if_neg (by omega)]
                        · rw [en_b, if_pos ⟨hok, Or.inr (Or.inr ⟨by omega, by omega⟩)⟩]
              | succ s ih2 =>
                intro k τ hs hk S'' hv16
                apply uX5_enough_68
                have e4 : (k : Int) + 1 = ((k + 1 : Nat) : Int) := by omega
                rw [(h.s2 S'').2.1.1, e4]
                refine ⟨by omega, by omega, fun c => by omega, fun _ => s_has (by omega) (by omega) ⟨_, rfl, ?_⟩⟩
                by_cases hb : m.testBit k = true
                · rw [if_pos hb]
                  have hv := V.1.2.2.2 k (by omega)
                  have e5 : (3 * (k : Int) + 2).toNat = 3 * k + 2 := by omega
                  have e6 : (3 * (k : Int) + 1).toNat = 3 * k + 1 := by omega
                  refine ⟨by decide, fun c => absurd c (by decide), fun _ => ⟨by omega, by omega, ?_⟩⟩
                  rw [e5, e6, (h.s2 S'').2.1.2 _ (by omega), (h.s2 S'').2.1.2 _ (by omega)]
                  refine s_verbsByS (D := q_D S) (k := k) ((h.s2 S'').D V) (by show k < S.1.2.1; omega) (fun τ2 S2 hl => ⟨_, rfl, ?_⟩)
                  have eg : (en_g S m k : Int) + S.1.2.2 (3 * k + 2) = ((en_g S m (k + 1) : Nat) : Int) := by rw [en_g, if_pos hb]; omega
                  have eh : (en_h S m k : Int) + S.1.2.2 (3 * k + 1) = ((en_h S m (k + 1) : Nat) : Int) := by rw [en_h, if_pos hb]; omega
                  have ev : en_v S m (k + 1) = en_v S m k ||| dSv (q_D S) k := by rw [en_v, if_pos hb]
                  rw [bt_or (by omega) (by omega), eg, eh, ← ev]
                  exact ih2 (k + 1) τ2 (by omega) (by omega) (S''.tr S2) (by rw [ev]; exact Nat.or_lt_two_pow (n := 4) hv16 hl)
                · rw [if_neg hb]
                  have eg : en_g S m (k + 1) = en_g S m k := by rw [en_g, if_neg hb]; rfl
                  have eh : en_h S m (k + 1) = en_h S m k := by rw [en_h, if_neg hb]; rfl
                  have ev : en_v S m (k + 1) = en_v S m k := by rw [en_v, if_neg hb]
                  have := ih2 (k + 1) τ (by omega) (by omega) S'' (by rw [ev]; exact hv16)
                  rw [eg, eh, ev] at this
                  exact ⟨by decide, fun _ => this, fun c => absurd rfl c⟩
            exact inner _ 0 τ rfl (Nat.zero_le _) S' vv
        exact outer _ 0 0 0 σ rfl (Nat.zero_le _) (mS2.rf σ) (fun z => by have : en_b S u 0 = -4 := rfl; omega)
      · rw [if_neg (fun z => h2 z.2.2)] at hQ
        rw [if_neg h2]
        exact ⟨by decide, fun c => absurd rfl c, fun _ => hQ σ (mS2.rf σ)⟩
  · rw [if_neg (fun z => h1 z.1)] at hQ
    rw [if_neg h1]
    exact ⟨by decide, fun _ => hQ σ (mS2.rf σ), fun c => absurd rfl c⟩
