/-! The model's search for readings: isNext goes through gq_op, in order. -/
theorem s_in {E : av_E} {σ : av_M} {Q : Option av_V → av_M → Prop} {a b c : Int} (ha : rg a) (hb : rg b) (hc : rg c) (hQ : Q (some (av_i (if b ≤ a ∧ a ≤ c then 1 else 0))) σ) : av_C E mSH mX5_in [av_i a, av_i b, av_i c] σ Q := by
  apply uX5_in
  refine ⟨ha, hb, fun h1 => ?_, fun h1 => ⟨ha, hc, fun h2 => ?_, fun h2 => ?_⟩⟩
  · rwa [if_neg (by omega)] at hQ
  · rwa [if_neg (by omega)] at hQ
  · rwa [if_pos (by omega)] at hQ
theorem s_has {E : av_E} {σ : av_M} {Q : Option av_V → av_M → Prop} {a k : Nat} (ha : a < 2 ^ 31) (hk : k < 32) (hQ : Q (some (av_i (if a.testBit k = true then 1 else 0))) σ) : av_C E mSH mX5_has [av_i (a : Int), av_i (k : Int)] σ Q := by
  apply uX5_has
  rw [bt_has ha hk]
  by_cases h : a.testBit k = true
  · rw [if_pos h] at hQ ⊢
    exact ⟨by decide, fun c => absurd rfl c, fun _ => hQ⟩
  · rw [if_neg h] at hQ ⊢
    exact ⟨by decide, fun _ => hQ, fun c => absurd c (by decide)⟩
theorem s_isVerb {E : av_E} {σ : av_M} {Q : Option av_V → av_M → Prop} {k w : Nat} (hk : k < 9) (hw : σ 21 k = (w : Int)) (hw2 : w < 100) (hQ : Q (some (av_i (if w % 2 = 1 then 1 else 0))) σ) : av_C E mSH mX5_isVerb [av_r 0, av_i (k : Int)] σ Q := by
  apply uX5_isVerb
  rw [Int.toNat_natCast, hw]
  refine ⟨by omega, by omega, by omega, fun h => ?_, fun h => ?_⟩
  · rwa [if_neg (by omega)] at hQ
  · rwa [if_pos (by omega)] at hQ
/-- the model's memory holds this grammar, row, kind and what is known -/
def mSF (σ : av_M) (g : gq_T) (kn : Nat) (row : Nat → Int) (n kd : Nat) : Prop :=
  (σ 0 0 = (g.1 : Int) ∧ g.1 ≤ 8) ∧ (∀ r, r < g.1 → σ 1 r = (g.2.1 r : Int) ∧ 1 ≤ g.2.1 r ∧ g.2.1 r ≤ 3) ∧ (∀ r i, r < g.1 → i < g.2.1 r → σ 2 (3 * r + i) = g.2.2.1 (3 * r + i) ∧ rg (g.2.2.1 (3 * r + i))) ∧
  (∀ r, r < g.1 → σ 3 r = g.2.2.2.1 r ∧ 0 ≤ g.2.2.2.1 r ∧ g.2.2.2.1 r ≤ 60) ∧ (∀ r, r < g.1 → σ 4 r = g.2.2.2.2 r ∧ 0 ≤ g.2.2.2.2 r ∧ g.2.2.2.2 r ≤ 3) ∧
  (σ 0 31 = (n : Int) ∧ n ≤ 9) ∧ (σ 0 33 = (kd : Int) ∧ kd ≤ 4) ∧ (σ 0 32 = (kn : Int) ∧ kn < 256) ∧ (∀ i, i < n → σ 20 i = row i ∧ rg (row i))
def mkw (kn kd w : Nat) : Bool := kn.testBit (w / 2) && !(decide (kd = 1) && decide (w % 2 = 1))
def macc (kd s : Nat) : Bool := if kd = 2 then decide (s ≠ 0) else if kd = 4 then decide (s = 2) else true
/-- all but the search's own cells stays -/
def mSm (σ0 σ : av_M) : Prop := ∀ a b, a ≠ 21 → a ≠ 22 → ¬ (a = 0 ∧ b = 36) → σ a b = σ0 a b
theorem mSm.rf (σ : av_M) : mSm σ σ := fun _ _ _ _ _ => rfl
theorem mSm.st {σ0 σ : av_M} (h : mSm σ0 σ) {c k : Nat} (x : Int) (hc : c = 21 ∨ c = 22 ∨ (c = 0 ∧ k = 36)) : mSm σ0 (av_st σ c k x) := by
  intro a b h1 h2 h3
  rw [← h a b h1 h2 h3]
  unfold av_st
  rw [if_neg]
  rintro ⟨rfl, rfl⟩
  omega
theorem mSF.sm {σ0 σ : av_M} {g : gq_T} {kn : Nat} {row : Nat → Int} {n kd : Nat} (h : mSF σ0 g kn row n kd) (e : mSm σ0 σ) : mSF σ g kn row n kd := by
  obtain ⟨h1, h2, h3, h4, h5, h6, h7, h8, h9⟩ := h
  refine ⟨?_, ?_, ?_, ?_, ?_, ?_, ?_, ?_, ?_⟩
  · rw [e 0 0 (by omega) (by omega) (by omega)]; exact h1
  · intro r hr; rw [e 1 r (by omega) (by omega) (by omega)]; exact h2 r hr
  · intro r i hr hi; rw [e 2 _ (by omega) (by omega) (by omega)]; exact h3 r i hr hi
  · intro r hr; rw [e 3 r (by omega) (by omega) (by omega)]; exact h4 r hr
  · intro r hr; rw [e 4 r (by omega) (by omega) (by omega)]; exact h5 r hr
  · rw [e 0 31 (by omega) (by omega) (by omega)]; exact h6
  · rw [e 0 33 (by omega) (by omega) (by omega)]; exact h7
  · rw [e 0 32 (by omega) (by omega) (by omega)]; exact h8
  · intro r hr; rw [e 20 r (by omega) (by omega) (by omega)]; exact h9 r hr
theorem l_fits {E : av_E} {σ : av_M} {Q : Option av_V → av_M → Prop} {r p mm nn : Nat} {x2 : Int} (hnn : nn ≤ 9) (hr : r < 8) (hm : σ 1 r = (mm : Int)) (hm3 : mm ≤ 3) (hd : 0 ≤ σ 0 36 ∧ σ 0 36 < 10) (hp : σ 22 (σ 0 36).toNat = (p : Int)) (hrow : ∀ j, j < nn → rg (σ 20 j)) (hlet : ∀ j, j < mm → rg (σ 2 (3 * r + j))) :
    ∀ (k i : Nat) (x3 : Int), mm - i = k → i ≤ mm → (x3 = 0 ∨ x3 = 1 ∧ p + mm ≤ nn) → Q (some (av_i (if x3 = 1 ∧ ∀ j, j < mm → i ≤ j → σ 20 (p + j) = σ 2 (3 * r + j) then 1 else 0))) σ →
    av_W E mSH mX5_fits 130 [some (av_r 0), some (av_i (r : Int)), some (av_i x2), some (av_i x3), some (av_i (i : Int))] [] σ Q := by
  intro k
  induction k with
  | zero =>
    intro i x3 hk hi h3 hQ
    apply uX5_fits_130
    rw [Int.toNat_natCast, hm]
    refine ⟨by omega, by omega, by omega, fun c => ⟨by omega, ?_⟩, fun c => by omega⟩
    rcases h3 with rfl | ⟨rfl, -⟩
    · have e : ¬ ((0 : Int) = 1 ∧ ∀ j, j < mm → i ≤ j → σ 20 (p + j) = σ 2 (3 * r + j)) := fun z => absurd z.1 (by decide)
      rwa [if_neg e] at hQ
    · have e : ((1 : Int) = 1 ∧ ∀ j, j < mm → i ≤ j → σ 20 (p + j) = σ 2 (3 * r + j)) := ⟨rfl, fun j h1 h2 => by omega⟩
      rwa [if_pos e] at hQ
  | succ k ih =>
    intro i x3 hk hi h3 hQ
    apply uX5_fits_130
    rw [Int.toNat_natCast, hm]
    refine ⟨by omega, by omega, by omega, fun c => by omega, fun c => ⟨by omega, fun c0 => ⟨by omega, ?_⟩, fun c0 => ⟨hd, ?_⟩⟩⟩
    · have e : ¬ (x3 = 1 ∧ ∀ j, j < mm → i ≤ j → σ 20 (p + j) = σ 2 (3 * r + j)) := fun z => by have := z.1; omega
      rw [if_neg e] at hQ
      rw [c0]
      exact hQ
    · have e1 : ((p : Int) + (i : Int)).toNat = p + i := by omega
      have e2 : (3 * (r : Int) + (i : Int)).toNat = 3 * r + i := by omega
      have hx : x3 = 1 ∧ p + mm ≤ nn := by omega
      rw [hp, e1, e2]
      refine ⟨by omega, by omega, hrow _ (by omega), hlet _ (by omega), fun c1 => ?_, fun c1 => ?_⟩
      · refine ih (i + 1) 0 (by omega) (by omega) (Or.inl rfl) ?_
        have e : ¬ ((0 : Int) = 1 ∧ ∀ j, j < mm → i + 1 ≤ j → σ 20 (p + j) = σ 2 (3 * r + j)) := fun z => absurd z.1 (by decide)
        rw [if_neg e]
        rwa [if_neg (fun z => c1 (z.2 i (by omega) (Nat.le_refl i)))] at hQ
      · refine ih (i + 1) 1 (by omega) (by omega) (Or.inr ⟨rfl, hx.2⟩) ?_
        have e3 : ((1 : Int) = 1 ∧ ∀ j, j < mm → i + 1 ≤ j → σ 20 (p + j) = σ 2 (3 * r + j)) ↔ (x3 = 1 ∧ ∀ j, j < mm → i ≤ j → σ 20 (p + j) = σ 2 (3 * r + j)) := by
          constructor
          · rintro ⟨-, z⟩
            refine ⟨hx.1, fun j h2 h1 => ?_⟩
            rcases Nat.eq_or_lt_of_le h1 with rfl | h1
            · exact c1
            · exact z j h2 h1
          · rintro ⟨-, z⟩
            exact ⟨rfl, fun j h2 h1 => z j h2 (by omega)⟩
        rw [if_iffc e3]
        exact hQ
theorem s_fits {E : av_E} {σ : av_M} {Q : Option av_V → av_M → Prop} {g : gq_T} {kn : Nat} {row : Nat → Int} {n kd d w p s : Nat} (F : mSF σ g kn row n kd) (hd : σ 0 36 = (d : Int)) (hd9 : d < 9) (hw : σ 21 d = (w : Int)) (hw2 : w < 2 * g.1) (hp : σ 22 d = (p : Int)) (hpn : p ≤ n)
    (hs : if d = 0 then s ≠ 2 else ∃ u : Nat, σ 21 (d - 1) = (u : Int) ∧ u < 16 ∧ (s = 2 ↔ u % 2 = 1)) (hQ : Q (some (av_i (if gq_ok g (mkw kn kd) row n p s w = true then 1 else 0))) σ) : av_C E mSH mX5_fits [av_r 0] σ Q := by
  obtain ⟨⟨f1, f1'⟩, f2, f3, f4, f5, ⟨f6, f6'⟩, ⟨f7, f7'⟩, ⟨f8, f8'⟩, f9⟩ := F
  have hr : w / 2 < g.1 := by omega
  obtain ⟨g1, g2, g3⟩ := f2 _ hr
  have e0 : ((w : Int) / 2).toNat = w / 2 := by omega
  have e5 : (w : Int) / 2 = ((w / 2 : Nat) : Int) := by omega
  have h4 := f4 _ hr
  have h5 := f5 _ hr
  -- the loop, from any way into it
  have loop : ∀ (x2 x3 : Int), (x3 = 0 ∨ x3 = 1 ∧ p + g.2.1 (w / 2) ≤ n) → Q (some (av_i (if x3 = 1 ∧ ∀ j, j < g.2.1 (w / 2) → row (p + j) = g.2.2.1 (3 * (w / 2) + j) then 1 else 0))) σ →
      av_W E mSH mX5_fits 130 [some (av_r 0), some (av_i ((w : Int) / 2)), some (av_i x2), some (av_i x3), some (av_i 0)] [] σ Q := by
    intro x2 x3 hx hq
    rw [e5]
    refine l_fits (nn := n) f6' (p := p) (mm := g.2.1 (w / 2)) (by omega) g1 g3 (by omega) (by rw [hd, Int.toNat_natCast]; exact hp) (fun j hj => by rw [(f9 j hj).1]; exact (f9 j hj).2) (fun j hj => by rw [(f3 _ j hr hj).1]; exact (f3 _ j hr hj).2) _ 0 x3 rfl (Nat.zero_le _) (by omega) ?_
    have e6 : (x3 = 1 ∧ ∀ j, j < g.2.1 (w / 2) → 0 ≤ j → σ 20 (p + j) = σ 2 (3 * (w / 2) + j)) ↔ (x3 = 1 ∧ ∀ j, j < g.2.1 (w / 2) → row (p + j) = g.2.2.1 (3 * (w / 2) + j)) := by
      constructor
      · rintro ⟨a, z⟩
        refine ⟨a, fun j hj => ?_⟩
        have := z j hj (Nat.zero_le j)
        rwa [(f9 (p + j) (by omega)).1, (f3 _ j hr hj).1] at this
      · rintro ⟨a, z⟩
        refine ⟨a, fun j hj _ => ?_⟩
        rw [(f9 (p + j) (by omega)).1, (f3 _ j hr hj).1]
        exact z j hj
    rw [if_iffc e6]
    exact hq
  have no : ∀ (x2 : Int), gq_ok g (mkw kn kd) row n p s w = false → av_W E mSH mX5_fits 130 [some (av_r 0), some (av_i ((w : Int) / 2)), some (av_i x2), some (av_i 0), some (av_i 0)] [] σ Q := by
    intro x2 hno
    refine loop x2 0 (Or.inl rfl) ?_
    rw [hno] at hQ
    rw [if_neg (by omega)]
    exact hQ
  -- known, room, letters
  have hasp : (if w % 2 = 1 then 0 < g.2.2.2.2 (w / 2) ∧ s ≠ 2 ∧ kd ≠ 1 else 0 < g.2.2.2.1 (w / 2)) → av_C E mSH mX5_has [av_i (σ 0 32), av_i ((w : Int) / 2)] σ (fun v s2 => ∃ r2 : Int, v = some (av_i r2) ∧ ((rg r2) ∧ (((r2 = 0) → av_W E mSH mX5_fits 130 [some (av_r 0), some (av_i ((w : Int) / 2)), some (av_i 1), some (av_i 0), some (av_i 0)] [] s2 Q) ∧ ((¬ r2 = 0) → (0 ≤ (s2 0 36) ∧ (s2 0 36) < 10) ∧ ((0 ≤ ((w : Int) / 2) ∧ ((w : Int) / 2) < 8) ∧ ((rg ((s2 22 ((s2 0 36)).toNat) + (s2 1 (((w : Int) / 2)).toNat))) ∧ ((rg (s2 0 31)) ∧ ((((s2 0 31) < ((s2 22 ((s2 0 36)).toNat) + (s2 1 (((w : Int) / 2)).toNat))) → av_W E mSH mX5_fits 130 [some (av_r 0), some (av_i ((w : Int) / 2)), some (av_i 1), some (av_i 0), some (av_i 0)] [] s2 Q) ∧ ((((s2 22 ((s2 0 36)).toNat) + (s2 1 (((w : Int) / 2)).toNat)) ≤ (s2 0 31)) → av_W E mSH mX5_fits 130 [some (av_r 0), some (av_i ((w : Int) / 2)), some (av_i 1), some (av_i 1), some (av_i 0)] [] s2 Q))))))))) := by
    intro hits
    rw [f8, e5]
    refine s_has (by omega) (by omega) ⟨_, rfl, ?_⟩
    by_cases hk : kn.testBit (w / 2) = true
    · rw [if_pos hk, ← e5]
      refine ⟨by decide, fun c => absurd c (by decide), fun _ => ⟨by omega, by omega, ?_⟩⟩
      rw [hd, Int.toNat_natCast, hp, e0, g1, f6]
      refine ⟨by omega, by omega, fun c => ?_, fun c => ?_⟩
      · refine no 1 ?_
        simp only [gq_ok]
        have : ¬ p + g.2.1 (w / 2) ≤ n := by omega
        simp [this]
      · refine loop 1 1 (Or.inr ⟨rfl, by omega⟩) ?_
        have hle : p + g.2.1 (w / 2) ≤ n := by omega
        have e7 : (gq_ok g (mkw kn kd) row n p s w = true) ↔ ((1 : Int) = 1 ∧ ∀ j, j < g.2.1 (w / 2) → row (p + j) = g.2.2.1 (3 * (w / 2) + j)) := by
          simp only [gq_ok, mkw, hk, Bool.true_and, Bool.and_eq_true, decide_eq_true_eq, Bool.not_eq_true', Bool.and_eq_false_imp]
          constructor
          · rintro ⟨-, z⟩
            refine ⟨?_, z⟩
            first | rfl | trivial
          · rintro ⟨-, z⟩
            refine ⟨⟨⟨?_, ?_⟩, hle⟩, z⟩
            · intro hkd
              by_cases ho : w % 2 = 1
              · rw [if_pos ho] at hits
                exact absurd hkd hits.2.2
              · simp [ho]
            · by_cases ho : w % 2 = 1
              · rw [if_pos ho] at hits ⊢
                simp [hits.1, hits.2.1]
              · rw [if_neg ho] at hits ⊢
                simpa using hits
        rw [if_iffc e7] at hQ
        exact hQ
    · rw [if_neg hk, ← e5]
      refine ⟨by decide, fun _ => ?_, fun c => absurd rfl c⟩
      refine no 1 ?_
      have : kn.testBit (w / 2) = false := by simpa using hk
      simp [gq_ok, mkw, this]
  apply uX5_fits
  rw [hd, Int.toNat_natCast, hw]
  refine ⟨by omega, by omega, ?_⟩
  refine s_isVerb hd9 hw (by omega) ⟨_, rfl, ?_⟩
  rw [e0]
  by_cases ho : w % 2 = 1
  · rw [if_pos ho, h5.1, hd]
    refine ⟨by decide, fun c => absurd c (by decide), fun _ => ⟨by omega, by omega, fun c => ?_, fun c => ?_⟩⟩
    · refine no 0 ?_
      have : ¬ 0 < g.2.2.2.2 (w / 2) := by omega
      simp [gq_ok, ho, this]
    · rw [f7]
      refine ⟨by omega, fun c2 => ?_, fun c2 => ⟨by omega, fun c3 => ?_, fun c3 => ?_⟩⟩
      · refine no 0 ?_
        have : kd = 1 := by omega
        simp [gq_ok, mkw, ho, this]
      · have hd0 : d = 0 := by omega
        rw [if_pos hd0] at hs
        exact hasp (by rw [if_pos ho]; exact ⟨c, hs, by omega⟩)
      · have hd0 : ¬ d = 0 := by omega
        rw [if_neg hd0] at hs
        obtain ⟨u, hu, hu2, hus⟩ := hs
        have e8 : (d : Int) - 1 = ((d - 1 : Nat) : Int) := by omega
        rw [e8]
        refine s_isVerb (w := u) (by omega) hu (by omega) ⟨_, rfl, ?_⟩
        by_cases hu3 : u % 2 = 1
        · rw [if_pos hu3]
          refine ⟨by decide, fun _ => ?_, fun c => absurd c (by decide)⟩
          refine no 0 ?_
          simp [gq_ok, ho, hus.mpr hu3]
        · rw [if_neg hu3]
          refine ⟨by decide, fun c => absurd rfl c, fun _ => ?_⟩
          exact hasp (by rw [if_pos ho]; exact ⟨c, fun z => hu3 (hus.mp z), by omega⟩)
  · rw [if_neg ho, h4.1]
    refine ⟨by decide, fun _ => ⟨by omega, by omega, fun c => ?_, fun c => ?_⟩, fun c => absurd rfl c⟩
    · refine no 0 ?_
      have : ¬ 0 < g.2.2.2.1 (w / 2) := by omega
      simp [gq_ok, ho, this]
    · exact hasp (by rw [if_neg ho]; exact c)
