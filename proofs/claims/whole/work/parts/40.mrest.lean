theorem rw_780 : (rw_rest 1).length = 780 := by decide +kernel
def sp_wrote (P : Nat × Nat → Bool) (w : Int) : Int := if 0 ≤ w ∧ w ≤ 1 then (if w = 0 then ((rw_rest 1).countP P : Int) else rw_fd P (rw_rest 1)) else -1
theorem mo_wrote {E : av_E} {σ : av_M} {Q : Option av_V → av_M → Prop} {D : gq_D} {S : Nat} {sr : Nat → Nat} {sw : Nat → Int} {w : Int} (h : mD σ D) (H : mSn σ D S sr sw) (hw : rg w) (hQ : ∀ σ', mS2 σ σ' → Q (some (av_i (sp_wrote (so_B D S sr sw) w))) σ') : av_C E mSH mX5_wrote [av_r 0, av_i w] σ Q := by
  apply uX5_wrote
  unfold sp_wrote at hQ
  refine s_in hw (by decide) (by decide) ⟨_, rfl, ?_⟩
  by_cases h1 : 0 ≤ w ∧ w ≤ 1
  · rw [if_pos h1] at hQ ⊢
    refine ⟨by decide, fun _ => ?_, fun c => absurd c (by decide)⟩
    have h780 := List.countP_le_length (p := so_B D S sr sw) (l := rw_rest 1)
    rw [rw_780] at h780
    obtain ⟨T, hT⟩ : ∃ T, T = (rw_rest 1).countP (so_B D S sr sw) := ⟨_, rfl⟩
    obtain ⟨f, hf⟩ : ∃ f, f = rw_fd (so_B D S sr sw) (rw_rest 1) := ⟨_, rfl⟩
    rw [← hT, ← hf] at hQ
    rw [← hT] at h780
    have key : ∀ (t m c : Nat) (x3 : Int) (τ : av_M), 5 - m = t → m ≤ 5 → mS2 σ τ → c + (rw_rest m).countP (so_B D S sr sw) = T → (c = 0 → x3 = -4 ∧ rw_fd (so_B D S sr sw) (rw_rest m) = f) → (0 < c → x3 = f) → ∀ (x4 : Int), x4 * 5 = ((5 ^ m : Nat) : Int) →
        av_W E mSH mX5_wrote 22 [some (av_r 0), some (av_i w), some (av_i (c : Int)), some (av_i x3), some (av_i x4), some (av_i (m : Int)), none] [] τ Q := by
      intro t
      induction t with
      | zero =>
        intro m c x3 τ ht hm S' hc h0 h1' x4 hx4
        apply uX5_wrote_22
        rw [rw_rest_end (by omega)] at hc h0
        simp at hc
        refine ⟨by omega, fun _ => ⟨hw, fun c2 => ?_, fun c2 => ?_⟩, fun c => by omega⟩
        · have := hQ τ S'
          rw [if_neg c2] at this
          have e : x3 = f := by
            by_cases h : c = 0
            · have := h0 h
              rw [this.1, ← this.2]
              rfl
            · exact h1' (by omega)
          rw [e]
          exact this
        · have := hQ τ S'
          rw [if_pos c2, ← hc] at this
          exact this
      | succ t ih =>
        intro m c x3 τ ht hm S' hc h0 h1' x4 hx4
        apply uX5_wrote_22
        have hp := pow5_lt (show m ≤ 4 by omega)
        rw [hx4]
        refine ⟨by omega, fun c => by omega, fun _ => ?_⟩
        have inner : ∀ (s x c : Nat) (x3 : Int) (τ : av_M), 5 ^ m - x = s → x ≤ 5 ^ m → mS2 σ τ → c + (rw_in m x ++ rw_rest (m + 1)).countP (so_B D S sr sw) = T → (c = 0 → x3 = -4 ∧ rw_fd (so_B D S sr sw) (rw_in m x ++ rw_rest (m + 1)) = f) → (0 < c → x3 = f) →
            av_W E mSH mX5_wrote 37 [some (av_r 0), some (av_i w), some (av_i (c : Int)), some (av_i x3), some (av_i ((5 ^ m : Nat) : Int)), some (av_i (m : Int)), some (av_i (x : Int))] [] τ Q := by
          intro s
          induction s with
          | zero =>
            intro x c x3 τ hs hx S'' hc h0 h1'
            apply uX5_wrote_37
            have e3 : (m : Int) + 1 = ((m + 1 : Nat) : Int) := by omega
            rw [e3]
            rw [rw_in_end (by omega), List.nil_append] at hc h0
            refine ⟨by omega, by omega, fun _ => ih (m + 1) c x3 τ (by omega) (by omega) S'' hc h0 h1' _ ?_, fun c => by omega⟩
            rw [Nat.pow_succ]
            omega
          | succ s ih2 =>
            intro x c x3 τ hs hx S'' hc h0 h1'
            have hD := h.s2 S''
            apply uX5_wrote_37
            have e3 : (x : Int) + 1 = ((x + 1 : Nat) : Int) := by omega
            rw [rw_in_step (by omega), List.cons_append, List.countP_cons] at hc
            rw [rw_in_step (by omega), List.cons_append, rw_fd_app] at h0
            rw [e3]
            refine ⟨by omega, by omega, fun c => by omega, fun _ => s_isSo hD (H.s2 S'') (by omega) (by omega) (fun τ2 S2 => ⟨_, rfl, ?_⟩)⟩
            by_cases hP : so_B D S sr sw (m, x) = true
            · rw [if_pos hP] at hc h0 ⊢
              have e4 : (c : Int) + 1 = ((c + 1 : Nat) : Int) := by omega
              refine ⟨by decide, fun c => absurd c (by decide), fun _ => ⟨by omega, fun c2 => ?_, fun c2 => ?_⟩⟩
              · rw [e4]
                exact ih2 (x + 1) (c + 1) x3 τ2 (by omega) (by omega) (S''.tr S2) (by omega) (fun z => by omega) (fun _ => h1' (by omega))
              · refine s_numberOf (by omega) (by omega) (fun τ3 S3 => ⟨_, rfl, ?_⟩)
                rw [e4]
                exact ih2 (x + 1) (c + 1) _ τ3 (by omega) (by omega) ((S''.tr S2).tr S3) (by omega) (fun z => by omega) (fun _ => (h0 (by omega)).2)
            · rw [if_neg hP] at hc h0 ⊢
              exact ⟨by decide, fun _ => ih2 (x + 1) c x3 τ2 (by omega) (by omega) (S''.tr S2) (by omega) h0 h1', fun c => absurd rfl c⟩
        exact inner _ 0 c x3 τ rfl (Nat.zero_le _) S' (by rw [← rw_rest_step (by omega)]; exact hc) (by rw [← rw_rest_step (by omega)]; exact h0) h1'
    exact key _ 1 0 (-4) σ rfl (by omega) (mS2.rf σ) (by rw [hT]; omega) (fun _ => ⟨rfl, hf.symm⟩) (fun z => by omega) 1 rfl
  · rw [if_neg h1] at hQ ⊢
    exact ⟨by decide, fun c => absurd rfl c, fun _ => hQ σ (mS2.rf σ)⟩
-- walls by draws
def wl_x (z i : Nat) : Nat := 7919 * z + 6151 * i + 1
def wl_dr (z i : Nat) : Nat := wl_x z i * wl_x z i % 65521
def wl_row (left j : Nat) : Int := ((left / 5 ^ j % 5 : Nat) : Int)
def wl_A (D : gq_D) (k z i : Nat) : List (List Nat) := dB D k (wl_row (wl_dr z i / 4)) (1 + wl_dr z i % 4)
def sp_walls (D : gq_D) (z n k w : Int) : Int := if (0 ≤ z ∧ z ≤ 9999) ∧ (1 ≤ n ∧ n ≤ 40) ∧ (0 ≤ k ∧ k < D.2.1) ∧ 0 ≤ w ∧ w ≤ 1 then (if w = 0 then (gq_sm (fun i => if wl_A D k.toNat z.toNat i = [] then 0 else 1) n.toNat : Int) else (gq_sm (fun i => (wl_A D k.toNat z.toNat i).length) n.toNat : Int)) else -1
theorem wl_x_lt {z i : Nat} (hz : z ≤ 9999) (hi : i < 40) : wl_x z i * wl_x z i < 9223372036854775808 := by
  have h : wl_x z i < 80000000 := by unfold wl_x; omega
  exact Nat.lt_of_lt_of_le (Nat.mul_lt_mul_of_lt_of_lt h h) (by decide)
theorem mo_walls {E : av_E} {σ : av_M} {Q : Option av_V → av_M → Prop} {D : gq_D} {z n k w : Int} (h : mD σ D) (hz : rg z) (hn : rg n) (hk : rg k) (hw : rg w) (hQ : ∀ σ', mS2 σ σ' → Q (some (av_i (sp_walls D z n k w))) σ') : av_C E mSH mX5_walls [av_r 0, av_i z, av_i n, av_i k, av_i w] σ Q := by
  apply uX5_walls
  unfold sp_walls at hQ
  refine s_in hz (by decide) (by decide) ⟨_, rfl, ?_⟩
  by_cases h1 : 0 ≤ z ∧ z ≤ 9999
  · rw [if_pos h1]
    refine ⟨by decide, fun c => absurd c (by decide), fun _ => s_in hn (by decide) (by decide) ⟨_, rfl, ?_⟩⟩
    by_cases h2 : 1 ≤ n ∧ n ≤ 40
    · rw [if_pos h2]
      refine ⟨by decide, fun c => absurd c (by decide), fun _ => s_isReader h hk ⟨_, rfl, ?_⟩⟩
      by_cases h3 : 0 ≤ k ∧ k < D.2.1
      · rw [if_pos h3]
        refine ⟨by decide, fun c => absurd c (by decide), fun _ => s_in hw (by decide) (by decide) ⟨_, rfl, ?_⟩⟩
        by_cases h4 : 0 ≤ w ∧ w ≤ 1
        · rw [if_pos ⟨h1, h2, h3, h4⟩] at hQ
          rw [if_pos h4]
          obtain ⟨z, rfl⟩ := Int.eq_ofNat_of_zero_le h1.1
          obtain ⟨n, rfl⟩ := Int.eq_ofNat_of_zero_le (show 0 ≤ n by omega)
          obtain ⟨q, rfl⟩ := Int.eq_ofNat_of_zero_le h3.1
          rw [Int.toNat_natCast, Int.toNat_natCast, Int.toNat_natCast] at hQ
          refine ⟨by decide, fun _ => ?_, fun c => absurd c (by decide)⟩
          have key : ∀ (t i : Nat) (τ : av_M), n - i = t → i ≤ n → mS2 σ τ → av_W E mSH mX5_walls 50 [some (av_r 0), some (av_i (z : Int)), some (av_i (n : Int)), some (av_i (q : Int)), some (av_i w), some (av_i (gq_sm (fun i => if wl_A D q z i = [] then 0 else 1) i : Nat)), some (av_i (gq_sm (fun i => (wl_A D q z i).length) i : Nat)), some (av_i (i : Int)), none, none, none, none, none] [] τ Q := by
            intro t
            induction t with
            | zero =>
              intro i τ ht hi S'
              apply uX5_walls_50
              have : i = n := by omega
              subst this
              refine ⟨by omega, by omega, fun _ => ⟨hw, fun c => ?_, fun c => ?_⟩, fun c => by omega⟩
              · have := hQ τ S'
                rwa [if_neg c] at this
              · have := hQ τ S'
                rwa [if_pos c] at this
            | succ t ih =>
              intro i τ ht hi S'
              have hi40 : i < 40 := by omega
              have hxx := wl_x_lt (show z ≤ 9999 by omega) hi40
              have ex : (7919 * (z : Int) + 6151 * (i : Int) + 1) = (wl_x z i : Int) := by unfold wl_x; omega
              have exx : (wl_x z i : Int) * (wl_x z i : Int) = ((wl_x z i * wl_x z i : Nat) : Int) := (Int.natCast_mul _ _).symm
              have ed : ((wl_x z i * wl_x z i : Nat) : Int) % 65521 = (wl_dr z i : Int) := by unfold wl_dr; omega
              have hdr : wl_dr z i < 65521 := Nat.mod_lt _ (by omega)
              have e4 : (wl_dr z i : Int) / 4 = ((wl_dr z i / 4 : Nat) : Int) := by omega
              have e5 : 1 + (wl_dr z i : Int) % 4 = ((1 + wl_dr z i % 4 : Nat) : Int) := by omega
              apply uX5_walls_50
              rw [ex, exx, ed, e4, e5]
              refine ⟨by omega, by omega, fun c => by omega, fun _ => ⟨by omega, by omega, by omega, by omega, by omega, ?_⟩⟩
              have fill : ∀ (s j : Nat) (τ2 : av_M), 1 + wl_dr z i % 4 - j = s → j ≤ 1 + wl_dr z i % 4 → mS2 σ τ2 → τ2 0 31 = ((1 + wl_dr z i % 4 : Nat) : Int) → (∀ u, u < j → τ2 20 u = wl_row (wl_dr z i / 4) u) →
                  av_W E mSH mX5_walls 105 [some (av_r 0), some (av_i (z : Int)), some (av_i (n : Int)), some (av_i (q : Int)), some (av_i w), some (av_i (gq_sm (fun i => if wl_A D q z i = [] then 0 else 1) i : Nat)), some (av_i (gq_sm (fun i => (wl_A D q z i).length) i : Nat)), some (av_i (i : Int)), some (av_l (wl_x z i : Int)), none, some (av_i (wl_dr z i : Int)), some (av_i ((wl_dr z i / 4 / 5 ^ j : Nat) : Int)), some (av_i (j : Int))] [] τ2 Q := by
                intro s
                induction s with
                | zero =>
                  intro j τ2 hs hj S2 h31 hrow
                  have hjm : j = 1 + wl_dr z i % 4 := by omega
                  have hD := h.s2 S2
                  apply uX5_walls_105
                  rw [h31]
                  refine ⟨by omega, by omega, fun _ => s_allD hD ⟨_, rfl, ?_⟩, fun c => by omega⟩
                  refine s_beginsD (row := wl_row (wl_dr z i / 4)) hD (by omega) h31 (by omega) (fun u hu => ⟨hrow u (by omega), by unfold wl_row; omega⟩) (fun τ3 row' S3 I => ⟨rfl, s_manyReadings I (fun τ4 S4 => ⟨_, rfl, ?_⟩)⟩)
                  have few : (dB D q (wl_row (wl_dr z i / 4)) (1 + wl_dr z i % 4)).length ≤ 10077696 := gq_all_few h.1.1 (by omega)
                  have S5 := (S2.tr S3).tr S4.s2
                  have e3 : (i : Int) + 1 = ((i + 1 : Nat) : Int) := by omega
                  have a1 : gq_sm (fun i => (wl_A D q z i).length) (i + 1) = gq_sm (fun i => (wl_A D q z i).length) i + (dB D q (wl_row (wl_dr z i / 4)) (1 + wl_dr z i % 4)).length := rfl
                  have a2 : gq_sm (fun i => if wl_A D q z i = [] then 0 else 1) (i + 1) = gq_sm (fun i => if wl_A D q z i = [] then 0 else 1) i + (if dB D q (wl_row (wl_dr z i / 4)) (1 + wl_dr z i % 4) = [] then 0 else 1) := rfl
                  have IH := ih (i + 1) τ4 (by omega) (by omega) S5
                  rw [a1, a2, Int.natCast_add, Int.natCast_add] at IH
                  rw [e3]
                  refine ⟨by omega, fun c => ?_, fun c => ?_⟩
                  · have hz0 : dB D q (wl_row (wl_dr z i / 4)) (1 + wl_dr z i % 4) = [] := List.eq_nil_of_length_eq_zero (by omega)
                    rw [if_pos hz0] at IH
                    exact IH
                  · have hz0 : ¬ dB D q (wl_row (wl_dr z i / 4)) (1 + wl_dr z i % 4) = [] := fun z => by rw [z] at c; simp at c
                    rw [if_neg hz0] at IH
                    exact IH
                | succ s ih2 =>
                  intro j τ2 hs hj S2 h31 hrow
                  apply uX5_walls_105
                  have hle : wl_dr z i / 4 / 5 ^ j ≤ wl_dr z i / 4 := Nat.div_le_self _ _
                  have hnn : (0 : Int) ≤ ((wl_dr z i / 4 / 5 ^ j : Nat) : Int) := Int.natCast_nonneg _
                  have e3 : (j : Int) + 1 = ((j + 1 : Nat) : Int) := by omega
                  have e6 : ((wl_dr z i / 4 / 5 ^ j : Nat) : Int) / 5 = ((wl_dr z i / 4 / 5 ^ (j + 1) : Nat) : Int) := by
                    rw [Nat.pow_succ, ← Nat.div_div_eq_div_mul]
                    omega
                  rw [h31, Int.toNat_natCast, e3, e6]
                  refine ⟨by omega, by omega, fun c => by omega, fun _ => ⟨by omega, by omega, by omega, ih2 (j + 1) _ (by omega) (by omega) (S2.st _ (by omega)) (by simp [av_st, h31]) (fun u hu => ?_)⟩⟩
                  by_cases huj : u = j
                  · subst huj
                    simp [av_st, wl_row]
                  · have : av_st τ2 20 j (((wl_dr z i / 4 / 5 ^ j : Nat) : Int) % 5) 20 u = τ2 20 u := by simp [av_st, huj]
                    rw [this]
                    exact hrow u (by omega)
              have := fill _ 0 (av_st τ 0 31 ((1 + wl_dr z i % 4 : Nat) : Int)) rfl (Nat.zero_le _) (S'.st _ (by omega)) (by simp [av_st]) (fun u hu => by omega)
              rw [Nat.pow_zero, Nat.div_one] at this
              exact this
          exact key _ 0 σ rfl (Nat.zero_le _) (mS2.rf σ)
        · rw [if_neg (fun z => h4 z.2.2.2)] at hQ
          rw [if_neg h4]
          exact ⟨by decide, fun c => absurd rfl c, fun _ => hQ σ (mS2.rf σ)⟩
      · rw [if_neg (fun z => h3 z.2.2.1)] at hQ
        rw [if_neg h3]
        exact ⟨by decide, fun _ => hQ σ (mS2.rf σ), fun c => absurd rfl c⟩
    · rw [if_neg (fun z => h2 z.2.1)] at hQ
      rw [if_neg h2]
      exact ⟨by decide, fun _ => hQ σ (mS2.rf σ), fun c => absurd rfl c⟩
  · rw [if_neg (fun z => h1 z.1)] at hQ
    rw [if_neg h1]
    exact ⟨by decide, fun _ => hQ σ (mS2.rf σ), fun c => absurd rfl c⟩
-- roots forgotten by chance
def fg_1 (x set : Nat) : Nat → Nat
  | 0 => 1
  | r + 1 => fg_1 x set r * (if set.testBit r = true then 10 - x else x)
theorem fg_1_congr {x s t : Nat} : ∀ (R : Nat), (∀ r, r < R → s.testBit r = t.testBit r) → fg_1 x s R = fg_1 x t R
  | 0, _ => rfl
  | R + 1, h => by rw [fg_1, fg_1, fg_1_congr R (fun r hr => h r (by omega)), h R (by omega)]
theorem gq_sm_shift {F : Nat → Nat} (a b : Nat) : gq_sm F (a + b) = gq_sm F a + gq_sm (fun w => F (a + w)) b := by
  induction b with
  | zero => rfl
  | succ b ih => rw [← Nat.add_assoc, gq_sm, ih, gq_sm]; omega
theorem gq_sm_mul {F : Nat → Nat} (c N : Nat) : gq_sm (fun w => F w * c) N = gq_sm F N * c := by
  induction N with
  | zero => simp [gq_sm]
  | succ k ih => simp only [gq_sm, ih, Nat.add_mul]
theorem fg_sum {x : Nat} (hx : x ≤ 10) : ∀ (R : Nat), gq_sm (fun s => fg_1 x s R) (2 ^ R) = 10 ^ R
  | 0 => rfl
  | R + 1 => by
    have h1 : gq_sm (fun s => fg_1 x s (R + 1)) (2 ^ R) = gq_sm (fun s => fg_1 x s R * x) (2 ^ R) := gq_sm_congr (fun s hs => by
      rw [fg_1, Nat.testBit_lt_two_pow hs]
      simp)
    have h2 : gq_sm (fun s => fg_1 x (2 ^ R + s) (R + 1)) (2 ^ R) = gq_sm (fun s => fg_1 x s R * (10 - x)) (2 ^ R) := gq_sm_congr (fun s hs => by
      have e1 : (2 ^ R + s).testBit R = true := by
        rw [Nat.testBit_two_pow_add_eq, Nat.testBit_lt_two_pow hs]
        rfl
      rw [fg_1, e1, if_pos rfl]
      congr 1
      refine fg_1_congr R (fun r hr => ?_)
      rw [Nat.testBit_two_pow_add_gt hr])
    rw [Nat.pow_succ, Nat.mul_two, gq_sm_shift, h1, h2, gq_sm_mul, gq_sm_mul, fg_sum hx R, Nat.pow_succ, ← Nat.mul_add]
    congr 1
    omega
theorem fg_1_le {x : Nat} (hx : x ≤ 10) (s : Nat) : ∀ (R : Nat), fg_1 x s R ≤ 10 ^ R
  | 0 => Nat.le_refl _
  | R + 1 => by
    rw [fg_1, Nat.pow_succ]
    refine Nat.mul_le_mul (fg_1_le hx s R) ?_
    split <;> omega
theorem gq_sm_le {F G : Nat → Nat} {N : Nat} (h : ∀ w, w < N → F w ≤ G w) : gq_sm F N ≤ gq_sm G N := by
  induction N with
  | zero => exact Nat.le_refl _
  | succ k ih => exact Nat.add_le_add (ih (fun w hw => h w (by omega))) (h k (by omega))
theorem gq_sm_mono {F : Nat → Nat} {a b : Nat} (h : a ≤ b) : gq_sm F a ≤ gq_sm F b := by
  obtain ⟨c, rfl⟩ := Nat.le.dest h
  rw [gq_sm_shift]
  omega
def fg_F (D : gq_D) (k x s : Nat) : Nat := if dA D s.testBit k = [] then 0 else fg_1 x s D.1.1
theorem fg_le {D : gq_D} {k x : Nat} (hx : x ≤ 10) (h8 : D.1.1 ≤ 8) : gq_sm (fg_F D k x) (2 ^ D.1.1) ≤ 100000000 := by
  have h1 : gq_sm (fg_F D k x) (2 ^ D.1.1) ≤ gq_sm (fun s => fg_1 x s D.1.1) (2 ^ D.1.1) := gq_sm_le (fun s _ => by unfold fg_F; split <;> omega)
  rw [fg_sum hx] at h1
  exact Nat.le_trans h1 (Nat.le_trans (Nat.pow_le_pow_right (by omega) h8) (by decide))
def sp_forgotten (D : gq_D) (k x part : Int) : Int := if (0 ≤ k ∧ k < D.2.1) ∧ (0 ≤ x ∧ x ≤ 10) ∧ 0 ≤ part ∧ part ≤ 1 then sp_low (gq_sm (fg_F D k.toNat x.toNat) (2 ^ D.1.1)) (10 ^ D.1.1) part else -1
theorem mo_forgotten {E : av_E} {σ : av_M} {Q : Option av_V → av_M → Prop} {D : gq_D} {k x part : Int} (h : mD σ D) (hk : rg k) (hx : rg x) (hp : rg part) (hQ : ∀ σ', mS2 σ σ' → Q (some (av_i (sp_forgotten D k x part))) σ') : av_C E mSH mX5_forgotten [av_r 0, av_i k, av_i x, av_i part] σ Q := by
  apply uX5_forgotten
  unfold sp_forgotten at hQ
  refine s_isReader h hk ⟨_, rfl, ?_⟩
  by_cases h1 : 0 ≤ k ∧ k < D.2.1
  · rw [if_pos h1]
    refine ⟨by decide, fun c => absurd c (by decide), fun _ => s_in hx (by decide) (by decide) ⟨_, rfl, ?_⟩⟩
    by_cases h2 : 0 ≤ x ∧ x ≤ 10
    · rw [if_pos h2]
      refine ⟨by decide, fun c => absurd c (by decide), fun _ => s_in hp (by decide) (by decide) ⟨_, rfl, ?_⟩⟩
      by_cases h3 : 0 ≤ part ∧ part ≤ 1
      · rw [if_pos ⟨h1, h2, h3⟩] at hQ
        rw [if_pos h3]
        obtain ⟨q, rfl⟩ := Int.eq_ofNat_of_zero_le h1.1
        obtain ⟨x, rfl⟩ := Int.eq_ofNat_of_zero_le h2.1
        rw [Int.toNat_natCast, Int.toNat_natCast] at hQ
        have hR8 := h.1.1.1
        have hR0 := h.2.1.2.1
        have hx10 : x ≤ 10 := by omega
        have h10 : 10 ^ D.1.1 ≤ 100000000 := Nat.le_trans (Nat.pow_le_pow_right (by omega) hR8) (by decide)
        have h10p : 0 < 10 ^ D.1.1 := Nat.pow_pos (by omega)
        have hpw := pw_R hR8
        have h2p : 0 < 2 ^ D.1.1 := Nat.two_pow_pos _
        have esh : i_shl 1 (D.1.1 : Int) = ((2 ^ D.1.1 : Nat) : Int) := by
          have := bt_shl (a := 1) (k := D.1.1) (by omega) (by omega)
          rw [Nat.one_mul] at this
          exact this
        refine ⟨by decide, fun _ => ?_, fun c => absurd c (by decide)⟩
        have outer : ∀ (t s : Nat) (τ : av_M), 2 ^ D.1.1 - s = t → s ≤ 2 ^ D.1.1 → mS2 σ τ → av_W E mSH mX5_forgotten 63 [some (av_r 0), some (av_i (q : Int)), some (av_i (x : Int)), some (av_i part), some (av_i (gq_sm (fg_F D q x) s : Nat)), some (av_i ((10 ^ D.1.1 : Nat) : Int)), some (av_i (s : Int)), none, none] [] τ Q := by
          intro t
          induction t with
          | zero =>
            intro s τ ht hs S'
            have hss : s = 2 ^ D.1.1 := by omega
            have hfl := fg_le (D := D) (k := q) hx10 hR8
            apply uX5_forgotten_63
            rw [(h.s2 S').2.1.2.1, esh]
            refine ⟨by omega, by omega, fun _ => ?_, fun c => by omega⟩
            rw [hss]
            exact s_lowest (by omega) (by omega) hp ⟨_, rfl, hQ τ S'⟩
          | succ t ih =>
            intro s τ ht hs S'
            apply uX5_forgotten_63
            rw [(h.s2 S').2.1.2.1, esh]
            refine ⟨by omega, by omega, fun c => by omega, fun _ => ?_⟩
            have e3 : (s : Int) + 1 = ((s + 1 : Nat) : Int) := by omega
            have inner : ∀ (u r : Nat), D.1.1 - r = u → r ≤ D.1.1 → av_W E mSH mX5_forgotten 80 [some (av_r 0), some (av_i (q : Int)), some (av_i (x : Int)), some (av_i part), some (av_i (gq_sm (fg_F D q x) s : Nat)), some (av_i ((10 ^ D.1.1 : Nat) : Int)), some (av_i (s : Int)), some (av_i (fg_1 x s r : Nat)), some (av_i (r : Int))] [] τ Q := by
              intro u
              induction u with
              | zero =>
                intro r hu hr
                have hrr : r = D.1.1 := by omega
                subst hrr
                have hle := fg_1_le hx10 s D.1.1
                have as : gq_sm (fg_F D q x) (s + 1) = gq_sm (fg_F D q x) s + fg_F D q x s := rfl
                apply uX5_forgotten_80
                rw [(h.s2 S').2.1.2.1, e3]
                refine ⟨by omega, by omega, fun _ => ⟨by omega, fun c => ?_, fun c => ?_⟩, fun c => by omega⟩
                · have := ih (s + 1) τ (by omega) (by omega) S'
                  have ez : fg_F D q x s = 0 := by unfold fg_F; split <;> omega
                  rw [as, ez, Int.natCast_add] at this
                  exact this
                · refine s_isReadable (h.s2 S') (by omega) (by omega) (fun τ2 S2 => ⟨_, rfl, ?_⟩)
                  have := ih (s + 1) τ2 (by omega) (by omega) (S'.tr S2)
                  rw [as, Int.natCast_add] at this
                  by_cases hz : dA D s.testBit q = []
                  · rw [if_pos hz]
                    have ez : fg_F D q x s = 0 := by unfold fg_F; rw [if_pos hz]
                    rw [ez] at this
                    exact ⟨by decide, fun _ => this, fun c => absurd rfl c⟩
                  · rw [if_neg hz]
                    have ez : fg_F D q x s = fg_1 x s D.1.1 := by unfold fg_F; rw [if_neg hz]
                    rw [ez] at this
                    exact ⟨by decide, fun c => absurd c (by decide), fun _ => this⟩
              | succ u ih2 =>
                intro r hu hr
                apply uX5_forgotten_80
                have e4 : (r : Int) + 1 = ((r + 1 : Nat) : Int) := by omega
                have e5 : (10 : Int) - (x : Int) = ((10 - x : Nat) : Int) := by omega
                rw [(h.s2 S').2.1.2.1, e4, e5]
                refine ⟨by omega, by omega, fun c => by omega, fun _ => s_has (by omega) (by omega) ⟨_, rfl, ?_⟩⟩
                have := ih2 (r + 1) (by omega) (by omega)
                have ef : fg_1 x s (r + 1) = fg_1 x s r * (if s.testBit r = true then 10 - x else x) := rfl
                rw [ef, Int.natCast_mul] at this
                by_cases hb : s.testBit r = true
                · rw [if_pos hb] at this ⊢
                  exact ⟨by decide, fun c => absurd c (by decide), fun _ => this⟩
                · rw [if_neg hb] at this ⊢
                  exact ⟨by decide, fun _ => this, fun c => absurd rfl c⟩
            exact inner _ 0 rfl (Nat.zero_le _)
        have pre : ∀ (u r : Nat), D.1.1 - r = u → r ≤ D.1.1 → av_W E mSH mX5_forgotten 38 [some (av_r 0), some (av_i (q : Int)), some (av_i (x : Int)), some (av_i part), some (av_i 0), some (av_i ((10 ^ r : Nat) : Int)), some (av_i (r : Int)), none, none] [] σ Q := by
          intro u
          induction u with
          | zero =>
            intro r hu hr
            have hrr : r = D.1.1 := by omega
            subst hrr
            apply uX5_forgotten_38
            rw [hR0]
            exact ⟨by omega, by omega, fun _ => outer _ 0 σ rfl (Nat.zero_le _) (mS2.rf σ), fun c => by omega⟩
          | succ u ih =>
            intro r hu hr
            apply uX5_forgotten_38
            have e4 : (r : Int) + 1 = ((r + 1 : Nat) : Int) := by omega
            have e5 : ((10 ^ r : Nat) : Int) * 10 = ((10 ^ (r + 1) : Nat) : Int) := by rw [Nat.pow_succ]; omega
            rw [hR0, e4, e5]
            exact ⟨by omega, by omega, fun c => by omega, fun _ => ih (r + 1) (by omega) (by omega)⟩
        exact pre _ 0 rfl (Nat.zero_le _)
      · rw [if_neg (fun z => h3 z.2.2)] at hQ
        rw [if_neg h3]
        exact ⟨by decide, fun c => absurd rfl c, fun _ => hQ σ (mS2.rf σ)⟩
    · rw [if_neg (fun z => h2 z.2.1)] at hQ
      rw [if_neg h2]
      exact ⟨by decide, fun _ => hQ σ (mS2.rf σ), fun c => absurd rfl c⟩
  · rw [if_neg (fun z => h1 z.1)] at hQ
    rw [if_neg h1]
    exact ⟨by decide, fun _ => hQ σ (mS2.rf σ), fun c => absurd rfl c⟩
