/-! the class: roots forgotten by chance; walls -/
def bc_e (a1 : Int) : Int := i_and (((i_and (((i_and (a1 - (i_and (i_ushr a1 1) 1431655765)) 858993459) + (i_and (i_ushr (a1 - (i_and (i_ushr a1 1) 1431655765)) 2) 858993459)) + (i_ushr ((i_and (a1 - (i_and (i_ushr a1 1) 1431655765)) 858993459) + (i_and (i_ushr (a1 - (i_and (i_ushr a1 1) 1431655765)) 2) 858993459)) 4)) 252645135) + (i_ushr (i_and (((i_and (a1 - (i_and (i_ushr a1 1) 1431655765)) 858993459) + (i_and (i_ushr (a1 - (i_and (i_ushr a1 1) 1431655765)) 2) 858993459)) + (i_ushr ((i_and (a1 - (i_and (i_ushr a1 1) 1431655765)) 858993459) + (i_and (i_ushr (a1 - (i_and (i_ushr a1 1) 1431655765)) 2) 858993459)) 4)) 252645135) 8)) + (i_ushr ((i_and (((i_and (a1 - (i_and (i_ushr a1 1) 1431655765)) 858993459) + (i_and (i_ushr (a1 - (i_and (i_ushr a1 1) 1431655765)) 2) 858993459)) + (i_ushr ((i_and (a1 - (i_and (i_ushr a1 1) 1431655765)) 858993459) + (i_and (i_ushr (a1 - (i_and (i_ushr a1 1) 1431655765)) 2) 858993459)) 4)) 252645135) + (i_ushr (i_and (((i_and (a1 - (i_and (i_ushr a1 1) 1431655765)) 858993459) + (i_and (i_ushr (a1 - (i_and (i_ushr a1 1) 1431655765)) 2) 858993459)) + (i_ushr ((i_and (a1 - (i_and (i_ushr a1 1) 1431655765)) 858993459) + (i_and (i_ushr (a1 - (i_and (i_ushr a1 1) 1431655765)) 2) 858993459)) 4)) 252645135) 8)) 16)) 63
def fg_b (s : Nat) : Nat → Nat
  | 0 => 0
  | r + 1 => fg_b s r + (if s.testBit r = true then 1 else 0)
theorem bc_8 : ∀ n : Fin 256, bc_e ((n : Nat) : Int) = ((fg_b (n : Nat) 8 : Nat) : Int) := by decide +kernel
theorem fg_b_le (s : Nat) : ∀ r, fg_b s r ≤ r
  | 0 => Nat.le_refl _
  | r + 1 => by
    have := fg_b_le s r
    rw [fg_b]
    split <;> omega
theorem fg_b_R {s R : Nat} (hs : s < 2 ^ R) : ∀ k, fg_b s (R + k) = fg_b s R
  | 0 => rfl
  | k + 1 => by
    have h : s.testBit (R + k) = false := Nat.testBit_lt_two_pow (Nat.lt_of_lt_of_le hs (Nat.pow_le_pow_right (by omega) (by omega)))
    rw [← Nat.add_assoc, fg_b, fg_b_R hs k, h, if_neg (by decide), Nat.add_zero]
theorem fg_1_b (x s : Nat) : ∀ R, fg_1 x s R = (10 - x) ^ fg_b s R * x ^ (R - fg_b s R)
  | 0 => rfl
  | R + 1 => by
    have h := fg_b_le s R
    rw [fg_1, fg_b, fg_1_b x s R]
    by_cases c : s.testBit R = true
    · rw [if_pos c, if_pos c, show R + 1 - (fg_b s R + 1) = R - fg_b s R by omega, Nat.pow_succ, Nat.mul_right_comm]
    · rw [if_neg c, if_neg c, Nat.add_zero, show R + 1 - fg_b s R = (R - fg_b s R) + 1 by omega, Nat.pow_succ, Nat.mul_assoc]
theorem c_bitCount {E : av_E} {σ : av_M} {Q : Option av_V → av_M → Prop} {s : Nat} (hs : s < 256) (hQ : Q (some (av_i (fg_b s 8 : Nat))) σ) : av_C E cSH mJ6_bitCount_0f7a4 [av_i (s : Int)] σ Q := by
  apply uJ6_bitCount_0f7a4
  have h : bc_e (s : Int) = ((fg_b s 8 : Nat) : Int) := bc_8 ⟨s, hs⟩
  rw [← h] at hQ
  exact hQ
theorem c_power {E : av_E} {σ : av_M} {Q : Option av_V → av_M → Prop} {b n : Nat} (hb : b < 2147483648) (hn : n < 2147483648) (hQ : Q (some (av_l ((b ^ n : Nat) : Int))) σ) : av_C E cSH mX4_power [av_i (b : Int), av_i (n : Int)] σ Q := by
  apply uX4_power
  have key : ∀ (t i : Nat), i + t = n → av_W E cSH mX4_power 5 [some (av_i (b : Int)), some (av_i (n : Int)), some (av_l ((b ^ i : Nat) : Int)), none, some (av_i (i : Int))] [] σ Q := by
    intro t
    induction t with
    | zero =>
      intro i hi
      apply uX4_power_5
      have : i = n := by omega
      subst this
      exact ⟨by omega, by omega, fun _ => hQ, fun c => by omega⟩
    | succ t ih =>
      intro i hi
      apply uX4_power_5
      have := ih (i + 1) (by omega)
      rw [Nat.pow_succ, Int.natCast_mul] at this
      exact ⟨by omega, by omega, fun c => by omega, fun _ => ⟨by unfold rg; omega, this⟩⟩
  exact key n 0 (by omega)
theorem c_oddsOf {E : av_E} {σ : av_M} {Q : Option av_V → av_M → Prop} {g : gq_T} {s x : Nat} (V : gq_V g) (h8 : σ 3 8 = (g.1 : Int)) (hs : s < 2 ^ g.1) (hx : x ≤ 10) (hQ : Q (some (av_l (fg_1 x s g.1 : Nat))) σ) : av_C E cSH mX4_oddsOf [av_r 0, av_i (s : Int), av_i (x : Int)] σ Q := by
  apply uX4_oddsOf
  have hR := V.1
  have h256 : 2 ^ g.1 ≤ 256 := Nat.le_trans (Nat.pow_le_pow_right (by omega) hR) (by decide)
  have eb : fg_b s 8 = fg_b s g.1 := by
    have := fg_b_R hs (8 - g.1)
    rw [show g.1 + (8 - g.1) = 8 by omega] at this
    exact this
  have hl := fg_b_le s g.1
  refine c_bitCount (by omega) ⟨_, rfl, c_bitCount (by omega) ⟨_, rfl, ?_⟩⟩
  rw [eb, h8, show (10 : Int) - (x : Int) = ((10 - x : Nat) : Int) by omega, show (g.1 : Int) - ((fg_b s g.1 : Nat) : Int) = ((g.1 - fg_b s g.1 : Nat) : Int) by omega]
  refine c_power (by omega) (by omega) ⟨_, rfl, c_power (by omega) (by omega) ⟨_, rfl, ?_⟩⟩
  rw [← Int.natCast_mul, ← fg_1_b]
  exact hQ
theorem c_wordsOfRoots {E : av_E} {σ : av_M} {Q : Option av_V → av_M → Prop} {g : gq_T} {s : Nat} (V : gq_V g) (h8 : σ 3 8 = (g.1 : Int)) (hs : s < 2 ^ 31) (hQ : ∀ m : Nat, m < 65536 → (∀ w, w < 2 * g.1 → s.testBit (w / 2) = m.testBit w) → Q (some (av_i (m : Int))) σ) : av_C E cSH mX4_wordsOfRoots [av_r 0, av_i (s : Int)] σ Q := by
  apply uX4_wordsOfRoots
  have hR := V.1
  have key : ∀ (t i m : Nat), i + t = g.1 → m < 65536 → (∀ w, w < 16 → m.testBit w = (decide (w / 2 < i) && s.testBit (w / 2))) → av_W E cSH mX4_wordsOfRoots 4 [some (av_r 0), some (av_i (s : Int)), some (av_i (m : Int)), some (av_i (i : Int))] [] σ Q := by
    intro t
    induction t with
    | zero =>
      intro i m hi hm hb
      apply uX4_wordsOfRoots_4
      rw [h8]
      refine ⟨by omega, by omega, fun _ => hQ m hm (fun w hw => ?_), fun c => by omega⟩
      rw [hb w (by omega), show decide (w / 2 < i) = true from decide_eq_true (by omega), Bool.true_and]
    | succ t ih =>
      intro i m hi hm hb
      apply uX4_wordsOfRoots_4
      rw [h8, show (i : Int) + 1 = ((i + 1 : Nat) : Int) by omega]
      refine ⟨by omega, by omega, fun c => by omega, fun _ => c_holds hs (by omega) ⟨_, rfl, by split <;> decide, fun c => ?_, fun c => ?_⟩⟩
      · have hbit : s.testBit i = false := by
          cases hh : s.testBit i
          · rfl
          · rw [hh] at c; simp at c
        rw [show (0 : Int) = ((0 : Nat) : Int) from rfl, bt_or (by omega) (by omega), Nat.or_zero]
        refine ih (i + 1) m (by omega) hm (fun w hw => ?_)
        rw [hb w hw]
        by_cases hwi : w / 2 = i
        · rw [hwi, hbit, Bool.and_false, Bool.and_false]
        · rw [show decide (w / 2 < i + 1) = decide (w / 2 < i) from by rw [decide_eq_decide]; omega]
      · have hbit : s.testBit i = true := by
          cases hh : s.testBit i
          · rw [hh] at c; simp at c
          · rfl
        apply uX4_wordsOfRoot
        refine ⟨_, rfl, ?_⟩
        have hlt : 3 * 2 ^ (2 * i) < 65536 := wr_3lt ⟨i, by omega⟩
        rw [wr_shl (by omega), bt_or (by omega) (by omega)]
        refine ih (i + 1) _ (by omega) (Nat.or_lt_two_pow (n := 16) hm hlt) (fun w hw => ?_)
        have h3 : Nat.testBit (3 * 2 ^ (2 * i)) w = decide (w / 2 = i) := wr_3 ⟨i, by omega⟩ ⟨w, hw⟩
        rw [Nat.testBit_or, hb w hw, h3]
        by_cases hwi : w / 2 = i
        · rw [hwi, hbit]
          simp
        · rw [show decide (w / 2 < i + 1) = decide (w / 2 < i) from by rw [decide_eq_decide]; omega]
          simp [hwi]
  exact key g.1 0 0 (by omega) (by omega) (fun w _ => by simp)
theorem co_forgotten {E : av_E} {σ : av_M} {Q : Option av_V → av_M → Prop} {T : Nat} {S : q_S} {k x part : Int} (h : cRM σ S) (V : q_V T S) (hk : rg k) (hx : rg x) (hp : rg part) (hQ : ∀ σ', cGf σ σ' → Q (some (av_i (sp_forgotten (q_D S) k x part))) σ') : av_C E cSH mX4_forgotten [av_r 0, av_i k, av_i x, av_i part] σ Q := by
  apply uX4_forgotten
  unfold sp_forgotten at hQ
  have e0 : (q_D S).2.1 = S.1.2.1 := rfl
  have e1 : (q_D S).1 = S.1.1 := rfl
  have h5 := V.1.2.2.1
  have h8 := V.1.1.1
  rw [e0, e1] at hQ
  refine c_isRd h V hk (fun hn => ⟨_, rfl, by decide, fun _ => ?_, fun c => absurd rfl c⟩) (fun hy => ⟨_, rfl, by decide, fun c => absurd c (by decide), fun _ => ⟨hx, fun c => ?_, fun c => ⟨hx, fun d => ?_, fun d => c_isPart hp (fun hn => ⟨_, rfl, by decide, fun c => absurd rfl c, fun _ => ?_⟩) (fun hpp => ⟨_, rfl, by decide, fun _ => ⟨by omega, ?_⟩, fun c => absurd c (by decide)⟩)⟩⟩⟩)
  · rw [if_neg (fun q => hn q.1)] at hQ; exact hQ σ (cGf.rf σ)
  · rw [if_neg (by omega)] at hQ; exact hQ σ (cGf.rf σ)
  · rw [if_neg (by omega)] at hQ; exact hQ σ (cGf.rf σ)
  · rw [if_neg (by omega)] at hQ; exact hQ σ (cGf.rf σ)
  obtain ⟨k, rfl⟩ := Int.eq_ofNat_of_zero_le hy.1
  obtain ⟨x, rfl⟩ := Int.eq_ofNat_of_zero_le c
  rw [if_pos ⟨hy, ⟨c, d⟩, by omega⟩, Int.toNat_natCast, Int.toNat_natCast] at hQ
  have hkl : k < S.1.2.1 := by omega
  have hvk := (V.1.2.2.2 k hkl).1
  have hkd : σ 8 (k : Int).toNat = (((S.1.2.2 (3 * k)).toNat : Nat) : Int) := by
    rw [Int.toNat_natCast, show σ 8 k = S.1.2.2 (3 * k) from (h.1.2.2.2.1 k hkl).1]
    omega
  rw [h.wr, hkd]
  have h256 : 2 ^ S.1.1.1 ≤ 256 := Nat.le_trans (Nat.pow_le_pow_right (by omega) h8) (by decide)
  have hle : gq_sm (fg_F (q_D S) k x) (2 ^ S.1.1.1) ≤ 100000000 := fg_le (D := q_D S) (k := k) (x := x) (by omega) h8
  obtain ⟨N, hN⟩ : ∃ N, 2 ^ S.1.1.1 = N := ⟨_, rfl⟩
  rw [hN] at h256 hle hQ
  refine c_take V.1.1 h.1 (by omega) (by have := V.wr.1; omega) V.wr.2.2 V.wr.2.1 (fun σ1 F1 G1 => ⟨rfl, ?_⟩)
  have key : ∀ (t i : Nat) (τ : av_M), i + t = N → cGf σ τ → cGS τ S k → av_W E cSH mX4_forgotten 55 [some (av_r 0), some (av_i (k : Int)), some (av_i (x : Int)), some (av_i part), some (av_l (gq_sm (fg_F (q_D S) k x) i : Nat)), none, some (av_i (i : Int))] [] τ Q := by
    intro t
    induction t with
    | zero =>
      intro i τ hi F G
      apply uX4_forgotten_55
      have : i = N := by omega
      subst this
      rw [(h.gf F).1.1, i_shl1 (by omega), hN]
      refine ⟨by omega, by omega, fun _ => ?_, fun c => by omega⟩
      have h10 : 10 ^ S.1.1.1 ≤ 100000000 := Nat.le_trans (Nat.pow_le_pow_right (by omega) h8) (by decide)
      have h10p : 0 < 10 ^ S.1.1.1 := Nat.pow_pos (by omega)
      refine c_power (b := 10) (by omega) (by omega) ⟨_, rfl, c_low (Nat.lt_of_le_of_lt hle (by omega)) (by omega) hpp ⟨_, rfl, ?_⟩⟩
      rw [if_neg (by omega)]
      exact hQ τ F
    | succ t ih =>
      intro i τ hi F G
      apply uX4_forgotten_55
      have nx := fun τ' F' G' => ih (i + 1) τ' (by omega) F' G'
      simp only [gq_sm] at nx
      rw [(h.gf F).1.1, i_shl1 (by omega), hN, show (i : Int) + 1 = ((i + 1 : Nat) : Int) by omega]
      refine ⟨by omega, by omega, fun c => by omega, fun _ => ?_⟩
      refine c_wordsOfRoots V.1.1 (h.gf F).1.1 (by omega) (fun m hm hb => ⟨_, rfl, ?_⟩)
      refine c_tallyP (S := S) (P := i.testBit) V hkl G hm hb (fun σ2 F2 G2 => ⟨_, rfl, ?_⟩)
      have few2 : (dA (q_D S) i.testBit k).length ≤ 10077696 := dA_few (q_DV V) _ k
      refine ⟨by unfold rg; omega, fun c => ?_, fun c => ?_⟩
      · have hn := nx σ2 (F.tr F2) G2
        have e : fg_F (q_D S) k x i = 0 := by unfold fg_F; rw [if_pos (List.length_eq_zero_iff.mp (by omega))]
        rw [e, Nat.add_zero] at hn
        exact hn
      · have hn := nx σ2 (F.tr F2) G2
        have e : fg_F (q_D S) k x i = fg_1 x i S.1.1.1 := by unfold fg_F; rw [if_neg (fun q => by rw [q] at c; simp at c)]; rfl
        rw [e, Int.natCast_add] at hn
        exact c_oddsOf V.1.1 (h.gf (F.tr F2)).1.1 (by rw [hN]; omega) (by omega) ⟨_, rfl, hn⟩
  exact key N 0 σ1 (by omega) F1 G1
-- walls
theorem c_rowOfWall {E : av_E} {σ : av_M} {Q : Option av_V → av_M → Prop} {z i : Nat} (hz : z ≤ 9999) (hi : i < 40) (hQ : ∀ w : Nat, rw_nu (wl_row (wl_dr z i / 4)) (1 + wl_dr z i % 4) = (w : Int) → Q (some (av_i (w : Int))) σ) : av_C E cSH mX4_rowOfWall [av_i (z : Int), av_i (i : Int)] σ Q := by
  apply uX4_rowOfWall
  have hxx := wl_x_lt hz hi
  have ex : (((7919 * (z : Int)) + (6151 * (i : Int))) + 1) = (wl_x z i : Int) := by unfold wl_x; omega
  have exx : (wl_x z i : Int) * (wl_x z i : Int) = ((wl_x z i * wl_x z i : Nat) : Int) := (Int.natCast_mul _ _).symm
  have ed : ((wl_x z i * wl_x z i : Nat) : Int) % 65521 = (wl_dr z i : Int) := by unfold wl_dr; omega
  have hdr : wl_dr z i < 65521 := Nat.mod_lt _ (by omega)
  have e4 : (wl_dr z i : Int) / 4 = ((wl_dr z i / 4 : Nat) : Int) := by omega
  have e5 : 1 + (wl_dr z i : Int) % 4 = ((1 + wl_dr z i % 4 : Nat) : Int) := by omega
  rw [ex, exx, ed, e4, e5]
  refine ⟨by unfold rg; omega, by unfold rg; omega, by omega, by omega, by omega, ?_⟩
  have hrow : ∀ j, 0 ≤ wl_row (wl_dr z i / 4) j ∧ wl_row (wl_dr z i / 4) j ≤ 4 := fun j => by unfold wl_row; omega
  have key : ∀ (t j : Nat), j + t = 1 + wl_dr z i % 4 → av_W E cSH mX4_rowOfWall 46 [some (av_i (z : Int)), some (av_i (i : Int)), some (av_l (wl_x z i : Int)), none, some (av_i (wl_dr z i : Int)), some (av_i ((1 + wl_dr z i % 4 : Nat) : Int)), some (av_i ((wl_dr z i / 4 / 5 ^ j : Nat) : Int)), some (av_i (rw_nu (wl_row (wl_dr z i / 4)) j)), some (av_i (j : Int))] [] σ Q := by
    intro t
    induction t with
    | zero =>
      intro j hj
      apply uX4_rowOfWall_46
      have e : j = 1 + wl_dr z i % 4 := by omega
      obtain ⟨w, hw⟩ := Int.eq_ofNat_of_zero_le (rw_nu_nn (1 + wl_dr z i % 4) (fun u _ => hrow u))
      refine ⟨by omega, by omega, fun _ => ?_, fun c => by omega⟩
      rw [e, hw]
      exact hQ w hw
    | succ t ih =>
      intro j hj
      apply uX4_rowOfWall_46
      have hle : wl_dr z i / 4 / 5 ^ j ≤ wl_dr z i / 4 := Nat.div_le_self _ _
      have nx := ih (j + 1) (by omega)
      obtain ⟨u, hu⟩ : ∃ u, wl_dr z i / 4 / 5 ^ j = u := ⟨_, rfl⟩
      have e6 : wl_dr z i / 4 / 5 ^ (j + 1) = u / 5 := by rw [Nat.pow_succ, ← Nat.div_div_eq_div_mul, hu]
      have e7 : rw_nu (wl_row (wl_dr z i / 4)) j * 6 + (u : Int) % 5 + 1 = rw_nu (wl_row (wl_dr z i / 4)) (j + 1) := by
        rw [rw_nu]
        have : wl_row (wl_dr z i / 4) j = ((u % 5 : Nat) : Int) := by
          unfold wl_row
          rw [hu]
        rw [this]
        omega
      rw [e6] at nx
      rw [hu] at hle ⊢
      rw [e7, show (j : Int) + 1 = ((j + 1 : Nat) : Int) by omega, show (u : Int) / 5 = ((u / 5 : Nat) : Int) by omega]
      exact ⟨by omega, by omega, fun c => by omega, fun _ => ⟨by omega, by omega, nx⟩⟩
  have := key (1 + wl_dr z i % 4) 0 (by omega)
  rw [Nat.pow_zero, Nat.div_one] at this
  exact this
theorem co_walls {E : av_E} {σ : av_M} {Q : Option av_V → av_M → Prop} {T : Nat} {S : q_S} {z n k w : Int} (h : cRM σ S) (V : q_V T S) (hz : rg z) (hn : rg n) (hk : rg k) (hw : rg w) (hQ : ∀ σ', cGf σ σ' → Q (some (av_i (sp_walls (q_D S) z n k w))) σ') : av_C E cSH mX4_walls [av_r 0, av_i z, av_i n, av_i k, av_i w] σ Q := by
  apply uX4_walls
  unfold sp_walls at hQ
  have e0 : (q_D S).2.1 = S.1.2.1 := rfl
  rw [e0] at hQ
  refine ⟨hz, fun c => ?_, fun c1 => ⟨hz, fun c => ?_, fun c2 => ⟨hn, fun c => ?_, fun c3 => ⟨hn, fun c => ?_, fun c4 => c_isRd h V hk (fun hne => ⟨_, rfl, by decide, fun _ => ?_, fun c => absurd rfl c⟩) (fun hy => ⟨_, rfl, by decide, fun c => absurd c (by decide), fun _ => ⟨hw, fun c => ?_, fun c5 => ⟨hw, fun c6 => ?_, fun c => ?_⟩⟩⟩)⟩⟩⟩⟩
  · rw [if_neg (by omega)] at hQ; exact hQ σ (cGf.rf σ)
  · rw [if_neg (by omega)] at hQ; exact hQ σ (cGf.rf σ)
  · rw [if_neg (by omega)] at hQ; exact hQ σ (cGf.rf σ)
  · rw [if_neg (by omega)] at hQ; exact hQ σ (cGf.rf σ)
  · rw [if_neg (fun q => hne q.2.2.1)] at hQ; exact hQ σ (cGf.rf σ)
  · rw [if_neg (by omega)] at hQ; exact hQ σ (cGf.rf σ)
  rotate_left
  · rw [if_neg (by omega)] at hQ; exact hQ σ (cGf.rf σ)
  obtain ⟨z, rfl⟩ := Int.eq_ofNat_of_zero_le c1
  obtain ⟨n, rfl⟩ := Int.eq_ofNat_of_zero_le (show 0 ≤ n by omega)
  obtain ⟨k, rfl⟩ := Int.eq_ofNat_of_zero_le hy.1
  rw [if_pos ⟨⟨c1, c2⟩, ⟨c3, c4⟩, hy, c5, c6⟩, Int.toNat_natCast, Int.toNat_natCast, Int.toNat_natCast] at hQ
  have key : ∀ (t i : Nat) (τ : av_M), i + t = n → cGf σ τ → av_W E cSH mX4_walls 52 [some (av_r 0), some (av_i (z : Int)), some (av_i (n : Int)), some (av_i (k : Int)), some (av_i w), some (av_i (gq_sm (fun i => if wl_A (q_D S) k z i = [] then 0 else 1) i : Nat)), some (av_i (gq_sm (fun i => (wl_A (q_D S) k z i).length) i : Nat)), some (av_i (i : Int)), none] [] τ Q := by
    intro t
    induction t with
    | zero =>
      intro i τ hi F
      apply uX4_walls_52
      have : i = n := by omega
      subst this
      have hQ' := hQ τ F
      refine ⟨by omega, by omega, fun _ => ⟨hw, fun c => ?_, fun c => ?_⟩, fun c => by omega⟩
      · rw [if_neg c] at hQ'; exact hQ'
      · rw [if_pos c] at hQ'; exact hQ'
    | succ t ih =>
      intro i τ hi F
      apply uX4_walls_52
      rw [show (i : Int) + 1 = ((i + 1 : Nat) : Int) by omega]
      refine ⟨by omega, by omega, fun c => by omega, fun _ => c_rowOfWall (by omega) (by omega) (fun row hrow => ⟨_, rfl, ?_⟩)⟩
      have hr4 : ∀ j, j < 1 + wl_dr z i % 4 → 0 ≤ wl_row (wl_dr z i / 4) j ∧ wl_row (wl_dr z i / 4) j ≤ 4 := fun j _ => by unfold wl_row; omega
      obtain ⟨hV, -, -⟩ := rw_ok hr4 (by omega) hrow
      have eA : cA S.1.1 (S.1.2.2 (3 * k)).toNat row = wl_A (q_D S) k z i := cA_of hr4 (by omega) hrow
      refine c_readingsOf V.1 (h.gf F).1 (by omega) hV (fun σ1 F1 _ => ⟨_, rfl, ?_⟩)
      have hfew : (cA S.1.1 (S.1.2.2 (3 * k)).toNat row).length ≤ 10077696 := gq_all_few V.1.1 hV.2.1
      rw [eA] at hfew ⊢
      have nx := ih (i + 1) σ1 (by omega) (F.tr F1)
      simp only [gq_sm, Int.natCast_add] at nx
      refine ⟨by unfold rg; omega, fun c => ?_, fun c => ?_⟩
      · rw [if_pos (List.length_eq_zero_iff.mp (by omega))] at nx
        exact nx
      · rw [if_neg (fun q => by rw [q] at c; simp at c)] at nx
        exact nx
  exact key n 0 σ (by omega) (cGf.rf σ)
