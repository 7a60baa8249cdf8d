/-! the class: lowest terms; belief; without -/
theorem i_cmp0 (x : Int) : rg (i_cmp x 0) ∧ (i_cmp x 0 ≤ 0 ↔ x ≤ 0) ∧ (0 < i_cmp x 0 ↔ 0 < x) ∧ (i_cmp x 0 = 0 ↔ x = 0) := by
  unfold i_cmp rg
  split
  · refine ⟨by omega, ?_, ?_, ?_⟩ <;> omega
  · split
    · refine ⟨by omega, ?_, ?_, ?_⟩ <;> omega
    · refine ⟨by omega, ?_, ?_, ?_⟩ <;> omega
theorem sp_low_0 {b : Nat} {part : Int} (hb : 0 < b) (hp : part = 0 ∨ part = 1) : sp_low 0 b part = part := by
  unfold sp_low
  rw [Nat.gcd_zero_left]
  rcases hp with rfl | rfl
  · rw [if_pos rfl, Nat.zero_div]; rfl
  · rw [if_neg (by decide), Nat.div_self hb]; rfl
theorem cl_half {s r : Nat} (h : 0 < s % r) (hr : 0 < r) : 2 * (r % (s % r)) < r := by
  have h1 := Nat.mod_lt r h
  have h2 := Nat.mod_lt s hr
  have h3 := Nat.mod_le (r - s % r) (s % r)
  have h4 : r % (s % r) = (r - s % r) % (s % r) := Nat.mod_eq_sub_mod (by omega)
  omega
theorem c_low {E : av_E} {σ : av_M} {Q : Option av_V → av_M → Prop} {a b : Nat} {part : Int} (ha : a < 2147483648) (hb : b < 2147483648) (hp : part = 0 ∨ part = 1) (hQ : Q (some (av_i (if b = 0 then part else sp_low a b part))) σ) : av_C E cSH mX4_inLowestTerms [av_l (a : Int), av_l (b : Int), av_i part] σ Q := by
  apply uX4_inLowestTerms
  obtain ⟨a1, a2, a3, -⟩ := i_cmp0 (a : Int)
  obtain ⟨b1, b2, b3, -⟩ := i_cmp0 (b : Int)
  have hpr : rg part := by unfold rg; omega
  have fin : ∀ (s : Nat), Nat.gcd s 0 = Nat.gcd a b → s < 2147483648 → 0 < b → (rg6 (s : Int)) ∧ ((rg (i_cmp (s : Int) 0)) ∧ (((¬ (i_cmp (s : Int) 0) = 0) → (rg part) ∧ (((¬ part = 0) → (0 ≤ (b : Int) ∧ (b : Int) < 9223372036854775808) ∧ ((0 < (s : Int) ∧ (s : Int) < 9223372036854775808) ∧ (Q (some (av_i ((b : Int) / (s : Int)))) σ))) ∧ ((part = 0) → (0 ≤ (a : Int) ∧ (a : Int) < 9223372036854775808) ∧ ((0 < (s : Int) ∧ (s : Int) < 9223372036854775808) ∧ (Q (some (av_i ((a : Int) / (s : Int)))) σ))))) ∧ (((i_cmp (s : Int) 0) = 0) → Q (some (av_i part)) σ))) := by
    intro s hg hs hb0
    rw [Nat.gcd_zero_right] at hg
    have hpos : 0 < Nat.gcd a b := Nat.gcd_pos_of_pos_right a hb0
    obtain ⟨s1, s2, s3, s4⟩ := i_cmp0 (s : Int)
    rw [if_neg (by omega)] at hQ
    unfold sp_low at hQ
    rw [← hg] at hQ hpos
    refine ⟨by unfold rg6; omega, s1, fun _ => ⟨hpr, fun c => ⟨by omega, by omega, ?_⟩, fun c => ⟨by omega, by omega, ?_⟩⟩, fun c => ?_⟩
    · rw [if_neg c] at hQ; exact hQ
    · rw [if_pos c] at hQ; exact hQ
    · exact absurd (s4.mp c) (by omega)
  have key : ∀ (k i s r : Nat), r < 2 ^ k → k ≤ 31 → i + 2 * k + 1 ≤ 128 → Nat.gcd s r = Nat.gcd a b → s < 2147483648 → r < 2147483648 → 0 < b → av_W E cSH mX4_inLowestTerms 24 [some (av_l (a : Int)), none, some (av_l (b : Int)), none, some (av_i part), some (av_l (s : Int)), none, some (av_l (r : Int)), none, some (av_i (i : Int)), none, none] [] σ Q := by
    intro k
    induction k with
    | zero =>
      intro i s r hr hk hi hg hs hr2 hb0
      have : r = 0 := by omega
      subst this
      apply uX4_inLowestTerms_24
      obtain ⟨r1, r2, r3, -⟩ := i_cmp0 (((0 : Nat)) : Int)
      exact ⟨by omega, fun c => by omega, fun _ => ⟨by unfold rg6; omega, r1, fun _ => fin s hg hs hb0, fun c => absurd (r3.mp c) (by omega)⟩⟩
    | succ k ih =>
      intro i s r hr hk hi hg hs hr2 hb0
      apply uX4_inLowestTerms_24
      obtain ⟨r1, r2, r3, -⟩ := i_cmp0 (r : Int)
      refine ⟨by omega, fun c => by omega, fun _ => ⟨by unfold rg6; omega, r1, fun c => ?_, fun c => ?_⟩⟩
      · have : r = 0 := by have := r2.mp c; omega
        subst this
        exact fin s hg hs hb0
      · have hr0 : 0 < r := by have := r3.mp c; omega
        have hm := Nat.mod_lt s hr0
        have hg2 : Nat.gcd r (s % r) = Nat.gcd a b := by rw [← hg, Nat.gcd_comm s, Nat.gcd_rec r s, Nat.gcd_comm]
        refine ⟨by omega, by omega, ?_⟩
        rw [← Int.natCast_emod s r, show (i : Int) + 1 = ((i + 1 : Nat) : Int) by omega]
        apply uX4_inLowestTerms_24
        obtain ⟨q1, q2, q3, -⟩ := i_cmp0 ((s % r : Nat) : Int)
        refine ⟨by omega, fun c => by omega, fun _ => ⟨by unfold rg6; omega, q1, fun d => ?_, fun d => ?_⟩⟩
        · have e : s % r = 0 := by have := q2.mp d; omega
          rw [e] at hg2
          exact fin r hg2 hr2 hb0
        · have hm0 : 0 < s % r := by have := q3.mp d; omega
          refine ⟨by omega, by omega, ?_⟩
          rw [← Int.natCast_emod r (s % r), show ((i + 1 : Nat) : Int) + 1 = ((i + 2 : Nat) : Int) by omega]
          have hh := cl_half hm0 hr0
          have hmm := Nat.mod_lt r hm0
          rw [Nat.pow_succ] at hr
          refine ih (i + 2) (s % r) (r % (s % r)) (by omega) (by omega) (by omega) ?_ (by omega) (by omega) hb0
          rw [← hg2, Nat.gcd_comm r, Nat.gcd_rec (s % r) r, Nat.gcd_comm]
  refine ⟨by unfold rg6; omega, a1, fun c => ?_, fun c => ⟨by unfold rg6; omega, b1, fun d => ?_, fun d => ?_⟩⟩
  · have a0 : a = 0 := by have := a2.mp c; omega
    subst a0
    split at hQ
    · exact hQ
    · rw [sp_low_0 (by omega) hp] at hQ
      exact hQ
  · have hb0 : 0 < b := by have := b3.mp d; omega
    exact key 31 0 a b (by omega) (by omega) (by omega) rfl ha hb hb0
  · have b0 : b = 0 := by have := b2.mp d; omega
    rw [if_pos b0] at hQ
    exact hQ
theorem c_isRd {E : av_E} {σ : av_M} {Q : Option av_V → av_M → Prop} {S : q_S} {T : Nat} {k : Int} (h : cRM σ S) (V : q_V T S) (hk : rg k) (h0 : ¬ (0 ≤ k ∧ k < S.1.2.1) → Q (some (av_i 0)) σ) (h1 : (0 ≤ k ∧ k < S.1.2.1) → Q (some (av_i 1)) σ) : av_C E cSH mX4_isReader [av_r 0, av_i k] σ Q := by
  refine c_isReader h V hk ?_
  by_cases c : 0 ≤ k ∧ k < S.1.2.1
  · rw [if_pos c]; exact h1 c
  · rw [if_neg c]; exact h0 c
theorem c_isPart {E : av_E} {σ : av_M} {Q : Option av_V → av_M → Prop} {a : Int} (ha : rg a) (h0 : ¬ (a = 0 ∨ a = 1) → Q (some (av_i 0)) σ) (h1 : (a = 0 ∨ a = 1) → Q (some (av_i 1)) σ) : av_C E cSH mX4_isPart [av_i a] σ Q := by
  apply uX4_isPart
  exact ⟨ha, fun c => h1 (Or.inl c), fun c => ⟨ha, fun d => h0 (by omega), fun d => h1 (Or.inr d)⟩⟩
-- which words say a verb
theorem c_wordsSaying {E : av_E} {σ : av_M} {Q : Option av_V → av_M → Prop} {l : gq_T × Nat × (Nat → Int)} {v : Int} (V : gq_V l.1) (h : cWd σ 3 l) (hv : rg v) (hQ : ∀ m : Nat, m < 65536 → (∀ w, m.testBit w = (decide (w / 2 < l.1.1) && decide (w % 2 = 1) && decide (l.1.2.2.2.2 (w / 2) = v))) → Q (some (av_i (m : Int))) σ) : av_C E cSH mX3_wordsSaying [av_r 3, av_i v] σ Q := by
  apply uX3_wordsSaying
  have h8 := V.1
  have key : ∀ (t i m : Nat), i + t = l.1.1 → m < 65536 → (∀ w, m.testBit w = (decide (w / 2 < i) && decide (w % 2 = 1) && decide (l.1.2.2.2.2 (w / 2) = v))) → av_W E cSH mX3_wordsSaying 4 [some (av_r 3), some (av_i v), some (av_i (m : Int)), some (av_i (i : Int))] [] σ Q := by
    intro t
    induction t with
    | zero =>
      intro i m hi hm hb
      apply uX3_wordsSaying_4
      rw [h.1]
      have : i = l.1.1 := by omega
      subst this
      exact ⟨by omega, by omega, fun _ => hQ m hm hb, fun c => by omega⟩
    | succ t ih =>
      intro i m hi hm hb
      apply uX3_wordsSaying_4
      rw [h.1, Int.toNat_natCast, show σ 7 i = _ from (h.2.2.1 i (by omega)).2.2.2]
      have hvi := V.2.2.2.2.1 i (by omega)
      have e1 : (i : Int) + 1 = ((i + 1 : Nat) : Int) := by omega
      rw [e1]
      refine ⟨by omega, by omega, fun c => by omega, fun _ => ⟨by omega, by unfold rg; omega, hv, fun c => ?_, fun c => ?_⟩⟩
      · rw [show (0 : Int) = ((0 : Nat) : Int) from rfl, bt_or (by omega) (by omega), Nat.or_zero]
        refine ih (i + 1) m (by omega) hm (fun w => ?_)
        rw [hb w]
        by_cases hw : w / 2 = i
        · rw [hw]
          simp [c]
        · rw [show decide (w / 2 < i + 1) = decide (w / 2 < i) from by rw [decide_eq_decide]; omega]
      · have hi7 : i ≤ 7 := by omega
        have hp1 : 2 ^ (2 * i + 1) < 65536 := Nat.lt_of_le_of_lt (Nat.pow_le_pow_right (by omega) (show 2 * i + 1 ≤ 15 by omega)) (by decide)
        have e2 : i_shl 2 (2 * (i : Int)) = ((2 ^ (2 * i + 1) : Nat) : Int) := by
          have := bt_shl (a := 2) (k := 2 * i) (by omega) (by rw [Nat.pow_succ] at hp1; omega)
          rw [show ((2 * i : Nat) : Int) = 2 * (i : Int) by omega] at this
          rw [Nat.pow_succ, Nat.mul_comm]
          exact this
        rw [e2, bt_or (by omega) (by omega)]
        refine ih (i + 1) _ (by omega) (Nat.or_lt_two_pow (n := 16) hm hp1) (fun w => ?_)
        rw [Nat.testBit_or, hb w, Nat.testBit_two_pow]
        by_cases hw : w / 2 = i
        · rw [hw]
          by_cases ho : w % 2 = 1
          · have : 2 * i + 1 = w := by omega
            simp [c, ho, this]
          · have : ¬ 2 * i + 1 = w := by omega
            simp [ho, this]
        · have : ¬ 2 * i + 1 = w := by omega
          rw [show decide (w / 2 < i + 1) = decide (w / 2 < i) from by rw [decide_eq_decide]; omega]
          simp [this]
  exact key l.1.1 0 0 (by omega) (by omega) (fun w => by simp)
/-- with fewer words: those of the readings that are of these alone -/
theorem gq_f_and {g : gq_T} {kw p : Nat → Bool} {row : Nat → Int} {n : Nat} {acc : Nat → Bool} : ∀ (f q s : Nat), gq_f g (fun w => kw w && p w) row n acc f q s = (gq_f g kw row n acc f q s).filter (fun x => x.all p)
  | 0, q, s => by
    rw [gq_f, gq_f]
    split <;> rfl
  | f + 1, q, s => by
    rw [gq_f, gq_f]
    split
    · split <;> rfl
    · rw [List.filter_flatMap]
      refine gq_fm (fun w hw => ?_)
      have e : gq_ok g (fun w => kw w && p w) row n q s w = (gq_ok g kw row n q s w && p w) := by
        unfold gq_ok
        show ((kw w && p w) && _ && _ && _) = ((kw w && _ && _ && _) && p w)
        cases kw w <;> cases p w <;> simp only [Bool.true_and, Bool.false_and, Bool.and_true, Bool.and_false]
      rw [e, gq_f_and f]
      cases hp : p w
      · rw [Bool.and_false, if_neg (by decide)]
        split
        · rw [List.filter_map]
          symm
          rw [List.map_eq_nil_iff, List.filter_eq_nil_iff]
          intro x hx
          simp [hp]
        · rfl
      · rw [Bool.and_true]
        split
        · rw [List.filter_map]
          congr 1
          refine List.filter_congr (fun x hx => ?_)
          simp [hp]
        · rfl
theorem gq_vs_bit {g : gq_T} {v : Nat} : ∀ (x : List Nat) (a : Nat), (gq_vs g x a).testBit v = (a.testBit v || !(x.all (fun w => !(decide (w % 2 = 1) && decide ((g.2.2.2.2 (w / 2)).toNat = v)))))
  | [], a => by simp [gq_vs]
  | w :: x, a => by
    rw [gq_vs, gq_vs_bit x, List.all_cons]
    by_cases ho : w % 2 = 1
    · rw [if_pos ho, Nat.testBit_or, Nat.testBit_two_pow]
      simp [ho, Bool.or_assoc]
    · rw [if_neg ho]
      simp [ho]
theorem cR_less {g : gq_T} {kd n a v : Nat} {row : Nat → Int} (V : gq_V g) (hv : 1 ≤ v) (ha : ∀ w, w < 16 → a.testBit w = !(decide (w / 2 < g.1) && decide (w % 2 = 1) && decide (g.2.2.2.2 (w / 2) = (v : Int)))) : (cR g kd row n a 0 0).length + (cR g kd row n 65535 0 0).countP (fun x => (gq_vs g x 0).testBit v) = (cR g kd row n 65535 0 0).length := by
  have h8 := V.1
  have e : cR g kd row n a 0 0 = (cR g kd row n 65535 0 0).filter (fun x => x.all (fun w => !(decide (w % 2 = 1) && decide ((g.2.2.2.2 (w / 2)).toNat = v)))) := by
    unfold cR gq_rd
    rw [← gq_f_and]
    refine gq_f_kw (fun w hw => ?_) _ _ _
    rw [bt_all (by omega), ha w (by omega), show decide (w / 2 < g.1) = true from decide_eq_true (by omega), Bool.true_and, Bool.true_and]
    congr 2
    rw [decide_eq_decide]
    omega
  rw [e, ← List.countP_eq_length_filter, List.length_eq_countP_add_countP (p := fun x => (gq_vs g x 0).testBit v) (l := cR g kd row n 65535 0 0), Nat.add_comm]
  congr 1
  refine List.countP_congr (fun x hx => ?_)
  rw [gq_vs_bit, Nat.zero_testBit]
  generalize List.all x _ = b
  cases b <;> simp
theorem co_belief {E : av_E} {σ : av_M} {Q : Option av_V → av_M → Prop} {T : Nat} {S : q_S} {k v part : Int} (h : cRM σ S) (V : q_V T S) (hk : rg k) (hv : rg v) (hp : rg part) (hQ : ∀ σ', cGf σ σ' → Q (some (av_i (sp_belief (q_D S) k v part))) σ') : av_C E cSH mX4_belief [av_r 0, av_i k, av_i v, av_i part] σ Q := by
  apply uX4_belief
  unfold sp_belief at hQ
  have e0 : (q_D S).2.1 = S.1.2.1 := rfl
  have e1 : (q_D S).1 = S.1.1 := rfl
  have h5 := V.1.2.2.1
  rw [e0, e1] at hQ
  refine c_isRd h V hk (fun hn => ⟨_, rfl, by decide, fun _ => ?_, fun c => absurd rfl c⟩) (fun hy => ⟨_, rfl, by decide, fun c => absurd c (by decide), fun _ => ?_⟩)
  · rw [if_neg (fun q => hn q.1)] at hQ
    exact hQ σ (cGf.rf σ)
  refine ⟨hv, fun c => ?_, fun c => ⟨hv, fun d => ?_, fun d => c_isPart hp (fun hn => ⟨_, rfl, by decide, fun c => absurd rfl c, fun _ => ?_⟩) (fun hpp => ⟨_, rfl, by decide, fun _ => ?_, fun c => absurd c (by decide)⟩)⟩⟩
  · rw [if_neg (fun q => by have := q.2.1; omega)] at hQ
    exact hQ σ (cGf.rf σ)
  · rw [if_neg (fun q => by have := q.2.1; omega)] at hQ
    exact hQ σ (cGf.rf σ)
  · rw [if_neg (fun q => by have := q.2.2; omega)] at hQ
    exact hQ σ (cGf.rf σ)
  obtain ⟨k, rfl⟩ := Int.eq_ofNat_of_zero_le hy.1
  obtain ⟨v, rfl⟩ := Int.eq_ofNat_of_zero_le (show 0 ≤ v by omega)
  rw [if_pos ⟨hy, ⟨c, d⟩, by omega⟩, Int.toNat_natCast, Int.toNat_natCast] at hQ
  rw [h.wr]
  have hkl : k < S.1.2.1 := by omega
  refine c_readingsOf V.1 h.1 hkl V.wr (fun σ1 F1 R1 => ⟨_, rfl, ?_⟩)
  have h1 := h.gf F1
  refine c_wordsSaying V.1.1 h1.1 hv (fun m hm hb => ⟨_, rfl, ?_⟩)
  obtain ⟨a, ha1, ha2, ha3, ha4⟩ := bt_andn (a := 65535) (b := m) (by omega) (by omega)
  rw [show (65535 : Int) = ((65535 : Nat) : Int) from rfl, ha1]
  have hvk := (V.1.2.2.2 k hkl).1
  refine c_tally V.1.1 R1.1 (by omega) (by omega) V.wr.2.1 (fun σ2 F2 G2 T2 => ⟨_, rfl, ?_⟩)
  have hfew : (cA S.1.1 (S.1.2.2 (3 * k)).toNat S.2.2.1.2.2.2.2).length ≤ 10077696 := gq_all_few V.1.1 V.wr.2.1
  have ed : dAA (q_D S) k = cA S.1.1 (S.1.2.2 (3 * k)).toNat S.2.2.1.2.2.2.2 := rfl
  rw [ed] at hQ
  have hQ2 := hQ σ2 (F1.tr F2)
  by_cases hn : rw_cn 9 S.2.2.1.2.2.2.2 = 0
  · have en : cA S.1.1 (S.1.2.2 (3 * k)).toNat S.2.2.1.2.2.2.2 = [] := by unfold cA gq_all; rw [if_pos hn]
    rw [en] at hQ2 ⊢
    rw [if_pos hn]
    simp only [List.countP_nil, List.length_nil, if_pos] at hQ2
    rw [sp_low_0 (by decide) hpp] at hQ2
    have := c_low (E := E) (σ := σ2) (Q := fun v s6 => ∃ r6 : Int, v = some (av_i r6) ∧ Q (some (av_i r6)) s6) (a := 0) (b := 0) (part := part) (by omega) (by omega) hpp ⟨_, rfl, by rw [if_pos rfl]; exact hQ2⟩
    exact ⟨by unfold rg; simp, by unfold rg; simp, by simpa using this⟩
  · rw [if_neg hn]
    have hl := cR_less (kd := (S.1.2.2 (3 * k)).toNat) (n := rw_cn 9 S.2.2.1.2.2.2.2) (a := a) (v := v) (row := gq_row (S.1.2.2 (3 * k)).toNat (rw_cn 9 S.2.2.1.2.2.2.2) (rw_d S.2.2.1.2.2.2.2 (rw_cn 9 S.2.2.1.2.2.2.2))) V.1.1 (by omega) (fun w hw => by rw [ha4 w, bt_all hw, Bool.true_and, hb w])
    rw [cA_eq V.1.1 hn] at hQ2 hfew ⊢
    revert hl hQ2 hfew
    generalize cR S.1.1 (S.1.2.2 (3 * k)).toNat (gq_row (S.1.2.2 (3 * k)).toNat (rw_cn 9 S.2.2.1.2.2.2.2) (rw_d S.2.2.1.2.2.2.2 (rw_cn 9 S.2.2.1.2.2.2.2))) (rw_cn 9 S.2.2.1.2.2.2.2) 65535 0 0 = L
    generalize (cR S.1.1 (S.1.2.2 (3 * k)).toNat (gq_row (S.1.2.2 (3 * k)).toNat (rw_cn 9 S.2.2.1.2.2.2.2) (rw_d S.2.2.1.2.2.2.2 (rw_cn 9 S.2.2.1.2.2.2.2))) (rw_cn 9 S.2.2.1.2.2.2.2) a 0 0).length = o
    intro hfew hQ2 hl
    have e2 : (L.length : Int) - (o : Int) = ((L.countP (fun x => (gq_vs S.1.1 x 0).testBit v) : Nat) : Int) := by omega
    rw [e2]
    refine ⟨by unfold rg; omega, by unfold rg; omega, c_low (by omega) (by omega) hpp ⟨_, rfl, ?_⟩⟩
    by_cases h0 : L.length = 0
    · rw [if_pos h0]
      rw [if_pos h0, show L.countP (fun x => (gq_vs S.1.1 x 0).testBit v) = 0 by omega, sp_low_0 (by decide) hpp] at hQ2
      exact hQ2
    · rw [if_neg h0]
      rw [if_neg h0] at hQ2
      exact hQ2
/-- what of the roots that P lets is read of the writing -/
theorem dA_cR {S : q_S} {T k a : Nat} {P : Nat → Bool} (V : q_V T S) (hn : ¬ rw_cn 9 S.2.2.1.2.2.2.2 = 0) (hP : ∀ w, w < 2 * S.1.1.1 → P (w / 2) = a.testBit w) : dA (q_D S) P k = cR S.1.1 (S.1.2.2 (3 * k)).toNat (gq_row (S.1.2.2 (3 * k)).toNat (rw_cn 9 S.2.2.1.2.2.2.2) (rw_d S.2.2.1.2.2.2.2 (rw_cn 9 S.2.2.1.2.2.2.2))) (rw_cn 9 S.2.2.1.2.2.2.2) a 0 0 := by
  rw [cR_all (kw := fun w => P (w / 2)) hP]
  unfold dA gq_all
  have e : (q_D S).2.2.2.2 = rw_cn 9 S.2.2.1.2.2.2.2 := rfl
  rw [e, if_neg hn]
  rfl
def cGS (σ : av_M) (S : q_S) (k : Nat) : Prop := cGr σ S.1.1 (S.1.2.2 (3 * k)).toNat (gq_row (S.1.2.2 (3 * k)).toNat (rw_cn 9 S.2.2.1.2.2.2.2) (rw_d S.2.2.1.2.2.2.2 (rw_cn 9 S.2.2.1.2.2.2.2))) (rw_cn 9 S.2.2.1.2.2.2.2) (rw_cn 9 S.2.2.1.2.2.2.2)
theorem c_tallyP {E : av_E} {σ : av_M} {Q : Option av_V → av_M → Prop} {T : Nat} {S : q_S} {k a : Nat} {P : Nat → Bool} (V : q_V T S) (hk : k < S.1.2.1) (G : cGS σ S k) (ha : a < 65536) (hP : ∀ w, w < 2 * S.1.1.1 → P (w / 2) = a.testBit w) (hQ : ∀ σ', cGf σ σ' → cGS σ' S k → Q (some (av_i ((dA (q_D S) P k).length : Int))) σ') : av_C E cSH mX0_tally [av_r 21, av_i (a : Int)] σ Q := by
  have hvk := (V.1.2.2.2 k hk).1
  refine c_tally V.1.1 G (by omega) ha V.wr.2.1 (fun σ2 F2 G2 T2 => ?_)
  have := hQ σ2 F2 G2
  by_cases hn : rw_cn 9 S.2.2.1.2.2.2.2 = 0
  · have en : dA (q_D S) P k = [] := by
      unfold dA gq_all
      have e : (q_D S).2.2.2.2 = rw_cn 9 S.2.2.1.2.2.2.2 := rfl
      rw [e, if_pos hn]
    rw [en] at this
    rw [if_pos hn]
    exact this
  · rw [if_neg hn, ← dA_cR V hn hP]
    exact this
