/-! the class: a world, as it is told -/
def cW1 (σ : av_M) (b : Nat) (W : q_W) : Prop :=
  σ b 8 = (W.1.length : Int) ∧ σ b 9 = (W.2.1.length : Int) ∧ (∀ (r : Nat) (x : Nat × Nat × Nat), W.1[r]? = some x → σ (b + 1) r = (x.1 : Int) ∧ σ (b + 2) r = (rw_cn 9 x.1 : Int) ∧ σ (b + 3) r = (x.2.1 : Int) ∧ σ (b + 4) r = (x.2.2 : Int)) ∧
  (∀ (k : Nat) (x : Nat × Nat × Nat), W.2.1[k]? = some x → σ (b + 5) k = (x.1 : Int) ∧ σ (b + 6) k = (x.2.1 : Int) ∧ σ (b + 7) k = (x.2.2 : Int)) ∧
  ∀ x, x < 216 → ∃ t : Nat, σ (b + 8) x = (t : Int) ∧ t < 65536 ∧ ∀ w, t.testBit w = true ↔ ∃ y, W.1[w / 2]? = some y ∧ y.1 = x ∧ if w % 2 = 1 then 0 < y.2.2 else 0 < y.2.1
def cW2 (σ : av_M) (b : Nat) (W : q_W) : Prop := cW1 σ b W ∧ σ b 10 = (W.2.2.1 : Int) ∧ (σ b 11 = (W.2.2.2.1.1 : Int) ∧ σ b 12 = (W.2.2.2.1.2.1 : Int) ∧ σ b 13 = (W.2.2.2.1.2.2 : Int)) ∧ σ b 14 = (W.2.2.2.2 : Int)
theorem cW1.congr {σ σ' : av_M} {b : Nat} {W W' : q_W} (h : cW1 σ b W) (e : ∀ a k, b ≤ a → a ≤ b + 8 → ¬ (a = b ∧ 10 ≤ k) → σ' a k = σ a k) (e1 : W'.1 = W.1) (e2 : W'.2.1 = W.2.1) : cW1 σ' b W' := by
  obtain ⟨h1, h2, h3, h4, h5⟩ := h
  unfold cW1
  rw [e1, e2]
  refine ⟨by rw [e b 8 (by omega) (by omega) (by omega)]; exact h1, by rw [e b 9 (by omega) (by omega) (by omega)]; exact h2, fun r x hr => ?_, fun k x hk => ?_, fun x hx => ?_⟩
  · rw [e (b + 1) r (by omega) (by omega) (by omega), e (b + 2) r (by omega) (by omega) (by omega), e (b + 3) r (by omega) (by omega) (by omega), e (b + 4) r (by omega) (by omega) (by omega)]
    exact h3 r x hr
  · rw [e (b + 5) k (by omega) (by omega) (by omega), e (b + 6) k (by omega) (by omega) (by omega), e (b + 7) k (by omega) (by omega) (by omega)]
    exact h4 k x hk
  · rw [e (b + 8) x (by omega) (by omega) (by omega)]
    exact h5 x hx
theorem cW1.xf {σ σ' : av_M} {b : Nat} {W : q_W} (hb : 2 ≤ b) (h : cW1 σ b W) (e : cXf σ σ') : cW1 σ' b W := h.congr (fun a k _ _ _ => e a k (by omega)) rfl rfl
theorem cW2.xf {σ σ' : av_M} {b : Nat} {W : q_W} (hb : 2 ≤ b) (h : cW2 σ b W) (e : cXf σ σ') : cW2 σ' b W := by
  obtain ⟨h1, h2, ⟨h3, h4, h5⟩, h6⟩ := h
  refine ⟨h1.xf hb e, ?_, ⟨?_, ?_, ?_⟩, ?_⟩
  · rw [e b 10 (by omega)]; exact h2
  · rw [e b 11 (by omega)]; exact h3
  · rw [e b 12 (by omega)]; exact h4
  · rw [e b 13 (by omega)]; exact h5
  · rw [e b 14 (by omega)]; exact h6
/-- all but the world at b and the text's place stays -/
def cBw (b : Nat) (σ0 σ : av_M) : Prop := ∀ a k, ¬ (b ≤ a ∧ a ≤ b + 8) → ¬ (a = 1 ∧ k = 2) → σ a k = σ0 a k
theorem cBw.rf (b : Nat) (σ : av_M) : cBw b σ σ := fun _ _ _ _ => rfl
theorem cBw.tr {b : Nat} {x y z : av_M} (h : cBw b x y) (k : cBw b y z) : cBw b x z := fun u v p q => (k u v p q).trans (h u v p q)
theorem cXf.bw {b : Nat} {σ σ' : av_M} (h : cXf σ σ') : cBw b σ σ' := fun a k _ q => h a k q
theorem cBw.st {b : Nat} {σ0 σ : av_M} (h : cBw b σ0 σ) {c k : Nat} (x : Int) (hc : b ≤ c ∧ c ≤ b + 8) : cBw b σ0 (av_st σ c k x) := by
  intro u v p q
  rw [← h u v p q]
  simp only [av_st]
  rw [if_neg (by omega)]
theorem cTx.bw {σ σ' : av_M} {cs : List Nat} {b : Nat} (h : cTx σ cs) (hb : 3 ≤ b) (e : cBw b σ σ') : cTx σ' cs :=
  ⟨by rw [e 1 1 (by omega) (by omega)]; exact h.1, h.2.1, fun i c hc => by rw [e 2 i (by omega) (by omega)]; exact h.2.2.1 i c hc, h.2.2.2⟩
theorem q_lg_rr {W : q_W} {r : Nat} (V : p_Wv W) (hr : r < W.1.length) : rw_rr (q_lg W) r = ((q_rt W r).1 : Int) := by
  have h := (p_ok_dec (V.1.2.1 _ (q_rt_mem hr).2).1 (by omega))
  unfold rw_rr
  rw [← h.2.2.2]
  refine rw_nu_congr _ (fun i hi => ?_)
  have hi3 : i < 3 := by have : i < rw_cn 9 (q_rt W r).1 := hi; omega
  show rw_d (q_rt W ((3 * r + i) / 3)).1 (rw_cn 9 (q_rt W ((3 * r + i) / 3)).1) ((3 * r + i) % 3) = _
  rw [show (3 * r + i) / 3 = r by omega, show (3 * r + i) % 3 = i by omega]
theorem cW1.wd {σ : av_M} {b : Nat} {W : q_W} (V : p_Wv W) (h : cW1 σ b W) : cWd σ b (q_lg W, W.2.1.length, q_lr W) := by
  obtain ⟨h1, h2, h3, h4, h5⟩ := h
  refine ⟨h1, h2, fun r hr => ?_, fun k hk => ?_, fun x hx => ?_⟩
  · have hr' : r < W.1.length := hr
    have := h3 r _ (q_rt_mem hr').1
    rw [q_lg_rr V hr']
    exact this
  · have hk' : k < W.2.1.length := hk
    have := h4 k _ (q_rr_mem hk').1
    show σ (b + 5) k = q_lr W (3 * k) ∧ σ (b + 6) k = q_lr W (3 * k + 1) ∧ σ (b + 7) k = q_lr W (3 * k + 2)
    unfold q_lr
    rw [if_pos (by omega), if_neg (by omega), if_pos (by omega), if_neg (by omega), if_neg (by omega), show 3 * k / 3 = k by omega, show (3 * k + 1) / 3 = k by omega, show (3 * k + 2) / 3 = k by omega]
    exact this
  · obtain ⟨t, t1, t2, t3⟩ := h5 x hx
    refine ⟨t, t1, t2, fun w => ?_⟩
    rw [t3 w]
    show _ ↔ (w < 2 * W.1.length ∧ rw_rr (q_lg W) (w / 2) = (x : Int) ∧ if w % 2 = 1 then (0 : Int) < ((q_rt W (w / 2)).2.2 : Int) else (0 : Int) < ((q_rt W (w / 2)).2.1 : Int))
    constructor
    · rintro ⟨y, y1, y2, y3⟩
      have hl : w / 2 < W.1.length := (List.getElem?_eq_some_iff.mp y1).1
      have e := (q_rt_mem hl).1
      rw [y1] at e
      have ey : y = q_rt W (w / 2) := Option.some.inj e
      subst ey
      refine ⟨by omega, by rw [q_lg_rr V hl, y2], ?_⟩
      split
      · rename_i c; rw [if_pos c] at y3; omega
      · rename_i c; rw [if_neg c] at y3; omega
    · rintro ⟨y1, y2, y3⟩
      have hl : w / 2 < W.1.length := by omega
      rw [q_lg_rr V hl] at y2
      refine ⟨_, (q_rt_mem hl).1, by omega, ?_⟩
      split
      · rename_i c; rw [if_pos c] at y3; omega
      · rename_i c; rw [if_neg c] at y3; omega
theorem rw_rr_lt {g : gq_T} (V : gq_V g) {r : Nat} (hr : r < g.1) : 0 ≤ rw_rr g r ∧ rw_rr g r < 216 := by
  have hm := V.2.1 r hr
  have hl := fun i (hi : i < g.2.1 r) => V.2.2.1 r i hr hi
  have h1 := rw_nu_lt (f := fun i => g.2.2.1 (3 * r + i)) (g.2.1 r) hl
  have h2 := rw_nu_nn (row := fun i => g.2.2.1 (3 * r + i)) (g.2.1 r) hl
  have h3 : 6 ^ g.2.1 r ≤ 6 ^ 3 := Nat.pow_le_pow_right (by omega) hm.2
  rw [show 6 ^ 3 = 216 from rfl] at h3
  unfold rw_rr
  omega
theorem bt_0 {t : Nat} (h : ∀ w, ¬ t.testBit w = true) : t = 0 := by
  apply Decidable.byContradiction
  intro q
  obtain ⟨w, hw⟩ := (bt_nz (m := t)).mp (by omega)
  exact h w hw
theorem wt_n {R : Nat} (h : R < 8) : i_shl 1 (2 * (R : Int)) = ((2 ^ (2 * R) : Nat) : Int) := by
  have := i_shl1 (i := 2 * R) (by omega)
  rw [show ((2 * R : Nat) : Int) = 2 * (R : Int) by omega] at this
  exact this
theorem wt_v {R : Nat} (h : R < 8) : i_shl 2 (2 * (R : Int)) = ((2 ^ (2 * R + 1) : Nat) : Int) := by
  have hp1 := p2_lt (i := 2 * R + 1) (m := 16) (by omega) (by omega)
  have := bt_shl (a := 2) (k := 2 * R) (by omega) (by rw [Nat.pow_succ] at hp1; omega)
  rw [show ((2 * R : Nat) : Int) = 2 * (R : Int) by omega] at this
  rw [Nat.pow_succ, Nat.mul_comm]
  exact this
theorem p_ok3_lt {r : Nat} (h : p_ok 3 r) : 0 < r ∧ r < 216 := by
  obtain ⟨n, row, h1, h2, h3, h4⟩ := h
  have a1 := rw_nu_lt n h3
  have a3 : 6 ^ n ≤ 6 ^ 3 := Nat.pow_le_pow_right (by omega) h2
  rw [show 6 ^ 3 = 216 from rfl] at a3
  refine ⟨?_, by omega⟩
  obtain ⟨m, rfl⟩ : ∃ m, n = m + 1 := ⟨n - 1, by omega⟩
  have a2 := rw_nu_nn m (fun i hi => h3 i (by omega))
  have := h3 m (by omega)
  rw [rw_nu] at h4
  omega

theorem c_setRiver_3 {E : av_E} {σ : av_M} {Q : Option av_V → av_M → Prop} {a b c : Int} (hQ : Q none (av_st (av_st (av_st σ 3 11 a) 3 12 b) 3 13 c)) : av_C E cSH mX3_setRiver [av_r 3, av_i a, av_i b, av_i c] σ Q := by
  apply uX3_setRiver_3
  exact hQ
theorem c_clear_3 {E : av_E} {σ : av_M} {Q : Option av_V → av_M → Prop} {l : gq_T × Nat × (Nat → Int)} (V : gq_V l.1) (h : cWd σ 3 l) (hQ : ∀ σ', cBw 3 σ σ' → σ' 1 2 = σ 1 2 → cW2 σ' 3 p_W0 → Q none σ') : av_C E cSH mX3_clear [av_r 3] σ Q := by
  apply uX3_clear_3
  have h8 := V.1
  have key : ∀ (t i : Nat) (τ : av_M), i + t = l.1.1 → (∀ a k, a ≠ 11 → τ a k = σ a k) → (∀ x, x < 216 → τ 11 x = 0 ∨ (τ 11 x = σ 11 x ∧ ∀ r, r < i → rw_rr l.1 r ≠ (x : Int))) → av_W E cSH mX3_clear 2 [some (av_r 3), some (av_i (i : Int))] [] τ Q := by
    intro t
    induction t with
    | zero =>
      intro i τ hi F hz
      apply uX3_clear_3_2
      rw [F 3 8 (by omega), h.1]
      have : i = l.1.1 := by omega
      subst this
      refine ⟨by omega, by omega, fun _ => c_setRiver_3 ⟨rfl, ?_⟩, fun c => by omega⟩
      have hz0 : ∀ x, x < 216 → τ 11 x = 0 := by
        intro x hx
        rcases hz x hx with q | ⟨q1, q2⟩
        · exact q
        · obtain ⟨t, t1, t2, t3⟩ := h.2.2.2.2 x hx
          have t0 : t = 0 := bt_0 (fun w hw => by
            obtain ⟨w1, w2, -⟩ := (t3 w).mp hw
            exact q2 (w / 2) (by omega) w2)
          rw [q1, show σ 11 x = (t : Int) from t1, t0]
          rfl
      refine hQ _ ?_ ?_ ⟨⟨?_, ?_, fun r x hx => ?_, fun r x hx => ?_, fun x hx => ⟨0, ?_, by omega, fun w => ?_⟩⟩, ?_, ⟨?_, ?_, ?_⟩, ?_⟩
      · intro a k p q
        simp only [av_st]
        rw [if_neg (by omega), if_neg (by omega), if_neg (by omega), if_neg (by omega), if_neg (by omega), if_neg (by omega), if_neg (by omega)]
        exact F a k (by omega)
      · simp [av_st]; exact F 1 2 (by omega)
      · simp [av_st, p_W0]
      · simp [av_st, p_W0]
      · simp [p_W0] at hx
      · simp [p_W0] at hx
      · simp [av_st]; exact hz0 x hx
      · simp [p_W0]
      · simp [av_st, p_W0]
      · simp [av_st, p_W0]
      · simp [av_st, p_W0]
      · simp [av_st, p_W0]
      · simp [av_st, p_W0]
    | succ t ih =>
      intro i τ hi F hz
      apply uX3_clear_3_2
      have hr := rw_rr_lt V (show i < l.1.1 by omega)
      rw [F 3 8 (by omega), h.1, Int.toNat_natCast, F 4 i (by omega), show σ 4 i = rw_rr l.1 i from (h.2.2.1 i (by omega)).1, show (i : Int) + 1 = ((i + 1 : Nat) : Int) by omega]
      refine ⟨by omega, by omega, fun c => by omega, fun _ => ⟨by omega, hr, ih (i + 1) _ (by omega) (fun a k p => ?_) (fun x hx => ?_)⟩⟩
      · simp only [av_st]
        rw [if_neg (by omega)]
        exact F a k p
      · by_cases hxr : x = (rw_rr l.1 i).toNat
        · left
          simp [av_st, hxr]
        · rcases hz x hx with q | ⟨q1, q2⟩
          · left
            simp only [av_st]
            rw [if_neg (by omega)]
            exact q
          · right
            refine ⟨?_, fun r hr2 => ?_⟩
            · simp only [av_st]
              rw [if_neg (by omega)]
              exact q1
            · by_cases hri : r = i
              · subst hri
                omega
              · exact q2 r (by omega)
  exact key l.1.1 0 σ (by omega) (fun _ _ _ => rfl) (fun x hx => Or.inr ⟨rfl, fun r hr => by omega⟩)
theorem c_addReader_3 {E : av_E} {σ : av_M} {Q : Option av_V → av_M → Prop} {W : q_W} {a b c : Nat} (V : p_Wv W) (h : cW2 σ 3 W) (h0 : W.2.1.length = 5 → Q (some (av_i 0)) σ) (h1 : ¬ W.2.1.length = 5 → ∀ σ', cBw 3 σ σ' → cW2 σ' 3 (W.1, W.2.1 ++ [(a, b, c)], W.2.2) → σ' 1 2 = σ 1 2 → Q (some (av_i 1)) σ') : av_C E cSH mX3_addReader [av_r 3, av_i (a : Int), av_i (b : Int), av_i (c : Int)] σ Q := by
  apply uX3_addReader_3
  have hl := V.2.1.1
  obtain ⟨⟨g1, g2, g3, g4, g5⟩, g6, ⟨g7, g8, g9⟩, g10⟩ := h
  rw [g2, Int.toNat_natCast]
  refine ⟨by omega, fun lt => ⟨by omega, by omega, by omega, h1 (by omega) _ ?_ ⟨⟨?_, ?_, fun r x hx => ?_, fun k x hk => ?_, fun x hx => ?_⟩, ?_, ⟨?_, ?_, ?_⟩, ?_⟩ ?_⟩, fun ge => h0 (by omega)⟩
  · exact ((((cBw.rf 3 σ).st _ (by omega)).st _ (by omega)).st _ (by omega)).st _ (by omega)
  · simp [av_st]; exact g1
  · simp [av_st]
  · have := g3 r x hx
    simp [av_st]; exact this
  · have hk' : W.2.1[k]? = some x ∧ k < W.2.1.length ∨ k = W.2.1.length ∧ x = (a, b, c) := by
      have hk2 : (W.2.1 ++ [(a, b, c)])[k]? = some x := hk
      rw [List.getElem?_append] at hk2
      split at hk2
      · rename_i q; exact Or.inl ⟨hk2, q⟩
      · rename_i q
        have hk0 : k - W.2.1.length = 0 := by
          have := (List.getElem?_eq_some_iff.mp hk2).1
          rw [List.length_singleton] at this
          omega
        rw [hk0] at hk2
        right
        refine ⟨by omega, ?_⟩
        exact (Option.some.inj hk2).symm
    rcases hk' with ⟨q1, q2⟩ | ⟨q1, q2⟩
    · have := g4 k x q1
      have hne : ¬ k = W.2.1.length := by omega
      simp [av_st, hne]; exact this
    · subst q2
      simp [av_st, q1]
  · obtain ⟨t, t1, t2, t3⟩ := g5 x hx
    exact ⟨t, by simp [av_st]; exact t1, t2, t3⟩
  · simp [av_st]; exact g6
  · simp [av_st]; exact g7
  · simp [av_st]; exact g8
  · simp [av_st]; exact g9
  · simp [av_st]; exact g10
  · simp [av_st]
theorem c_addRoot_3 {E : av_E} {σ : av_M} {Q : Option av_V → av_M → Prop} {W : q_W} {row w v : Nat} (V : p_Wv W) (h : cW2 σ 3 W) (hr : p_ok 3 row) (hw : w ≤ 60) (hv : v ≤ 3) (h0 : (W.1.length = 8 ∨ w + v = 0 ∨ row ∈ W.1.map (fun x => x.1)) → Q (some (av_i 0)) σ)
    (h1 : ¬ W.1.length = 8 → ¬ w + v = 0 → ¬ row ∈ W.1.map (fun x => x.1) → ∀ σ', cBw 3 σ σ' → cW2 σ' 3 (W.1 ++ [(row, w, v)], W.2) → σ' 1 2 = σ 1 2 → Q (some (av_i 1)) σ') : av_C E cSH mX3_addRoot [av_r 3, av_i (row : Int), av_i (w : Int), av_i (v : Int)] σ Q := by
  apply uX3_addRoot_3
  have hl := V.1.1
  have hrl := p_ok3_lt hr
  obtain ⟨⟨g1, g2, g3, g4, g5⟩, g6, ⟨g7, g8, g9⟩, g10⟩ := h
  obtain ⟨t0, ta, tb, tc⟩ := g5 row (by omega)
  have ta' : σ 11 row = (t0 : Int) := ta
  have e : av_st σ 4 W.1.length (row : Int) 3 8 = (W.1.length : Int) := by simp [av_st]; exact g1
  have core : ∀ (y : Int) (t : Nat), y = (t : Int) → t < 65536 → (∀ u, t.testBit u = true ↔ (u / 2 = W.1.length ∧ if u % 2 = 1 then 0 < v else 0 < w)) → t0 = 0 → W.1.length < 8 → ¬ w + v = 0 → Q (some (av_i 1)) (av_st (av_st (av_st (av_st (av_st (av_st σ 4 W.1.length (row : Int)) 5 W.1.length ((rw_cn 9 row : Nat) : Int)) 6 W.1.length (w : Int)) 7 W.1.length (v : Int)) 11 row y) 3 8 ((W.1.length : Int) + 1)) := by
    intro y t hy ht hb hz h8 hwv
    subst hz
    have new : ¬ row ∈ W.1.map (fun x => x.1) := by
      intro hm
      obtain ⟨x, hx, hxr⟩ := List.mem_map.mp hm
      obtain ⟨r, hr2⟩ := List.getElem?_of_mem hx
      have hxx := V.1.2.1 x hx
      by_cases c : 0 < x.2.2
      · have := (tc (2 * r + 1)).mpr ⟨x, by rw [show (2 * r + 1) / 2 = r by omega]; exact hr2, hxr, by rw [if_pos (by omega)]; exact c⟩
        simp at this
      · have := (tc (2 * r)).mpr ⟨x, by rw [show (2 * r) / 2 = r by omega]; exact hr2, hxr, by rw [if_neg (by omega)]; omega⟩
        simp at this
    refine h1 (by omega) hwv new _ ?_ ⟨⟨?_, ?_, fun r x hx => ?_, fun k x hk => ?_, fun x hx => ?_⟩, ?_, ⟨?_, ?_, ?_⟩, ?_⟩ ?_
    · exact ((((((cBw.rf 3 σ).st _ (by omega)).st _ (by omega)).st _ (by omega)).st _ (by omega)).st _ (by omega)).st _ (by omega)
    · simp [av_st]
    · simp [av_st]; exact g2
    · have hk' : W.1[r]? = some x ∧ r < W.1.length ∨ r = W.1.length ∧ x = (row, w, v) := by
        have hk2 : (W.1 ++ [(row, w, v)])[r]? = some x := hx
        rw [List.getElem?_append] at hk2
        split at hk2
        · rename_i q; exact Or.inl ⟨hk2, q⟩
        · rename_i q
          have hk0 : r - W.1.length = 0 := by
            have := (List.getElem?_eq_some_iff.mp hk2).1
            rw [List.length_singleton] at this
            omega
          rw [hk0] at hk2
          right
          exact ⟨by omega, (Option.some.inj hk2).symm⟩
      rcases hk' with ⟨q1, q2⟩ | ⟨q1, q2⟩
      · have := g3 r x q1
        have hne : ¬ r = W.1.length := by omega
        simp [av_st, hne]; exact this
      · subst q2
        simp [av_st, q1]
    · have := g4 k x hk
      simp [av_st]; exact this
    · have hsplit : ∀ u (P : Nat × Nat × Nat → Prop), (∃ z, (W.1 ++ [(row, w, v)])[u]? = some z ∧ P z) ↔ (∃ z, W.1[u]? = some z ∧ P z) ∨ (u = W.1.length ∧ P (row, w, v)) := by
        intro u P
        constructor
        · rintro ⟨z, z1, z2⟩
          rw [List.getElem?_append] at z1
          split at z1
          · exact Or.inl ⟨z, z1, z2⟩
          · rename_i q
            have hk0 : u - W.1.length = 0 := by
              have := (List.getElem?_eq_some_iff.mp z1).1
              rw [List.length_singleton] at this
              omega
            rw [hk0] at z1
            right
            rw [Option.some.inj z1]
            exact ⟨by omega, z2⟩
        · rintro (⟨z, z1, z2⟩ | ⟨q, z2⟩)
          · refine ⟨z, ?_, z2⟩
            rw [List.getElem?_append_left (List.getElem?_eq_some_iff.mp z1).1]
            exact z1
          · refine ⟨_, ?_, z2⟩
            rw [q, List.getElem?_append_right (Nat.le_refl _), Nat.sub_self]
            rfl
      by_cases hxr : x = row
      · subst hxr
        refine ⟨t, by simp [av_st, hy], ht, fun u => ?_⟩
        show _ ↔ ∃ z, (W.1 ++ [(x, w, v)])[u / 2]? = some z ∧ _
        rw [hsplit, hb u]
        constructor
        · rintro ⟨q1, q2⟩
          exact Or.inr ⟨q1, rfl, q2⟩
        · rintro (⟨z, z1, z2, z3⟩ | ⟨q1, -, q2⟩)
          · have := (tc u).mpr ⟨z, z1, z2, z3⟩
            simp at this
          · exact ⟨q1, q2⟩
      · obtain ⟨s, s1, s2, s3⟩ := g5 x hx
        refine ⟨s, by simp [av_st, hxr]; exact s1, s2, fun u => ?_⟩
        show _ ↔ ∃ z, (W.1 ++ [(row, w, v)])[u / 2]? = some z ∧ _
        rw [hsplit, s3 u]
        constructor
        · exact Or.inl
        · rintro (q | ⟨-, q1, -⟩)
          · exact q
          · exact absurd q1.symm hxr
    · simp [av_st]; exact g6
    · simp [av_st]; exact g7
    · simp [av_st]; exact g8
    · simp [av_st]; exact g9
    · simp [av_st]; exact g10
    · simp [av_st]
  rw [g1, Int.toNat_natCast, Int.toNat_natCast, ta']
  refine ⟨by omega, fun c => by omega, fun _ => ⟨by omega, fun c => by omega, fun _ => ⟨by omega, fun cw => ?_, fun cw => ⟨by omega, fun cv => h0 (by omega), fun cv => ?_⟩⟩⟩⟩
  all_goals
    refine ⟨by omega, fun c => h0 (by omega), fun c8 => ⟨by omega, by omega, fun z0 => ⟨by omega, c_lettersIn (by omega) ⟨_, rfl, ?_⟩⟩, fun nz => h0 (Or.inr (Or.inr ?_))⟩⟩
    · rw [e, Int.toNat_natCast, wt_n (by omega), wt_v (by omega)]
      have q1 := p2_lt (i := 2 * W.1.length) (m := 16) (by omega) (by omega)
      have q2 := p2_lt (i := 2 * W.1.length + 1) (m := 16) (by omega) (by omega)
      rw [show (0 : Int) = ((0 : Nat) : Int) from rfl, bt_or (by omega) (by omega), bt_or (by omega) (by omega), bt_or (by omega) (by omega), bt_or (by omega) (by omega)]
      refine ⟨by omega, by omega, by omega, by omega, fun c => ⟨by omega, fun d => ⟨by omega, ?_⟩, fun d => ⟨by omega, ?_⟩⟩, fun c => ⟨by omega, fun d => ⟨by omega, ?_⟩, fun d => ⟨by omega, ?_⟩⟩⟩
      · omega
      · refine core _ _ rfl (Nat.or_lt_two_pow (n := 16) (by omega) q2) (fun u => ?_) (by omega) (by omega) (by omega)
        rw [Nat.zero_or, Nat.testBit_two_pow, decide_eq_true_eq]
        split <;> omega
      · refine core _ _ rfl (Nat.or_lt_two_pow (n := 16) q1 (by omega)) (fun u => ?_) (by omega) (by omega) (by omega)
        rw [Nat.or_zero, Nat.testBit_two_pow, decide_eq_true_eq]
        split <;> omega
      · refine core _ _ rfl (Nat.or_lt_two_pow (n := 16) q1 q2) (fun u => ?_) (by omega) (by omega) (by omega)
        rw [Nat.testBit_or, Nat.testBit_two_pow, Nat.testBit_two_pow, Bool.or_eq_true, decide_eq_true_eq, decide_eq_true_eq]
        split <;> omega
    · obtain ⟨u, hu⟩ := (bt_nz (m := t0)).mp (by omega)
      obtain ⟨z, z1, z2, -⟩ := (tc u).mp hu
      exact List.mem_map.mpr ⟨z, List.mem_of_getElem? z1, z2⟩

theorem c_setRiver_12 {E : av_E} {σ : av_M} {Q : Option av_V → av_M → Prop} {a b c : Int} (hQ : Q none (av_st (av_st (av_st σ 12 11 a) 12 12 b) 12 13 c)) : av_C E cSH mX3_setRiver [av_r 12, av_i a, av_i b, av_i c] σ Q := by
  apply uX3_setRiver_12
  exact hQ
theorem c_clear_12 {E : av_E} {σ : av_M} {Q : Option av_V → av_M → Prop} {l : gq_T × Nat × (Nat → Int)} (V : gq_V l.1) (h : cWd σ 12 l) (hQ : ∀ σ', cBw 12 σ σ' → σ' 1 2 = σ 1 2 → cW2 σ' 12 p_W0 → Q none σ') : av_C E cSH mX3_clear [av_r 12] σ Q := by
  apply uX3_clear_12
  have h8 := V.1
  have key : ∀ (t i : Nat) (τ : av_M), i + t = l.1.1 → (∀ a k, a ≠ 20 → τ a k = σ a k) → (∀ x, x < 216 → τ 20 x = 0 ∨ (τ 20 x = σ 20 x ∧ ∀ r, r < i → rw_rr l.1 r ≠ (x : Int))) → av_W E cSH mX3_clear 2 [some (av_r 12), some (av_i (i : Int))] [] τ Q := by
    intro t
    induction t with
    | zero =>
      intro i τ hi F hz
      apply uX3_clear_12_2
      rw [F 12 8 (by omega), h.1]
      have : i = l.1.1 := by omega
      subst this
      refine ⟨by omega, by omega, fun _ => c_setRiver_12 ⟨rfl, ?_⟩, fun c => by omega⟩
      have hz0 : ∀ x, x < 216 → τ 20 x = 0 := by
        intro x hx
        rcases hz x hx with q | ⟨q1, q2⟩
        · exact q
        · obtain ⟨t, t1, t2, t3⟩ := h.2.2.2.2 x hx
          have t0 : t = 0 := bt_0 (fun w hw => by
            obtain ⟨w1, w2, -⟩ := (t3 w).mp hw
            exact q2 (w / 2) (by omega) w2)
          rw [q1, show σ 20 x = (t : Int) from t1, t0]
          rfl
      refine hQ _ ?_ ?_ ⟨⟨?_, ?_, fun r x hx => ?_, fun r x hx => ?_, fun x hx => ⟨0, ?_, by omega, fun w => ?_⟩⟩, ?_, ⟨?_, ?_, ?_⟩, ?_⟩
      · intro a k p q
        simp only [av_st]
        rw [if_neg (by omega), if_neg (by omega), if_neg (by omega), if_neg (by omega), if_neg (by omega), if_neg (by omega), if_neg (by omega)]
        exact F a k (by omega)
      · simp [av_st]; exact F 1 2 (by omega)
      · simp [av_st, p_W0]
      · simp [av_st, p_W0]
      · simp [p_W0] at hx
      · simp [p_W0] at hx
      · simp [av_st]; exact hz0 x hx
      · simp [p_W0]
      · simp [av_st, p_W0]
      · simp [av_st, p_W0]
      · simp [av_st, p_W0]
      · simp [av_st, p_W0]
      · simp [av_st, p_W0]
    | succ t ih =>
      intro i τ hi F hz
      apply uX3_clear_12_2
      have hr := rw_rr_lt V (show i < l.1.1 by omega)
      rw [F 12 8 (by omega), h.1, Int.toNat_natCast, F 13 i (by omega), show σ 13 i = rw_rr l.1 i from (h.2.2.1 i (by omega)).1, show (i : Int) + 1 = ((i + 1 : Nat) : Int) by omega]
      refine ⟨by omega, by omega, fun c => by omega, fun _ => ⟨by omega, hr, ih (i + 1) _ (by omega) (fun a k p => ?_) (fun x hx => ?_)⟩⟩
      · simp only [av_st]
        rw [if_neg (by omega)]
        exact F a k p
      · by_cases hxr : x = (rw_rr l.1 i).toNat
        · left
          simp [av_st, hxr]
        · rcases hz x hx with q | ⟨q1, q2⟩
          · left
            simp only [av_st]
            rw [if_neg (by omega)]
            exact q
          · right
            refine ⟨?_, fun r hr2 => ?_⟩
            · simp only [av_st]
              rw [if_neg (by omega)]
              exact q1
            · by_cases hri : r = i
              · subst hri
                omega
              · exact q2 r (by omega)
  exact key l.1.1 0 σ (by omega) (fun _ _ _ => rfl) (fun x hx => Or.inr ⟨rfl, fun r hr => by omega⟩)
theorem c_addReader_12 {E : av_E} {σ : av_M} {Q : Option av_V → av_M → Prop} {W : q_W} {a b c : Nat} (V : p_Wv W) (h : cW2 σ 12 W) (h0 : W.2.1.length = 5 → Q (some (av_i 0)) σ) (h1 : ¬ W.2.1.length = 5 → ∀ σ', cBw 12 σ σ' → cW2 σ' 12 (W.1, W.2.1 ++ [(a, b, c)], W.2.2) → σ' 1 2 = σ 1 2 → Q (some (av_i 1)) σ') : av_C E cSH mX3_addReader [av_r 12, av_i (a : Int), av_i (b : Int), av_i (c : Int)] σ Q := by
  apply uX3_addReader_12
  have hl := V.2.1.1
  obtain ⟨⟨g1, g2, g3, g4, g5⟩, g6, ⟨g7, g8, g9⟩, g10⟩ := h
  rw [g2, Int.toNat_natCast]
  refine ⟨by omega, fun lt => ⟨by omega, by omega, by omega, h1 (by omega) _ ?_ ⟨⟨?_, ?_, fun r x hx => ?_, fun k x hk => ?_, fun x hx => ?_⟩, ?_, ⟨?_, ?_, ?_⟩, ?_⟩ ?_⟩, fun ge => h0 (by omega)⟩
  · exact ((((cBw.rf 12 σ).st _ (by omega)).st _ (by omega)).st _ (by omega)).st _ (by omega)
  · simp [av_st]; exact g1
  · simp [av_st]
  · have := g3 r x hx
    simp [av_st]; exact this
  · have hk' : W.2.1[k]? = some x ∧ k < W.2.1.length ∨ k = W.2.1.length ∧ x = (a, b, c) := by
      have hk2 : (W.2.1 ++ [(a, b, c)])[k]? = some x := hk
      rw [List.getElem?_append] at hk2
      split at hk2
      · rename_i q; exact Or.inl ⟨hk2, q⟩
      · rename_i q
        have hk0 : k - W.2.1.length = 0 := by
          have := (List.getElem?_eq_some_iff.mp hk2).1
          rw [List.length_singleton] at this
          omega
        rw [hk0] at hk2
        right
        refine ⟨by omega, ?_⟩
        exact (Option.some.inj hk2).symm
    rcases hk' with ⟨q1, q2⟩ | ⟨q1, q2⟩
    · have := g4 k x q1
      have hne : ¬ k = W.2.1.length := by omega
      simp [av_st, hne]; exact this
    · subst q2
      simp [av_st, q1]
  · obtain ⟨t, t1, t2, t3⟩ := g5 x hx
    exact ⟨t, by simp [av_st]; exact t1, t2, t3⟩
  · simp [av_st]; exact g6
  · simp [av_st]; exact g7
  · simp [av_st]; exact g8
  · simp [av_st]; exact g9
  · simp [av_st]; exact g10
  · simp [av_st]
theorem c_addRoot_12 {E : av_E} {σ : av_M} {Q : Option av_V → av_M → Prop} {W : q_W} {row w v : Nat} (V : p_Wv W) (h : cW2 σ 12 W) (hr : p_ok 3 row) (hw : w ≤ 60) (hv : v ≤ 3) (h0 : (W.1.length = 8 ∨ w + v = 0 ∨ row ∈ W.1.map (fun x => x.1)) → Q (some (av_i 0)) σ)
    (h1 : ¬ W.1.length = 8 → ¬ w + v = 0 → ¬ row ∈ W.1.map (fun x => x.1) → ∀ σ', cBw 12 σ σ' → cW2 σ' 12 (W.1 ++ [(row, w, v)], W.2) → σ' 1 2 = σ 1 2 → Q (some (av_i 1)) σ') : av_C E cSH mX3_addRoot [av_r 12, av_i (row : Int), av_i (w : Int), av_i (v : Int)] σ Q := by
  apply uX3_addRoot_12
  have hl := V.1.1
  have hrl := p_ok3_lt hr
  obtain ⟨⟨g1, g2, g3, g4, g5⟩, g6, ⟨g7, g8, g9⟩, g10⟩ := h
  obtain ⟨t0, ta, tb, tc⟩ := g5 row (by omega)
  have ta' : σ 20 row = (t0 : Int) := ta
  have e : av_st σ 13 W.1.length (row : Int) 12 8 = (W.1.length : Int) := by simp [av_st]; exact g1
  have core : ∀ (y : Int) (t : Nat), y = (t : Int) → t < 65536 → (∀ u, t.testBit u = true ↔ (u / 2 = W.1.length ∧ if u % 2 = 1 then 0 < v else 0 < w)) → t0 = 0 → W.1.length < 8 → ¬ w + v = 0 → Q (some (av_i 1)) (av_st (av_st (av_st (av_st (av_st (av_st σ 13 W.1.length (row : Int)) 14 W.1.length ((rw_cn 9 row : Nat) : Int)) 15 W.1.length (w : Int)) 16 W.1.length (v : Int)) 20 row y) 12 8 ((W.1.length : Int) + 1)) := by
    intro y t hy ht hb hz h8 hwv
    subst hz
    have new : ¬ row ∈ W.1.map (fun x => x.1) := by
      intro hm
      obtain ⟨x, hx, hxr⟩ := List.mem_map.mp hm
      obtain ⟨r, hr2⟩ := List.getElem?_of_mem hx
      have hxx := V.1.2.1 x hx
      by_cases c : 0 < x.2.2
      · have := (tc (2 * r + 1)).mpr ⟨x, by rw [show (2 * r + 1) / 2 = r by omega]; exact hr2, hxr, by rw [if_pos (by omega)]; exact c⟩
        simp at this
      · have := (tc (2 * r)).mpr ⟨x, by rw [show (2 * r) / 2 = r by omega]; exact hr2, hxr, by rw [if_neg (by omega)]; omega⟩
        simp at this
    refine h1 (by omega) hwv new _ ?_ ⟨⟨?_, ?_, fun r x hx => ?_, fun k x hk => ?_, fun x hx => ?_⟩, ?_, ⟨?_, ?_, ?_⟩, ?_⟩ ?_
    · exact ((((((cBw.rf 12 σ).st _ (by omega)).st _ (by omega)).st _ (by omega)).st _ (by omega)).st _ (by omega)).st _ (by omega)
    · simp [av_st]
    · simp [av_st]; exact g2
    · have hk' : W.1[r]? = some x ∧ r < W.1.length ∨ r = W.1.length ∧ x = (row, w, v) := by
        have hk2 : (W.1 ++ [(row, w, v)])[r]? = some x := hx
        rw [List.getElem?_append] at hk2
        split at hk2
        · rename_i q; exact Or.inl ⟨hk2, q⟩
        · rename_i q
          have hk0 : r - W.1.length = 0 := by
            have := (List.getElem?_eq_some_iff.mp hk2).1
            rw [List.length_singleton] at this
            omega
          rw [hk0] at hk2
          right
          exact ⟨by omega, (Option.some.inj hk2).symm⟩
      rcases hk' with ⟨q1, q2⟩ | ⟨q1, q2⟩
      · have := g3 r x q1
        have hne : ¬ r = W.1.length := by omega
        simp [av_st, hne]; exact this
      · subst q2
        simp [av_st, q1]
    · have := g4 k x hk
      simp [av_st]; exact this
    · have hsplit : ∀ u (P : Nat × Nat × Nat → Prop), (∃ z, (W.1 ++ [(row, w, v)])[u]? = some z ∧ P z) ↔ (∃ z, W.1[u]? = some z ∧ P z) ∨ (u = W.1.length ∧ P (row, w, v)) := by
        intro u P
        constructor
        · rintro ⟨z, z1, z2⟩
          rw [List.getElem?_append] at z1
          split at z1
          · exact Or.inl ⟨z, z1, z2⟩
          · rename_i q
            have hk0 : u - W.1.length = 0 := by
              have := (List.getElem?_eq_some_iff.mp z1).1
              rw [List.length_singleton] at this
              omega
            rw [hk0] at z1
            right
            rw [Option.some.inj z1]
            exact ⟨by omega, z2⟩
        · rintro (⟨z, z1, z2⟩ | ⟨q, z2⟩)
          · refine ⟨z, ?_, z2⟩
            rw [List.getElem?_append_left (List.getElem?_eq_some_iff.mp z1).1]
            exact z1
          · refine ⟨_, ?_, z2⟩
            rw [q, List.getElem?_append_right (Nat.le_refl _), Nat.sub_self]
            rfl
      by_cases hxr : x = row
      · subst hxr
        refine ⟨t, by simp [av_st, hy], ht, fun u => ?_⟩
        show _ ↔ ∃ z, (W.1 ++ [(x, w, v)])[u / 2]? = some z ∧ _
        rw [hsplit, hb u]
        constructor
        · rintro ⟨q1, q2⟩
          exact Or.inr ⟨q1, rfl, q2⟩
        · rintro (⟨z, z1, z2, z3⟩ | ⟨q1, -, q2⟩)
          · have := (tc u).mpr ⟨z, z1, z2, z3⟩
            simp at this
          · exact ⟨q1, q2⟩
      · obtain ⟨s, s1, s2, s3⟩ := g5 x hx
        refine ⟨s, by simp [av_st, hxr]; exact s1, s2, fun u => ?_⟩
        show _ ↔ ∃ z, (W.1 ++ [(row, w, v)])[u / 2]? = some z ∧ _
        rw [hsplit, s3 u]
        constructor
        · exact Or.inl
        · rintro (q | ⟨-, q1, -⟩)
          · exact q
          · exact absurd q1.symm hxr
    · simp [av_st]; exact g6
    · simp [av_st]; exact g7
    · simp [av_st]; exact g8
    · simp [av_st]; exact g9
    · simp [av_st]; exact g10
    · simp [av_st]
  rw [g1, Int.toNat_natCast, Int.toNat_natCast, ta']
  refine ⟨by omega, fun c => by omega, fun _ => ⟨by omega, fun c => by omega, fun _ => ⟨by omega, fun cw => ?_, fun cw => ⟨by omega, fun cv => h0 (by omega), fun cv => ?_⟩⟩⟩⟩
  all_goals
    refine ⟨by omega, fun c => h0 (by omega), fun c8 => ⟨by omega, by omega, fun z0 => ⟨by omega, c_lettersIn (by omega) ⟨_, rfl, ?_⟩⟩, fun nz => h0 (Or.inr (Or.inr ?_))⟩⟩
    · rw [e, Int.toNat_natCast, wt_n (by omega), wt_v (by omega)]
      have q1 := p2_lt (i := 2 * W.1.length) (m := 16) (by omega) (by omega)
      have q2 := p2_lt (i := 2 * W.1.length + 1) (m := 16) (by omega) (by omega)
      rw [show (0 : Int) = ((0 : Nat) : Int) from rfl, bt_or (by omega) (by omega), bt_or (by omega) (by omega), bt_or (by omega) (by omega), bt_or (by omega) (by omega)]
      refine ⟨by omega, by omega, by omega, by omega, fun c => ⟨by omega, fun d => ⟨by omega, ?_⟩, fun d => ⟨by omega, ?_⟩⟩, fun c => ⟨by omega, fun d => ⟨by omega, ?_⟩, fun d => ⟨by omega, ?_⟩⟩⟩
      · omega
      · refine core _ _ rfl (Nat.or_lt_two_pow (n := 16) (by omega) q2) (fun u => ?_) (by omega) (by omega) (by omega)
        rw [Nat.zero_or, Nat.testBit_two_pow, decide_eq_true_eq]
        split <;> omega
      · refine core _ _ rfl (Nat.or_lt_two_pow (n := 16) q1 (by omega)) (fun u => ?_) (by omega) (by omega) (by omega)
        rw [Nat.or_zero, Nat.testBit_two_pow, decide_eq_true_eq]
        split <;> omega
      · refine core _ _ rfl (Nat.or_lt_two_pow (n := 16) q1 q2) (fun u => ?_) (by omega) (by omega) (by omega)
        rw [Nat.testBit_or, Nat.testBit_two_pow, Nat.testBit_two_pow, Bool.or_eq_true, decide_eq_true_eq, decide_eq_true_eq]
        split <;> omega
    · obtain ⟨u, hu⟩ := (bt_nz (m := t0)).mp (by omega)
      obtain ⟨z, z1, z2, -⟩ := (tc u).mp hu
      exact List.mem_map.mpr ⟨z, List.mem_of_getElem? z1, z2⟩
