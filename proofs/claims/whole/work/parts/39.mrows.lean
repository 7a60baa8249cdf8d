theorem gq_f_len {g : gq_T} {kw : Nat → Bool} {row : Nat → Int} {n : Nat} {acc : Nat → Bool} (hm : ∀ r, r < g.1 → 0 < g.2.1 r) : ∀ (f p s : Nat), p ≤ n → ∀ x ∈ gq_f g kw row n acc f p s, x.length + p ≤ n := by
  intro f
  induction f with
  | zero =>
    intro p s hp x hx
    simp only [gq_f] at hx
    split at hx
    · rw [List.mem_singleton] at hx
      subst hx
      simpa using hp
    · cases hx
  | succ f ih =>
    intro p s hp x hx
    simp only [gq_f] at hx
    split at hx
    · split at hx
      · rw [List.mem_singleton] at hx
        subst hx
        simpa using hp
      · cases hx
    · obtain ⟨u, hu, hx⟩ := List.mem_flatMap.mp hx
      have hu2 := List.mem_range.mp hu
      split at hx
      · rename_i ho
        obtain ⟨t, ht, rfl⟩ := List.mem_map.mp hx
        have h1 := gq_ok_le ho
        have h2 := ih _ _ h1 t ht
        have h3 := hm (u / 2) (by omega)
        rw [List.length_cons]
        omega
      · cases hx
theorem gq_all_len {g : gq_T} {kw : Nat → Bool} {kd : Nat} {row : Nat → Int} {n : Nat} (V : gq_V g) : ∀ x ∈ gq_all g kw kd row n, x.length ≤ n := by
  intro x hx
  unfold gq_all gq_rd at hx
  split at hx
  · cases hx
  · have := gq_f_len (fun r hr => (V.2.1 r hr).1) _ 0 _ (Nat.zero_le _) x hx
    omega
/-! rows of up to four letters, in order -/
def rw_dg (x m i : Nat) : Int := ((x / 5 ^ (m - 1 - i) % 5 : Nat) : Int)
def rw_no (m x : Nat) : Int := rw_nu (rw_dg x m) m
def rw_in (m x : Nat) : List (Nat × Nat) := (List.range' x (5 ^ m - x)).map (fun y => (m, y))
def rw_rest (m : Nat) : List (Nat × Nat) := (List.range' m (5 - m)).flatMap (fun m => (List.range (5 ^ m)).map (fun y => (m, y)))
theorem rw_in_end {m x : Nat} (h : 5 ^ m ≤ x) : rw_in m x = [] := by
  unfold rw_in
  rw [Nat.sub_eq_zero_of_le h]
  rfl
theorem rw_in_step {m x : Nat} (h : x < 5 ^ m) : rw_in m x = (m, x) :: rw_in m (x + 1) := by
  unfold rw_in
  obtain ⟨k, hk⟩ : ∃ k, 5 ^ m - x = k + 1 := ⟨5 ^ m - x - 1, by omega⟩
  rw [hk, List.range'_succ, List.map_cons, show 5 ^ m - (x + 1) = k by omega]
theorem rw_rest_end {m : Nat} (h : 5 ≤ m) : rw_rest m = [] := by
  unfold rw_rest
  rw [Nat.sub_eq_zero_of_le h]
  rfl
theorem rw_rest_step {m : Nat} (h : m < 5) : rw_rest m = rw_in m 0 ++ rw_rest (m + 1) := by
  unfold rw_rest rw_in
  obtain ⟨k, hk⟩ : ∃ k, 5 - m = k + 1 := ⟨5 - m - 1, by omega⟩
  rw [hk, List.range'_succ, List.flatMap_cons, show 5 - (m + 1) = k by omega, List.range_eq_range', Nat.sub_zero]
def rw_fd (P : Nat × Nat → Bool) (L : List (Nat × Nat)) : Int := match L.find? P with | some q => rw_no q.1 q.2 | none => -4
theorem rw_fd_app {P : Nat × Nat → Bool} {q : Nat × Nat} {L : List (Nat × Nat)} : rw_fd P (q :: L) = if P q = true then rw_no q.1 q.2 else rw_fd P L := by
  unfold rw_fd
  rw [List.find?_cons]
  cases P q <;> rfl
theorem s_isRow {E : av_E} {σ : av_M} {Q : Option av_V → av_M → Prop} {x m : Nat} (hx : x < 2147483648) (hm : m ≤ 9) (hQ : ∀ σ', mS2 σ σ' → σ' 0 31 = (m : Int) → (∀ i, i < m → σ' 20 i = rw_dg x m i) → Q none σ') : av_C E mSH mX5_isRow [av_r 0, av_i (x : Int), av_i (m : Int)] σ Q := by
  apply uX5_isRow
  have key : ∀ (t j : Nat) (left : Nat) (τ : av_M), m - j = t → j ≤ m → left = x / 5 ^ j → mS2 σ τ → τ 0 31 = (m : Int) → (∀ i, m - j ≤ i → i < m → τ 20 i = rw_dg x m i) → av_W E mSH mX5_isRow 12 [some (av_r 0), some (av_i (x : Int)), some (av_i (m : Int)), some (av_i (left : Int)), some (av_i ((m : Int) - 1 - (j : Int)))] [] τ Q := by
    intro t
    induction t with
    | zero =>
      intro j left τ ht hj hl S h31 hrow
      apply uX5_isRow_12
      exact ⟨by omega, fun _ => hQ τ S h31 (fun i hi => hrow i (by omega) hi), fun c => by omega⟩
    | succ t ih =>
      intro j left τ ht hj hl S h31 hrow
      have hle : left ≤ x := by rw [hl]; exact Nat.div_le_self _ _
      apply uX5_isRow_12
      have e1 : ((m : Int) - 1 - (j : Int)).toNat = m - 1 - j := by omega
      have e2 : (left : Int) / 5 = ((left / 5 : Nat) : Int) := by omega
      have e3 : (m : Int) - 1 - (j : Int) + (-1) = (m : Int) - 1 - ((j + 1 : Nat) : Int) := by omega
      rw [e1, e2, e3]
      refine ⟨by omega, fun c => by omega, fun _ => ⟨by omega, by omega, by omega, ih (j + 1) (left / 5) _ (by omega) (by omega) ?_ (S.st _ (by omega)) ?_ ?_⟩⟩
      · rw [hl, Nat.div_div_eq_div_mul, Nat.pow_succ]
      · simp [av_st, h31]
      · intro i h1 h2
        by_cases hi : i = m - 1 - j
        · subst hi
          unfold rw_dg
          have : m - 1 - (m - 1 - j) = j := by omega
          rw [this, ← hl]
          simp [av_st]
        · have : av_st τ 20 (m - 1 - j) ((left : Int) % 5) 20 i = τ 20 i := by simp [av_st, hi]
          rw [this]
          exact hrow i (by omega) h2
  have := key m 0 x (av_st σ 0 31 (m : Int)) (by omega) (by omega) (by simp) ((mS2.rf σ).st _ (by omega)) (by simp [av_st]) (fun i h1 h2 => by omega)
  have e : (m : Int) - 1 - ((0 : Nat) : Int) = (m : Int) - 1 := by omega
  rw [e] at this
  exact this
theorem rw_dg_rg (x m i : Nat) : 0 ≤ rw_dg x m i ∧ rw_dg x m i ≤ 4 := by
  unfold rw_dg
  omega
/-- the readings of a row, by reader k -/
def dB (D : gq_D) (k : Nat) (row : Nat → Int) (m : Nat) : List (List Nat) := gq_all D.1 (dkw (dk D k) (fun _ => true)) (dk D k) row m
theorem gq_all_P {D : gq_D} {k : Nat} {row : Nat → Int} {m : Nat} : gq_all D.1 (mkw (2 ^ D.1.1 - 1) (dk D k)) (dk D k) row m = dB D k row m := by
  unfold dB gq_all gq_rd
  split
  · rfl
  · refine gq_f_kw (fun w hw => ?_) _ _ _
    unfold dkw mkw
    rw [Nat.testBit_two_pow_sub_one]
    have : w / 2 < D.1.1 := by omega
    simp [this]
theorem s_beginsD {E : av_E} {σ : av_M} {Q : Option av_V → av_M → Prop} {D : gq_D} {k m : Nat} {row : Nat → Int} (h : mD σ D) (hk : k < D.2.1) (h31 : σ 0 31 = (m : Int)) (hm : m ≤ 9) (hrow : ∀ i, i < m → σ 20 i = row i ∧ rg (row i)) (hQ : ∀ σ' row', mS2 σ σ' → mIt σ' D.1 (2 ^ D.1.1 - 1) row' m (dk D k) (dB D k row m) → Q none σ') : av_C E mSH mX5_begins [av_r 0, av_i (k : Int), av_i ((2 ^ D.1.1 - 1 : Nat) : Int)] σ Q :=
  s_begins2 (row := row) h.2.1 (h.kd hk) h31 hm (pw_R h.1.1.1) hrow (fun σ' S I => hQ σ' _ S (by rw [gq_all_P] at I; exact I))
theorem s_isReadingOf {E : av_E} {σ : av_M} {Q : Option av_V → av_M → Prop} {D : gq_D} {x m k : Nat} (h : mD σ D) (hk : k < D.2.1) (hx : x < 2147483648) (hm : m ≤ 9) (hQ : ∀ σ', mS2 σ σ' → Q (some (av_i (if dB D k (rw_dg x m) m = [] then 0 else 1))) σ') : av_C E mSH mX5_isReadingOf [av_r 0, av_i (x : Int), av_i (m : Int), av_i (k : Int)] σ Q := by
  apply uX5_isReadingOf
  refine s_isRow hx hm (fun σ1 S1 a1 a2 => ⟨rfl, s_allD (h.s2 S1) ⟨_, rfl, s_beginsD (row := rw_dg x m) (h.s2 S1) hk a1 hm (fun i hi => ⟨a2 i hi, by have := rw_dg_rg x m i; omega⟩) (fun σ2 row' S2 I => ⟨rfl, ?_⟩)⟩⟩)
  refine s_isNext I (fun he σ'' S3 _ => ⟨_, rfl, Or.inl rfl, ?_⟩) (fun y ys he σ'' S3 _ _ => ⟨_, rfl, Or.inr rfl, ?_⟩)
  · have := hQ σ'' ((S1.tr S2).tr S3.s2)
    rwa [if_pos he] at this
  · have := hQ σ'' ((S1.tr S2).tr S3.s2)
    rwa [if_neg (by rw [he]; simp)] at this
theorem s_numberOf {E : av_E} {σ : av_M} {Q : Option av_V → av_M → Prop} {x m : Nat} (hx : x < 2147483648) (hm : m ≤ 9) (hQ : ∀ σ', mS2 σ σ' → Q (some (av_i (rw_no m x))) σ') : av_C E mSH mX5_numberOf [av_r 0, av_i (x : Int), av_i (m : Int)] σ Q := by
  apply uX5_numberOf
  refine s_isRow hx hm (fun σ1 S1 a1 a2 => ⟨rfl, ?_⟩)
  have key : ∀ (t j : Nat), m - j = t → j ≤ m → av_W E mSH mX5_numberOf 11 [some (av_r 0), some (av_i (x : Int)), some (av_i (m : Int)), some (av_i (rw_nu (rw_dg x m) j)), some (av_i (j : Int))] [] σ1 Q := by
    intro t
    induction t with
    | zero =>
      intro j ht hj
      apply uX5_numberOf_11
      have : j = m := by omega
      subst this
      exact ⟨by omega, by omega, fun _ => hQ σ1 S1, fun c => by omega⟩
    | succ t ih =>
      intro j ht hj
      apply uX5_numberOf_11
      have e3 : (j : Int) + 1 = ((j + 1 : Nat) : Int) := by omega
      rw [Int.toNat_natCast, a2 j (by omega), e3]
      exact ⟨by omega, by omega, fun c => by omega, fun _ => ⟨by omega, ih (j + 1) (by omega) (by omega)⟩⟩
  exact key _ 0 rfl (Nat.zero_le _)
theorem pow5_lt {m : Nat} (h : m ≤ 4) : 5 ^ m ≤ 625 := Nat.le_trans (Nat.pow_le_pow_right (by omega) h) (by decide)
def sh_P (D : gq_D) (k j : Nat) (q : Nat × Nat) : Bool := decide (dB D k (rw_dg q.2 q.1) q.1 ≠ []) && decide (dB D j (rw_dg q.2 q.1) q.1 = [])
def sp_shortest (D : gq_D) (k j : Int) : Int := if (0 ≤ k ∧ k < D.2.1) ∧ 0 ≤ j ∧ j < D.2.1 then rw_fd (sh_P D k.toNat j.toNat) (rw_rest 1) else -1
theorem mo_shortest {E : av_E} {σ : av_M} {Q : Option av_V → av_M → Prop} {D : gq_D} {k j : Int} (h : mD σ D) (hk : rg k) (hj : rg j) (hQ : ∀ σ', mS2 σ σ' → Q (some (av_i (sp_shortest D k j))) σ') : av_C E mSH mX5_shortest [av_r 0, av_i k, av_i j] σ Q := by
  apply uX5_shortest
  unfold sp_shortest at hQ
  refine s_isReader h hk ⟨_, rfl, ?_⟩
  by_cases h1 : 0 ≤ k ∧ k < D.2.1
  · rw [if_pos h1]
    refine ⟨by decide, fun c => absurd c (by decide), fun _ => s_isReader h hj ⟨_, rfl, ?_⟩⟩
    by_cases h2 : 0 ≤ j ∧ j < D.2.1
    · rw [if_pos ⟨h1, h2⟩] at hQ
      rw [if_pos h2]
      obtain ⟨q, rfl⟩ := Int.eq_ofNat_of_zero_le h1.1
      obtain ⟨u, rfl⟩ := Int.eq_ofNat_of_zero_le h2.1
      rw [Int.toNat_natCast, Int.toNat_natCast] at hQ
      refine ⟨by decide, fun _ => ?_, fun c => absurd c (by decide)⟩
      have key : ∀ (t m : Nat) (τ : av_M), 5 - m = t → m ≤ 5 → mS2 σ τ → rw_fd (sh_P D q u) (rw_rest m) = rw_fd (sh_P D q u) (rw_rest 1) → ∀ (x3 : Int), x3 * 5 = ((5 ^ m : Nat) : Int) → av_W E mSH mX5_shortest 23 [some (av_r 0), some (av_i (q : Int)), some (av_i (u : Int)), some (av_i x3), some (av_i (m : Int)), none] [] τ Q := by
        intro t
        induction t with
        | zero =>
          intro m τ ht hm S' he x3 hx3
          apply uX5_shortest_23
          refine ⟨by omega, fun _ => ?_, fun c => by omega⟩
          have := hQ τ S'
          rw [← he, rw_rest_end (by omega)] at this
          exact this
        | succ t ih =>
          intro m τ ht hm S' he x3 hx3
          apply uX5_shortest_23
          have hp := pow5_lt (show m ≤ 4 by omega)
          rw [hx3]
          refine ⟨by omega, fun c => by omega, fun _ => ?_⟩
          have inner : ∀ (s x : Nat) (τ : av_M), 5 ^ m - x = s → x ≤ 5 ^ m → mS2 σ τ → rw_fd (sh_P D q u) (rw_in m x ++ rw_rest (m + 1)) = rw_fd (sh_P D q u) (rw_rest 1) → av_W E mSH mX5_shortest 36 [some (av_r 0), some (av_i (q : Int)), some (av_i (u : Int)), some (av_i ((5 ^ m : Nat) : Int)), some (av_i (m : Int)), some (av_i (x : Int))] [] τ Q := by
            intro s
            induction s with
            | zero =>
              intro x τ hs hx S'' he2
              apply uX5_shortest_36
              have e3 : (m : Int) + 1 = ((m + 1 : Nat) : Int) := by omega
              rw [e3]
              rw [rw_in_end (by omega), List.nil_append] at he2
              refine ⟨by omega, by omega, fun _ => ih (m + 1) τ (by omega) (by omega) S'' he2 _ ?_, fun c => by omega⟩
              rw [Nat.pow_succ]
              omega
            | succ s ih2 =>
              intro x τ hs hx S'' he2
              have hD := h.s2 S''
              apply uX5_shortest_36
              have e3 : (x : Int) + 1 = ((x + 1 : Nat) : Int) := by omega
              rw [rw_in_step (by omega), List.cons_append, rw_fd_app] at he2
              rw [e3]
              refine ⟨by omega, by omega, fun c => by omega, fun _ => s_isReadingOf hD (by omega) (by omega) (by omega) (fun τ2 S2 => ⟨_, rfl, ?_⟩)⟩
              by_cases ha : dB D q (rw_dg x m) m = []
              · rw [if_pos ha]
                have hP : sh_P D q u (m, x) = false := by simp [sh_P, ha]
                rw [hP] at he2
                exact ⟨by decide, fun _ => ih2 (x + 1) τ2 (by omega) (by omega) (S''.tr S2) he2, fun c => absurd rfl c⟩
              · rw [if_neg ha]
                refine ⟨by decide, fun c => absurd c (by decide), fun _ => s_isReadingOf (hD.s2 S2) (by omega) (by omega) (by omega) (fun τ3 S3 => ⟨_, rfl, ?_⟩)⟩
                by_cases hb : dB D u (rw_dg x m) m = []
                · rw [if_pos hb]
                  have hP : sh_P D q u (m, x) = true := by simp [sh_P, ha, hb]
                  rw [hP, if_pos rfl] at he2
                  refine ⟨by decide, fun c => absurd rfl c, fun _ => s_numberOf (by omega) (by omega) (fun τ4 S4 => ⟨_, rfl, ?_⟩)⟩
                  have := hQ τ4 (((S''.tr S2).tr S3).tr S4)
                  rw [← he2] at this
                  exact this
                · rw [if_neg hb]
                  have hP : sh_P D q u (m, x) = false := by simp [sh_P, hb]
                  rw [hP] at he2
                  exact ⟨by decide, fun _ => ih2 (x + 1) τ3 (by omega) (by omega) ((S''.tr S2).tr S3) he2, fun c => absurd c (by decide)⟩
          exact inner _ 0 τ rfl (Nat.zero_le _) S' (by rw [← rw_rest_step (by omega)]; exact he)
      exact key _ 1 σ rfl (by omega) (mS2.rf σ) rfl 1 rfl
    · rw [if_neg (fun z => h2 z.2)] at hQ
      rw [if_neg h2]
      exact ⟨by decide, fun c => absurd rfl c, fun _ => hQ σ (mS2.rf σ)⟩
  · rw [if_neg (fun z => h1 z.1)] at hQ
    rw [if_neg h1]
    exact ⟨by decide, fun _ => hQ σ (mS2.rf σ), fun c => absurd rfl c⟩
-- what was seen
def so_i (D : gq_D) (k : Nat) (w : Int) (q : Nat × Nat) : Prop := ∃ t, gq_top D.1 (dk D k) (dB D k (rw_dg q.2 q.1) q.1) (dB D k (rw_dg q.2 q.1) q.1).length t ∧ gq_wt D.1 ((dB D k (rw_dg q.2 q.1) q.1).getD t []) = w
def so_P (D : gq_D) (S : Nat) (sr : Nat → Nat) (sw : Nat → Int) (q : Nat × Nat) : Prop := ∀ i, i < S → so_i D (sr i) (sw i) q
noncomputable def so_B (D : gq_D) (S : Nat) (sr : Nat → Nat) (sw : Nat → Int) (q : Nat × Nat) : Bool := @decide (so_P D S sr sw q) (Classical.propDecidable _)
theorem so_B_iff {D : gq_D} {S : Nat} {sr : Nat → Nat} {sw : Nat → Int} {q : Nat × Nat} : so_B D S sr sw q = true ↔ so_P D S sr sw q := by
  unfold so_B
  exact @decide_eq_true_iff _ (Classical.propDecidable _)
/-- what the model has seen -/
def mSn (σ : av_M) (D : gq_D) (S : Nat) (sr : Nat → Nat) (sw : Nat → Int) : Prop := σ 0 13 = (S : Int) ∧ S ≤ 6 ∧ ∀ i, i < S → (σ 10 (2 * i) = (sr i : Int) ∧ sr i < D.2.1) ∧ σ 10 (2 * i + 1) = sw i ∧ 0 ≤ sw i ∧ sw i ≤ 600
theorem mSn.s2 {σ σ' : av_M} {D : gq_D} {S : Nat} {sr : Nat → Nat} {sw : Nat → Int} (h : mSn σ D S sr sw) (e : mS2 σ σ') : mSn σ' D S sr sw := by
  refine ⟨by rw [e 0 13 (by omega) (by omega) (by omega) (by omega)]; exact h.1, h.2.1, fun i hi => ?_⟩
  rw [e 10 _ (by omega) (by omega) (by omega) (by omega), e 10 _ (by omega) (by omega) (by omega) (by omega)]
  exact h.2.2 i hi
theorem s_isSo {E : av_E} {σ : av_M} {Q : Option av_V → av_M → Prop} {D : gq_D} {x m S : Nat} {sr : Nat → Nat} {sw : Nat → Int} (h : mD σ D) (H : mSn σ D S sr sw) (hx : x < 2147483648) (hm : m ≤ 9) (hQ : ∀ σ', mS2 σ σ' → Q (some (av_i (if so_B D S sr sw (m, x) = true then 1 else 0))) σ') : av_C E mSH mX5_isSo [av_r 0, av_i (x : Int), av_i (m : Int)] σ Q := by
  apply uX5_isSo
  have hS6 := H.2.1
  have no : ∀ τ, mS2 σ τ → ¬ so_P D S sr sw (m, x) → Q (some (av_i 0)) τ := fun τ S1 hn => by
    have := hQ τ S1
    rwa [if_neg (fun z => hn (so_B_iff.mp z))] at this
  have key : ∀ (t i : Nat) (τ : av_M), S - i = t → i ≤ S → mS2 σ τ → (∀ j, j < i → so_i D (sr j) (sw j) (m, x)) → av_W E mSH mX5_isSo 5 [some (av_r 0), some (av_i (x : Int)), some (av_i (m : Int)), some (av_i 1), some (av_i (i : Int))] [] τ Q := by
    intro t
    induction t with
    | zero =>
      intro i τ ht hi S1 B
      have H1 := H.s2 S1
      apply uX5_isSo_5
      rw [H1.1]
      refine ⟨by omega, by omega, fun _ => ⟨Or.inr rfl, ?_⟩, fun c => by omega⟩
      have := hQ τ S1
      rwa [if_pos (so_B_iff.mpr (fun j hj => B j (by omega)))] at this
    | succ t ih =>
      intro i τ ht hi S1 B
      have H1 := H.s2 S1
      have hD := h.s2 S1
      obtain ⟨⟨b1, b2⟩, b3, b4, b5⟩ := H1.2.2 i (by omega)
      apply uX5_isSo_5
      rw [H1.1]
      refine ⟨by omega, by omega, fun c => by omega, fun _ => ⟨by decide, fun c => absurd c (by decide), fun _ => ?_⟩⟩
      refine s_isRow hx hm (fun σ1 S2 a1 a2 => ⟨rfl, by omega, s_allD (hD.s2 S2) ⟨_, rfl, ?_⟩⟩)
      have e1 : (2 * (i : Int)).toNat = 2 * i := by omega
      have e2 : (2 * (i : Int) + 1).toNat = 2 * i + 1 := by omega
      have H2 := H1.s2 S2
      rw [e1, (H2.2.2 i (by omega)).1.1]
      refine s_beginsD (row := rw_dg x m) (hD.s2 S2) b2 a1 hm (fun i hi => ⟨a2 i hi, by have := rw_dg_rg x m i; omega⟩) (fun σ2 row' S3 I => ⟨rfl, ?_⟩)
      have S13 := (S1.tr S2).tr S3
      have fail : ∀ τ2 (i' : Int), mS2 σ τ2 → rg i' → ¬ so_i D (sr i) (sw i) (m, x) → av_W E mSH mX5_isSo 5 [some (av_r 0), some (av_i (x : Int)), some (av_i (m : Int)), some (av_i 0), some (av_i i')] [] τ2 Q := by
        intro τ2 i' S4 hi' hn
        have hno := no τ2 S4 (fun z => hn (z i (by omega)))
        apply uX5_isSo_5
        rw [(H.s2 S4).1]
        exact ⟨hi', by omega, fun _ => ⟨Or.inl rfl, hno⟩, fun _ => ⟨by decide, fun _ => ⟨Or.inl rfl, hno⟩, fun c => absurd rfl c⟩⟩
      refine s_isTelling h.1.1 I (gq_all_few h.1.1 hm) (fun he σ'' S4 => ⟨_, rfl, by decide, fun _ => fail σ'' _ (S13.tr S4) (by omega) ?_, fun c => absurd rfl c⟩) (fun u hu σ'' S4 q1 q2 q3 => ⟨_, rfl, by decide, fun c => absurd c (by decide), fun _ => ⟨by omega, ?_⟩⟩)
      · rintro ⟨u, hu, -⟩
        have := hu.1
        rw [he] at this
        simp at this
      · have H4 := H.s2 (S13.tr S4)
        rw [e2, (H4.2.2 i (by omega)).2.1, q2]
        have hwl : 0 ≤ gq_wt D.1 ((dB D (sr i) (rw_dg x m) m).getD u []) ∧ gq_wt D.1 ((dB D (sr i) (rw_dg x m) m).getD u []) ≤ 60 * (((dB D (sr i) (rw_dg x m) m).getD u []).length : Int) := gq_wt_le h.1.1 _ (gq_all_lt _ (gq_getD_mem hu.1))
        have hlen : ((dB D (sr i) (rw_dg x m) m).getD u []).length ≤ m := gq_all_len h.1.1 _ (gq_getD_mem hu.1)
        refine ⟨by omega, by omega, fun c => fail σ'' _ (S13.tr S4) (by omega) ?_, fun c => ?_⟩
        · rintro ⟨u', hu', hw'⟩
          have := gq_top_uniq hu hu'
          subst this
          exact c hw'
        · have e3 : (i : Int) + 1 = ((i + 1 : Nat) : Int) := by omega
          rw [e3]
          refine ih (i + 1) σ'' (by omega) (by omega) (S13.tr S4) (fun j hj => ?_)
          by_cases hji : j = i
          · subst hji
            exact ⟨u, hu, c⟩
          · exact B j (by omega)
  exact key _ 0 σ rfl (Nat.zero_le _) (mS2.rf σ) (fun j hj => by omega)
