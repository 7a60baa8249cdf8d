def dk (D : gq_D) (k : Nat) : Nat := (D.2.2.1 (3 * k)).toNat
/-- the readings of what is written, by reader k, of the roots that P lets -/
def dkw (kd : Nat) (P : Nat → Bool) (w : Nat) : Bool := P (w / 2) && !(decide (kd = 1) && decide (w % 2 = 1))
def dA (D : gq_D) (P : Nat → Bool) (k : Nat) : List (List Nat) := gq_all D.1 (dkw (dk D k) P) (dk D k) D.2.2.2.1 D.2.2.2.2
def dAA (D : gq_D) (k : Nat) : List (List Nat) := dA D (fun _ => true) k
theorem gq_f_kw {g : gq_T} {kw kw' : Nat → Bool} {row : Nat → Int} {n : Nat} {acc : Nat → Bool} (h : ∀ w, w < 2 * g.1 → kw w = kw' w) : ∀ (f p s : Nat), gq_f g kw row n acc f p s = gq_f g kw' row n acc f p s := by
  intro f
  induction f with
  | zero => intro p s; rfl
  | succ f ih =>
    intro p s
    simp only [gq_f]
    split
    · rfl
    · refine gq_fm (fun w hw => ?_)
      have hw2 := List.mem_range.mp hw
      have e : gq_ok g kw row n p s w = gq_ok g kw' row n p s w := by unfold gq_ok; rw [h w hw2]
      rw [e]
      split
      · rw [ih]
      · rfl
theorem dA_congr {D : gq_D} {P P' : Nat → Bool} {k : Nat} (h : ∀ r, r < D.1.1 → P r = P' r) : dA D P k = dA D P' k := by
  unfold dA gq_all gq_rd
  split
  · rfl
  · refine gq_f_kw (fun w hw => ?_) _ _ _
    unfold dkw
    rw [h (w / 2) (by omega)]
theorem dA_all {D : gq_D} {k : Nat} : dA D ((2 ^ D.1.1 - 1 : Nat).testBit) k = dAA D k := dA_congr (fun r hr => by
  rw [Nat.testBit_two_pow_sub_one]
  simp [hr])
def mD (σ : av_M) (D : gq_D) : Prop := gq_DV D ∧ mG σ D.1 ∧ σ 0 5 = (D.2.1 : Int) ∧ (∀ j, j < 3 * D.2.1 → σ 5 j = D.2.2.1 j) ∧ σ 7 4 = (D.2.2.2.2 : Int) ∧ ∀ i, i < D.2.2.2.2 → σ 7 (5 + i) = D.2.2.2.1 i
theorem mD.s2 {σ σ' : av_M} {D : gq_D} (h : mD σ D) (e : mS2 σ σ') : mD σ' D := by
  obtain ⟨V, h1, h2, h3, h4, h5⟩ := h
  refine ⟨V, h1.s2 e, ?_, ?_, ?_, ?_⟩
  · rw [e 0 5 (by omega) (by omega) (by omega) (by omega)]; exact h2
  · intro r hr; rw [e 5 r (by omega) (by omega) (by omega) (by omega)]; exact h3 r hr
  · rw [e 7 4 (by omega) (by omega) (by omega) (by omega)]; exact h4
  · intro r hr; rw [e 7 _ (by omega) (by omega) (by omega) (by omega)]; exact h5 r hr
theorem mD.kd {σ : av_M} {D : gq_D} (h : mD σ D) {k : Nat} (hk : k < D.2.1) : mKd σ k (dk D k) := by
  obtain ⟨V, h1, h2, h3, h4, h5⟩ := h
  have := V.2.2.2.1 k hk
  have h6 := h3 (3 * k) (by omega)
  unfold mKd dk
  have := V.2.2.1
  exact ⟨by omega, by omega, by omega⟩
theorem mD.wt {σ : av_M} {D : gq_D} (h : mD σ D) : mWt σ D.2.2.2.1 D.2.2.2.2 := ⟨h.2.2.2.2.1, h.1.2.2.2.2.1, fun i hi => ⟨h.2.2.2.2.2 i hi, h.1.2.2.2.2.2 i hi⟩⟩
theorem s_isReader {E : av_E} {σ : av_M} {Q : Option av_V → av_M → Prop} {D : gq_D} {a : Int} (h : mD σ D) (ha : rg a) (hQ : Q (some (av_i (if 0 ≤ a ∧ a < D.2.1 then 1 else 0))) σ) : av_C E mSH mX5_isReader [av_r 0, av_i a] σ Q := by
  apply uX5_isReader
  obtain ⟨V, h1, h2, h3, h4, h5⟩ := h
  have := V.2.1
  have := V.2.2.1
  rw [h2]
  refine s_in ha (by omega) (by omega) ⟨_, rfl, ?_, ?_⟩
  · split <;> simp
  · have e : (0 ≤ a ∧ a ≤ (D.2.1 : Int) - 1) ↔ (0 ≤ a ∧ a < D.2.1) := by omega
    rw [if_iffc e]
    exact hQ
theorem pw_R {R : Nat} (h : R ≤ 8) : 2 ^ R - 1 < 256 := by
  have : 2 ^ R ≤ 2 ^ 8 := Nat.pow_le_pow_right (by omega) h
  have : 0 < 2 ^ R := Nat.two_pow_pos R
  omega
/-- all() and asWritten(k, all()) -/
theorem s_allD {E : av_E} {σ : av_M} {Q : Option av_V → av_M → Prop} {D : gq_D} (h : mD σ D) (hQ : Q (some (av_i ((2 ^ D.1.1 - 1 : Nat) : Int))) σ) : av_C E mSH mX5_all [av_r 0] σ Q := s_all h.2.1.2.1 h.1.1.1 hQ
theorem s_asWD {E : av_E} {σ : av_M} {Q : Option av_V → av_M → Prop} {D : gq_D} {k kn : Nat} (h : mD σ D) (hk : k < D.2.1) (hkn : kn < 256) (hQ : ∀ σ' row, mS2 σ σ' → mIt σ' D.1 kn row D.2.2.2.2 (dk D k) (dA D kn.testBit k) → Q none σ') : av_C E mSH mX5_asWritten [av_r 0, av_i (k : Int), av_i (kn : Int)] σ Q :=
  s_asWritten h.2.1 (h.kd hk) h.wt hkn (fun σ' S I => hQ σ' _ S I)
theorem dA_few {D : gq_D} (V : gq_DV D) (P : Nat → Bool) (k : Nat) : (dA D P k).length ≤ 10077696 := gq_all_few V.1 V.2.2.2.2.1
def sp_reader (D : gq_D) (k w : Int) : Int := if (0 ≤ k ∧ k < D.2.1) ∧ 0 ≤ w ∧ w ≤ 3 then (if w = 3 then ((dAA D k.toNat).length : Int) else D.2.2.1 (3 * k.toNat + w.toNat)) else -1
theorem mo_reader {E : av_E} {σ : av_M} {Q : Option av_V → av_M → Prop} {D : gq_D} {k w : Int} (h : mD σ D) (hk : rg k) (hw : rg w) (hQ : ∀ σ', mS2 σ σ' → Q (some (av_i (sp_reader D k w))) σ') : av_C E mSH mX5_reader [av_r 0, av_i k, av_i w] σ Q := by
  apply uX5_reader
  have hK := h.1.2.2.1
  unfold sp_reader at hQ
  refine s_isReader h hk ⟨_, rfl, ?_⟩
  by_cases h1 : 0 ≤ k ∧ k < D.2.1
  · rw [if_pos h1]
    refine ⟨by decide, fun c => absurd c (by decide), fun _ => s_in hw (by decide) (by decide) ⟨_, rfl, ?_⟩⟩
    by_cases h2 : 0 ≤ w ∧ w ≤ 3
    · rw [if_pos ⟨h1, h2⟩] at hQ
      rw [if_pos h2]
      refine ⟨by decide, fun _ => ⟨hw, fun c => ?_, fun c => ?_⟩, fun c => absurd c (by decide)⟩
      · rw [if_pos (by omega : w = 3)] at hQ
        obtain ⟨q, rfl⟩ := Int.eq_ofNat_of_zero_le h1.1
        refine s_allD h ⟨_, rfl, ?_⟩
        refine s_asWD h (by omega) (pw_R h.1.1.1) (fun σ' row S I => ⟨rfl, s_manyReadings I (fun σ'' S2 => ⟨_, rfl, ?_⟩)⟩)
        rw [dA_all]
        exact hQ σ'' (S.tr S2.s2)
      · rw [if_neg (by omega : ¬ w = 3)] at hQ
        have e : (3 * k + w).toNat = 3 * k.toNat + w.toNat := by omega
        rw [e, h.2.2.2.1 _ (by omega)]
        exact ⟨by omega, hQ σ (mS2.rf σ)⟩
    · rw [if_neg (fun z => h2 z.2)] at hQ
      rw [if_neg h2]
      exact ⟨by decide, fun c => absurd rfl c, fun _ => hQ σ (mS2.rf σ)⟩
  · rw [if_neg (fun z => h1 z.1)] at hQ
    rw [if_neg h1]
    exact ⟨by decide, fun _ => hQ σ (mS2.rf σ), fun c => absurd rfl c⟩
theorem s_isReading {E : av_E} {σ : av_M} {Q : Option av_V → av_M → Prop} {D : gq_D} {k i : Int} (h : mD σ D) (hk : rg k) (hi : rg i) (h0 : ¬ ((0 ≤ k ∧ k < D.2.1) ∧ 0 ≤ i ∧ i < (dAA D k.toNat).length) → ∀ σ', mS2 σ σ' → Q (some (av_i 0)) σ')
    (h1 : ((0 ≤ k ∧ k < D.2.1) ∧ 0 ≤ i ∧ i < (dAA D k.toNat).length) → ∀ σ', mS2 σ σ' → mFd σ' D.1 ((dAA D k.toNat).getD i.toNat []) → Q (some (av_i 1)) σ') : av_C E mSH mX5_isReading [av_r 0, av_i k, av_i i] σ Q := by
  apply uX5_isReading
  refine s_isReader h hk ⟨_, rfl, ?_⟩
  by_cases g1 : 0 ≤ k ∧ k < D.2.1
  · rw [if_pos g1]
    obtain ⟨q, rfl⟩ := Int.eq_ofNat_of_zero_le g1.1
    rw [Int.toNat_natCast] at h0 h1
    refine ⟨by decide, fun c => absurd c (by decide), fun _ => ⟨hi, fun c => ?_, fun c => h0 (by omega) σ (mS2.rf σ)⟩⟩
    obtain ⟨j, rfl⟩ := Int.eq_ofNat_of_zero_le c
    rw [Int.toNat_natCast] at h1
    refine s_allD h ⟨_, rfl, s_asWD h (by omega) (pw_R h.1.1.1) (fun σ' row S I => ⟨rfl, ?_⟩)⟩
    rw [dA_all] at I
    have few := dA_few h.1 (fun _ => true) q
    have key : ∀ (rest : List (List Nat)) (m : Nat) (τ : av_M), (dAA D q).drop m = rest → m ≤ (dAA D q).length → m ≤ j → mS2 σ τ → mIt τ D.1 (2 ^ D.1.1 - 1) row D.2.2.2.2 (dk D q) rest →
        av_W E mSH mX5_isReading 25 [some (av_r 0), some (av_i (q : Int)), some (av_i (j : Int)), some (av_i (m : Int))] [] τ Q := by
      intro rest
      induction rest with
      | nil =>
        intro m τ hd hm hmj S' I'
        have hml : m = (dAA D q).length := by
          have := congrArg List.length hd
          rw [List.length_drop] at this
          simp at this
          omega
        apply uX5_isReading_25
        exact s_isNext I' (fun _ σ'' S'' _ => ⟨_, rfl, by decide, fun _ => h0 (by omega) σ'' (S'.tr S''.s2), fun c => absurd rfl c⟩) (fun x xs e => by cases e)
      | cons y ys ih =>
        intro m τ hd hm hmj S' I'
        have hml : m < (dAA D q).length := by
          have := congrArg List.length hd
          rw [List.length_drop] at this
          simp at this
          omega
        have hy : (dAA D q).getD m [] = y ∧ (dAA D q).drop (m + 1) = ys := by
          rw [List.drop_eq_getElem_cons hml] at hd
          cases hd
          rw [List.getD_eq_getElem?_getD, List.getElem?_eq_getElem hml]
          exact ⟨rfl, rfl⟩
        apply uX5_isReading_25
        have few2 : (dAA D q).length ≤ 10077696 := few
        refine s_isNext I' (fun e => by cases e) (fun z zs e σ'' S'' I'' H => ⟨_, rfl, by decide, fun c => absurd c (by decide), fun _ => ⟨by omega, hi, fun c => ?_, fun c => ?_⟩⟩)
        · cases e
          have e3 : (m : Int) + 1 = ((m + 1 : Nat) : Int) := by omega
          rw [e3]
          exact ih (m + 1) σ'' hy.2 (by omega) (by omega) (S'.tr S''.s2) I''
        · cases e
          have hmj2 : m = j := by omega
          refine h1 (by omega) σ'' (S'.tr S''.s2) ?_
          rw [← hmj2, hy.1]
          exact H
    exact key _ 0 σ' rfl (Nat.zero_le _) (Nat.zero_le _) S I
  · rw [if_neg g1]
    exact ⟨by decide, fun _ => h0 (fun z => g1 z.1) σ (mS2.rf σ), fun c => absurd rfl c⟩
def sp_reading (D : gq_D) (k i w : Int) : Int := if (0 ≤ w ∧ w ≤ 2) ∧ (0 ≤ k ∧ k < D.2.1) ∧ 0 ≤ i ∧ i < (dAA D k.toNat).length then (if w = 0 then (((dAA D k.toNat).getD i.toNat []).length : Int) else if w = 1 then gq_wt D.1 ((dAA D k.toNat).getD i.toNat []) else (gq_vs D.1 ((dAA D k.toNat).getD i.toNat []) 0 : Int)) else -1
theorem mo_reading {E : av_E} {σ : av_M} {Q : Option av_V → av_M → Prop} {D : gq_D} {k i w : Int} (h : mD σ D) (hk : rg k) (hi : rg i) (hw : rg w) (hQ : ∀ σ', mS2 σ σ' → Q (some (av_i (sp_reading D k i w))) σ') : av_C E mSH mX5_reading [av_r 0, av_i k, av_i i, av_i w] σ Q := by
  apply uX5_reading
  unfold sp_reading at hQ
  refine s_in hw (by decide) (by decide) ⟨_, rfl, ?_⟩
  by_cases h2 : 0 ≤ w ∧ w ≤ 2
  · rw [if_pos h2]
    refine ⟨by decide, fun c => absurd c (by decide), fun _ => s_isReading h hk hi (fun hn σ' S => ⟨_, rfl, ?_⟩) (fun hp σ' S H => ⟨_, rfl, ?_⟩)⟩
    · rw [if_neg (fun z => hn z.2)] at hQ
      exact ⟨by decide, fun c => absurd rfl c, fun _ => hQ σ' S⟩
    · rw [if_pos ⟨h2, hp⟩] at hQ
      have G := h.2.1.s2 S
      refine ⟨by decide, fun _ => ⟨hw, fun c => ⟨hw, fun c2 => ?_, fun c2 => ?_⟩, fun c => ?_⟩, fun c => absurd c (by decide)⟩
      · rw [if_neg c, if_neg c2] at hQ
        exact s_verbs H h.1.1.1 (fun r hr => ⟨G.2.2.2.2.2 r hr, h.1.1.2.2.2.2.1 r hr⟩) ⟨_, rfl, hQ σ' S⟩
      · rw [if_neg c, if_pos c2] at hQ
        exact s_weighs H h.1.1.1 (fun r hr => G.2.2.2.2.1 r hr) ⟨_, rfl, hQ σ' S⟩
      · rw [if_pos c] at hQ
        have := hQ σ' S
        have e : σ' 0 36 + 1 = (((dAA D k.toNat).getD i.toNat []).length : Int) := by have := H.1; omega
        rw [e]
        exact this
  · rw [if_neg (fun z => h2 z.1)] at hQ
    rw [if_neg h2]
    exact ⟨by decide, fun _ => hQ σ (mS2.rf σ), fun c => absurd rfl c⟩
def sp_word (D : gq_D) (k i j : Int) : Int := if 0 ≤ j ∧ (0 ≤ k ∧ k < D.2.1) ∧ 0 ≤ i ∧ i < (dAA D k.toNat).length then (if j < (((dAA D k.toNat).getD i.toNat []).length : Int) then ((((dAA D k.toNat).getD i.toNat []).getD j.toNat 0 : Nat) : Int) else -4) else -1
theorem mo_word {E : av_E} {σ : av_M} {Q : Option av_V → av_M → Prop} {D : gq_D} {k i j : Int} (h : mD σ D) (hk : rg k) (hi : rg i) (hj : rg j) (hQ : ∀ σ', mS2 σ σ' → Q (some (av_i (sp_word D k i j))) σ') : av_C E mSH mX5_word [av_r 0, av_i k, av_i i, av_i j] σ Q := by
  apply uX5_word
  unfold sp_word at hQ
  refine ⟨hj, fun c => ?_, fun c => ?_⟩
  · rw [if_neg (by omega)] at hQ
    exact hQ σ (mS2.rf σ)
  · refine s_isReading h hk hi (fun hn σ' S => ⟨_, rfl, ?_⟩) (fun hp σ' S H => ⟨_, rfl, ?_⟩)
    · rw [if_neg (fun z => hn z.2)] at hQ
      exact ⟨by decide, fun c => absurd rfl c, fun _ => hQ σ' S⟩
    · rw [if_pos ⟨c, hp⟩] at hQ
      have hl := H.1
      have hl9 := H.2.2.1
      refine ⟨by decide, fun _ => ⟨hj, by omega, fun c2 => ?_, fun c2 => ?_⟩, fun c => absurd c (by decide)⟩
      · rw [if_pos (by omega)] at hQ
        have hjl : j.toNat < ((dAA D k.toNat).getD i.toNat []).length := by omega
        refine ⟨by omega, ?_⟩
        rw [H.2.2.2.1 j.toNat hjl]
        have := hQ σ' S
        rwa [List.getD_eq_getElem?_getD (l := (dAA D k.toNat).getD i.toNat []), List.getElem?_eq_getElem hjl] at this
      · rw [if_neg (by omega)] at hQ
        exact hQ σ' S
