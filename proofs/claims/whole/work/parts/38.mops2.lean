/-- what reader k tells, its weight, its verbs: of the list A of his readings -/
def gq_tl (g : gq_T) (kd : Nat) (A : List (List Nat)) (w r : Int) : Prop := (A = [] ∧ r = -4) ∨ ∃ i, gq_top g kd A A.length i ∧ r = (if w = 0 then (i : Int) else if w = 1 then gq_wt g (A.getD i []) else (gq_vs g (A.getD i []) 0 : Int))
def gq_sy (g : gq_T) (kd : Nat) (A : List (List Nat)) (v : Nat) : Prop := (A = [] ∧ v = 0) ∨ ∃ i, gq_top g kd A A.length i ∧ v = gq_vs g (A.getD i []) 0
theorem gq_top_ne {g : gq_T} {kd m i : Nat} (h : gq_top g kd [] m i) (hm : m = 0) : False := by have := h.1; omega
theorem gq_tl_uniq {g : gq_T} {kd : Nat} {A : List (List Nat)} {w r r' : Int} (h : gq_tl g kd A w r) (k : gq_tl g kd A w r') : r = r' := by
  rcases h with ⟨a, b⟩ | ⟨i, a, b⟩ <;> rcases k with ⟨c, d⟩ | ⟨j, c, d⟩
  · rw [b, d]
  · subst a; exact absurd c.1 (by simp)
  · subst c; exact absurd a.1 (by simp)
  · rw [b, d, gq_top_uniq a c]
theorem gq_sy_uniq {g : gq_T} {kd : Nat} {A : List (List Nat)} {r r' : Nat} (h : gq_sy g kd A r) (k : gq_sy g kd A r') : r = r' := by
  rcases h with ⟨a, b⟩ | ⟨i, a, b⟩ <;> rcases k with ⟨c, d⟩ | ⟨j, c, d⟩
  · rw [b, d]
  · subst a; exact absurd c.1 (by simp)
  · subst c; exact absurd a.1 (by simp)
  · rw [b, d, gq_top_uniq a c]
theorem gq_vs_lt {g : gq_T} (V : gq_V g) : ∀ (x : List Nat) (a : Nat), a < 16 → (∀ w ∈ x, w < 2 * g.1) → gq_vs g x a < 16
  | [], a, ha, _ => ha
  | w :: x, a, ha, h => by
    rw [gq_vs]
    refine gq_vs_lt V x _ ?_ (fun u hu => h u (List.mem_cons_of_mem _ hu))
    split
    · have h1 := V.2.2.2.2.1 (w / 2) (by have := h w List.mem_cons_self; omega)
      refine Nat.or_lt_two_pow (n := 4) ha ?_
      exact Nat.lt_of_le_of_lt (Nat.pow_le_pow_right (by omega) (by omega : (g.2.2.2.2 (w / 2)).toNat ≤ 3)) (by decide)
    · exact ha
/-- all words of all readings are words -/
theorem gq_f_lt {g : gq_T} {kw : Nat → Bool} {row : Nat → Int} {n : Nat} {acc : Nat → Bool} : ∀ (f p s : Nat), ∀ x ∈ gq_f g kw row n acc f p s, ∀ w ∈ x, w < 2 * g.1 := by
  intro f
  induction f with
  | zero =>
    intro p s x hx w hw
    simp only [gq_f] at hx
    split at hx
    · rw [List.mem_singleton] at hx
      subst hx
      cases hw
    · cases hx
  | succ f ih =>
    intro p s x hx w hw
    simp only [gq_f] at hx
    split at hx
    · split at hx
      · rw [List.mem_singleton] at hx
        subst hx
        cases hw
      · cases hx
    · obtain ⟨u, hu, hx⟩ := List.mem_flatMap.mp hx
      have hu2 := List.mem_range.mp hu
      split at hx
      · obtain ⟨t, ht, rfl⟩ := List.mem_map.mp hx
        rcases List.mem_cons.mp hw with rfl | hw
        · exact hu2
        · exact ih _ _ t ht w hw
      · cases hx
theorem gq_all_lt {g : gq_T} {kw : Nat → Bool} {kd : Nat} {row : Nat → Int} {n : Nat} : ∀ x ∈ gq_all g kw kd row n, ∀ w ∈ x, w < 2 * g.1 := by
  intro x hx
  unfold gq_all gq_rd at hx
  split at hx
  · cases hx
  · exact gq_f_lt _ _ _ x hx
theorem gq_getD_mem {A : List (List Nat)} {i : Nat} (h : i < A.length) : A.getD i [] ∈ A := by
  rw [List.getD_eq_getElem?_getD, List.getElem?_eq_getElem h]
  exact List.getElem_mem h
theorem gq_sy_lt {g : gq_T} (V : gq_V g) {kw : Nat → Bool} {kd : Nat} {row : Nat → Int} {n v : Nat} (h : gq_sy g kd (gq_all g kw kd row n) v) : v < 16 := by
  rcases h with ⟨-, b⟩ | ⟨i, a, b⟩
  · omega
  · rw [b]
    exact gq_vs_lt V _ _ (by omega) (gq_all_lt _ (gq_getD_mem a.1))
def sp_tells (D : gq_D) (k w r : Int) : Prop := if (0 ≤ k ∧ k < D.2.1) ∧ 0 ≤ w ∧ w ≤ 2 then gq_tl D.1 (dk D k.toNat) (dAA D k.toNat) w r else r = -1
theorem mo_tells {E : av_E} {σ : av_M} {Q : Option av_V → av_M → Prop} {D : gq_D} {k w : Int} (h : mD σ D) (hk : rg k) (hw : rg w) (hQ : ∀ r σ', mS2 σ σ' → sp_tells D k w r → Q (some (av_i r)) σ') : av_C E mSH mX5_tells [av_r 0, av_i k, av_i w] σ Q := by
  apply uX5_tells
  unfold sp_tells at hQ
  refine s_isReader h hk ⟨_, rfl, ?_⟩
  by_cases h1 : 0 ≤ k ∧ k < D.2.1
  · rw [if_pos h1]
    refine ⟨by decide, fun c => absurd c (by decide), fun _ => s_in hw (by decide) (by decide) ⟨_, rfl, ?_⟩⟩
    by_cases h2 : 0 ≤ w ∧ w ≤ 2
    · simp only [if_pos (show (0 ≤ k ∧ k < D.2.1) ∧ 0 ≤ w ∧ w ≤ 2 from ⟨h1, h2⟩)] at hQ
      rw [if_pos h2]
      obtain ⟨q, rfl⟩ := Int.eq_ofNat_of_zero_le h1.1
      rw [Int.toNat_natCast] at hQ
      refine ⟨by decide, fun _ => s_allD h ⟨_, rfl, s_asWD h (by omega) (pw_R h.1.1.1) (fun σ' row S I => ⟨rfl, ?_⟩)⟩, fun c => absurd c (by decide)⟩
      rw [dA_all] at I
      refine s_isTelling h.1.1 I (dA_few h.1 _ _) (fun he σ'' S2 => ⟨_, rfl, by decide, fun c => absurd rfl c, fun _ => hQ _ σ'' (S.tr S2) (Or.inl ⟨he, rfl⟩)⟩) (fun i hi σ'' S2 q1 q2 q3 => ⟨_, rfl, by decide, fun _ => ⟨hw, fun c => ⟨hw, fun c2 => ?_, fun c2 => ?_⟩, fun c => ?_⟩, fun c => absurd c (by decide)⟩)
      · exact hQ _ σ'' (S.tr S2) (Or.inr ⟨i, hi, by rw [q3, if_neg c, if_neg c2]⟩)
      · exact hQ _ σ'' (S.tr S2) (Or.inr ⟨i, hi, by rw [q2, if_neg c, if_pos c2]⟩)
      · exact hQ _ σ'' (S.tr S2) (Or.inr ⟨i, hi, by rw [q1, if_pos c]⟩)
    · simp only [if_neg (show ¬ ((0 ≤ k ∧ k < D.2.1) ∧ 0 ≤ w ∧ w ≤ 2) from fun z => h2 z.2)] at hQ
      rw [if_neg h2]
      exact ⟨by decide, fun c => absurd rfl c, fun _ => hQ _ σ (mS2.rf σ) rfl⟩
  · simp only [if_neg (show ¬ ((0 ≤ k ∧ k < D.2.1) ∧ 0 ≤ w ∧ w ≤ 2) from fun z => h1 z.1)] at hQ
    rw [if_neg h1]
    exact ⟨by decide, fun _ => hQ _ σ (mS2.rf σ) rfl, fun c => absurd rfl c⟩
theorem s_verbsBy {E : av_E} {σ : av_M} {Q : Option av_V → av_M → Prop} {D : gq_D} {k : Nat} (h : mD σ D) (hk : k < D.2.1) (hQ : ∀ (v : Nat) σ', mS2 σ σ' → gq_sy D.1 (dk D k) (dAA D k) v → v < 16 → Q (some (av_i (v : Int))) σ') : av_C E mSH mX5_verbsBy [av_r 0, av_i (k : Int)] σ Q := by
  apply uX5_verbsBy
  refine s_allD h ⟨_, rfl, s_asWD h hk (pw_R h.1.1.1) (fun σ' row S I => ⟨rfl, ?_⟩)⟩
  rw [dA_all] at I
  refine s_isTelling h.1.1 I (dA_few h.1 _ _) (fun he σ'' S2 => ⟨_, rfl, by decide, fun _ => hQ 0 σ'' (S.tr S2) (Or.inl ⟨he, rfl⟩) (by omega), fun c => absurd rfl c⟩) (fun i hi σ'' S2 q1 q2 q3 => ⟨_, rfl, by decide, fun c => absurd c (by decide), fun _ => ?_⟩)
  rw [q3]
  have hs : gq_sy D.1 (dk D k) (dAA D k) (gq_vs D.1 ((dAA D k).getD i []) 0) := Or.inr ⟨i, hi, rfl⟩
  exact hQ _ σ'' (S.tr S2) hs (gq_sy_lt h.1.1 hs)
theorem s_isReadable {E : av_E} {σ : av_M} {Q : Option av_V → av_M → Prop} {D : gq_D} {k kn : Nat} (h : mD σ D) (hk : k < D.2.1) (hkn : kn < 256) (hQ : ∀ σ', mS2 σ σ' → Q (some (av_i (if dA D kn.testBit k = [] then 0 else 1))) σ') : av_C E mSH mX5_isReadable [av_r 0, av_i (k : Int), av_i (kn : Int)] σ Q := by
  apply uX5_isReadable
  refine s_asWD h hk hkn (fun σ' row S I => ⟨rfl, s_isNext I (fun he σ'' S2 _ => ⟨_, rfl, Or.inl rfl, ?_⟩) (fun x xs he σ'' S2 _ _ => ⟨_, rfl, Or.inr rfl, ?_⟩)⟩)
  · have := hQ σ'' (S.tr S2.s2)
    rwa [if_pos he] at this
  · have := hQ σ'' (S.tr S2.s2)
    rwa [if_neg (by rw [he]; simp)] at this
def sp_low (a b : Nat) (part : Int) : Int := (((if part = 0 then a else b) / Nat.gcd a b : Nat) : Int)
theorem s_lowest {E : av_E} {σ : av_M} {Q : Option av_V → av_M → Prop} {a b : Nat} {part : Int} (ha : a < 2147483648) (hb : 0 < b ∧ b < 2147483648) (hp : rg part) (hQ : Q (some (av_i (sp_low a b part))) σ) : av_C E mSH mX5_lowest [av_i (a : Int), av_i (b : Int), av_i part] σ Q := by
  apply uX5_lowest
  have key : ∀ (z y : Nat), Nat.gcd y z = Nat.gcd a b → y < 2147483648 → z < 2147483648 → av_W E mSH mX5_lowest 5 [some (av_i (a : Int)), some (av_i (b : Int)), some (av_i part), some (av_i (y : Int)), some (av_i (z : Int)), none] [] σ Q := by
    intro z
    induction z using Nat.strongRecOn with
    | _ z ih =>
    intro y hg hy hz
    apply uX5_lowest_5
    refine ⟨by omega, fun c => ?_, fun c => ?_⟩
    · have z0 : z = 0 := by omega
      subst z0
      rw [Nat.gcd_zero_right] at hg
      have hpos : 0 < Nat.gcd a b := Nat.gcd_pos_of_pos_right a hb.1
      unfold sp_low at hQ
      rw [← hg] at hQ
      refine ⟨hp, fun c2 => ⟨by omega, by omega, ?_⟩, fun c2 => ⟨by omega, by omega, ?_⟩⟩
      · rw [if_neg c2] at hQ
        exact hQ
      · rw [if_pos c2] at hQ
        exact hQ
    · have hz0 : 0 < z := by omega
      have e : (y : Int) % (z : Int) = ((y % z : Nat) : Int) := (Int.natCast_emod y z).symm
      have hlt := Nat.mod_lt y hz0
      rw [e]
      refine ⟨by omega, by omega, ih (y % z) hlt z ?_ hz (by omega)⟩
      rw [← hg, Nat.gcd_comm z, ← Nat.gcd_rec, Nat.gcd_comm]
  exact key b a rfl ha hb.2
def sp_belief (D : gq_D) (k v part : Int) : Int := if (0 ≤ k ∧ k < D.2.1) ∧ (1 ≤ v ∧ v ≤ 3) ∧ 0 ≤ part ∧ part ≤ 1 then sp_low ((dAA D k.toNat).countP (fun x => (gq_vs D.1 x 0).testBit v.toNat)) (if (dAA D k.toNat).length = 0 then 1 else (dAA D k.toNat).length) part else -1
theorem mo_belief {E : av_E} {σ : av_M} {Q : Option av_V → av_M → Prop} {D : gq_D} {k v part : Int} (h : mD σ D) (hk : rg k) (hv : rg v) (hp : rg part) (hQ : ∀ σ', mS2 σ σ' → Q (some (av_i (sp_belief D k v part))) σ') : av_C E mSH mX5_belief [av_r 0, av_i k, av_i v, av_i part] σ Q := by
  apply uX5_belief
  unfold sp_belief at hQ
  refine s_isReader h hk ⟨_, rfl, ?_⟩
  by_cases h1 : 0 ≤ k ∧ k < D.2.1
  · rw [if_pos h1]
    refine ⟨by decide, fun c => absurd c (by decide), fun _ => s_in hv (by decide) (by decide) ⟨_, rfl, ?_⟩⟩
    by_cases h2 : 1 ≤ v ∧ v ≤ 3
    · rw [if_pos h2]
      refine ⟨by decide, fun c => absurd c (by decide), fun _ => s_in hp (by decide) (by decide) ⟨_, rfl, ?_⟩⟩
      by_cases h3 : 0 ≤ part ∧ part ≤ 1
      · rw [if_pos ⟨h1, h2, h3⟩] at hQ
        rw [if_pos h3]
        obtain ⟨q, rfl⟩ := Int.eq_ofNat_of_zero_le h1.1
        obtain ⟨u, rfl⟩ := Int.eq_ofNat_of_zero_le (show 0 ≤ v by omega)
        rw [Int.toNat_natCast, Int.toNat_natCast] at hQ
        refine ⟨by decide, fun _ => s_allD h ⟨_, rfl, s_asWD h (by omega) (pw_R h.1.1.1) (fun σ' row S I => ⟨rfl, ?_⟩)⟩, fun c => absurd c (by decide)⟩
        rw [dA_all] at I
        have few := dA_few h.1 (fun _ => true) q
        have few2 : (dAA D q).length ≤ 10077696 := few
        have hcl := List.countP_le_length (p := fun x => (gq_vs D.1 x 0).testBit u) (l := dAA D q)
        have key : ∀ (rest : List (List Nat)) (c m : Nat) (τ : av_M), c + rest.countP (fun x => (gq_vs D.1 x 0).testBit u) = (dAA D q).countP (fun x => (gq_vs D.1 x 0).testBit u) → m + rest.length = (dAA D q).length → (∀ x ∈ rest, ∀ w ∈ x, w < 2 * D.1.1) → mS2 σ τ → mIt τ D.1 (2 ^ D.1.1 - 1) row D.2.2.2.2 (dk D q) rest →
            av_W E mSH mX5_belief 43 [some (av_r 0), some (av_i (q : Int)), some (av_i (u : Int)), some (av_i part), some (av_i (c : Int)), some (av_i (m : Int))] [] τ Q := by
          intro rest
          induction rest with
          | nil =>
            intro c m τ hc hm _ S' I'
            apply uX5_belief_43
            simp at hc hm
            refine s_isNext I' (fun _ σ'' S'' _ => ⟨_, rfl, by decide, fun _ => ⟨by omega, fun c2 => ?_, fun c2 => ?_⟩, fun c => absurd rfl c⟩) (fun x xs e => by cases e)
            · rw [if_neg (by omega), ← hc, ← hm] at hQ
              exact s_lowest (by omega) (by omega) hp ⟨_, rfl, hQ σ'' (S'.tr S''.s2)⟩
            · rw [if_pos (by omega), ← hc] at hQ
              exact s_lowest (b := 1) (by omega) (by omega) hp ⟨_, rfl, hQ σ'' (S'.tr S''.s2)⟩
          | cons y ys ih =>
            intro c m τ hc hm hw S' I'
            rw [List.countP_cons] at hc
            rw [List.length_cons] at hm
            apply uX5_belief_43
            refine s_isNext I' (fun e => by cases e) (fun z zs e σ'' S'' I'' H => ⟨_, rfl, by decide, fun c => absurd c (by decide), fun _ => ?_⟩)
            cases e
            have G := h.2.1.s2 (S'.tr S''.s2)
            refine s_verbs H h.1.1.1 (fun r hr => ⟨G.2.2.2.2.2 r hr, h.1.1.2.2.2.2.1 r hr⟩) ⟨_, rfl, ?_⟩
            have hlt := gq_vs_lt h.1.1 y 0 (by omega) (hw y List.mem_cons_self)
            refine s_has (by omega) (by omega) ⟨_, rfl, ?_⟩
            have e3 : (m : Int) + 1 = ((m + 1 : Nat) : Int) := by omega
            rw [e3]
            by_cases ht : (gq_vs D.1 y 0).testBit u = true
            · rw [if_pos ht]
              rw [ht] at hc
              have e4 : (c : Int) + 1 = ((c + 1 : Nat) : Int) := by omega
              rw [e4]
              refine ⟨by decide, fun c => absurd c (by decide), fun _ => ih (c + 1) (m + 1) σ'' ?_ (by omega) (fun x hx => hw x (List.mem_cons_of_mem _ hx)) (S'.tr S''.s2) I''⟩
              simp at hc
              omega
            · rw [if_neg ht]
              rw [if_neg ht] at hc
              have e4 : (c : Int) + 0 = (c : Int) := by omega
              rw [e4]
              exact ⟨by decide, fun _ => ih c (m + 1) σ'' (by omega) (by omega) (fun x hx => hw x (List.mem_cons_of_mem _ hx)) (S'.tr S''.s2) I'', fun c => absurd rfl c⟩
        exact key (dAA D q) 0 0 σ' (by omega) (by omega) (fun x hx => gq_all_lt x hx) S I
      · rw [if_neg (fun z => h3 z.2.2)] at hQ
        rw [if_neg h3]
        exact ⟨by decide, fun c => absurd rfl c, fun _ => hQ σ (mS2.rf σ)⟩
    · rw [if_neg (fun z => h2 z.2.1)] at hQ
      rw [if_neg h2]
      exact ⟨by decide, fun _ => hQ σ (mS2.rf σ), fun c => absurd rfl c⟩
  · rw [if_neg (fun z => h1 z.1)] at hQ
    rw [if_neg h1]
    exact ⟨by decide, fun _ => hQ σ (mS2.rf σ), fun c => absurd rfl c⟩
/-- the roots without which there is no reading -/
def gq_wo (D : gq_D) (k m : Nat) : Prop := ∀ j, m.testBit j = (decide (j < D.1.1) && decide (dA D (fun r => decide (r ≠ j)) k = []))
def sp_without (D : gq_D) (k r : Int) : Prop := if 0 ≤ k ∧ k < D.2.1 then (if dAA D k.toNat = [] then r = -4 else ∃ m : Nat, gq_wo D k.toNat m ∧ r = (m : Int)) else r = -1
theorem mo_without {E : av_E} {σ : av_M} {Q : Option av_V → av_M → Prop} {D : gq_D} {k : Int} (h : mD σ D) (hk : rg k) (hQ : ∀ r σ', mS2 σ σ' → sp_without D k r → Q (some (av_i r)) σ') : av_C E mSH mX5_without [av_r 0, av_i k] σ Q := by
  apply uX5_without
  unfold sp_without at hQ
  refine s_isReader h hk ⟨_, rfl, ?_⟩
  by_cases h1 : 0 ≤ k ∧ k < D.2.1
  · simp only [if_pos h1] at hQ
    rw [if_pos h1]
    obtain ⟨q, rfl⟩ := Int.eq_ofNat_of_zero_le h1.1
    rw [Int.toNat_natCast] at hQ
    refine ⟨by decide, fun _ => s_allD h ⟨_, rfl, s_isReadable h (by omega) (pw_R h.1.1.1) (fun σ' S => ⟨_, rfl, ?_⟩)⟩, fun c => absurd c (by decide)⟩
    rw [dA_all]
    by_cases he : dAA D q = []
    · simp only [if_pos he] at hQ
      rw [if_pos he]
      exact ⟨by decide, fun c => absurd rfl c, fun _ => hQ _ σ' S rfl⟩
    · simp only [if_neg he] at hQ
      rw [if_neg he]
      refine ⟨by decide, fun _ => ?_, fun c => absurd c (by decide)⟩
      have hR8 := h.1.1.1
      have key : ∀ (t i m : Nat) (τ : av_M), D.1.1 - i = t → i ≤ D.1.1 → mS2 σ τ → m < 256 → (∀ j, m.testBit j = (decide (j < i) && decide (dA D (fun r => decide (r ≠ j)) q = []))) → av_W E mSH mX5_without 29 [some (av_r 0), some (av_i (q : Int)), some (av_i (m : Int)), some (av_i (i : Int))] [] τ Q := by
        intro t
        induction t with
        | zero =>
          intro i m τ ht hi S' hm B
          have hD := h.s2 S'
          apply uX5_without_29
          rw [hD.2.1.2.1]
          have : i = D.1.1 := by omega
          subst this
          exact ⟨by omega, by omega, fun _ => hQ _ τ S' ⟨m, B, rfl⟩, fun c => by omega⟩
        | succ t ih =>
          intro i m τ ht hi S' hm B
          have hD := h.s2 S'
          have hil : i < D.1.1 := by omega
          apply uX5_without_29
          rw [hD.2.1.2.1]
          have hpw := pw_R hR8
          have h2i : 2 ^ i < 256 := Nat.lt_of_lt_of_le (Nat.pow_lt_pow_right (by omega) (show i < 8 by omega)) (by decide)
          have e1 : i_shl 1 (i : Int) = ((2 ^ i : Nat) : Int) := by
            have := bt_shl (a := 1) (k := i) (by omega) (by omega)
            rw [Nat.one_mul] at this
            exact this
          rw [e1]
          obtain ⟨a, ha1, ha2, ha3, ha4⟩ := bt_andn (a := 2 ^ D.1.1 - 1) (b := 2 ^ i) (by omega) (by omega)
          refine ⟨by omega, by omega, fun c => by omega, fun _ => s_allD hD ⟨_, rfl, ?_⟩⟩
          rw [ha1]
          refine s_isReadable hD (by omega) (by omega) (fun τ' S2 => ⟨_, rfl, ?_⟩)
          have ea : dA D a.testBit q = dA D (fun r => decide (r ≠ i)) q := dA_congr (fun r hr => by
            rw [ha4, Nat.testBit_two_pow_sub_one, Nat.testBit_two_pow]
            simp [hr]
            omega)
          rw [ea]
          have e3 : (i : Int) + 1 = ((i + 1 : Nat) : Int) := by omega
          rw [e3]
          by_cases hz : dA D (fun r => decide (r ≠ i)) q = []
          · rw [if_pos hz, bt_or (by omega) (by omega)]
            refine ⟨by decide, fun _ => ih (i + 1) _ τ' (by omega) (by omega) (S'.tr S2) (Nat.or_lt_two_pow (n := 8) hm h2i) (fun j => ?_), fun c => absurd rfl c⟩
            rw [Nat.testBit_or, B j, Nat.testBit_two_pow]
            by_cases hji : j = i
            · subst hji
              rw [decide_eq_true hz]
              simp
            · have q1 : ¬ i = j := fun z => hji z.symm
              have q2 : (j < i + 1) ↔ (j < i) := by omega
              simp [q1, q2]
          · have e4 : i_or (m : Int) 0 = (m : Int) := by
              have := bt_or (a := m) (b := 0) (by omega) (by omega)
              rw [Nat.or_zero] at this
              exact this
            rw [if_neg hz, e4]
            refine ⟨by decide, fun c => absurd c (by decide), fun _ => ih (i + 1) m τ' (by omega) (by omega) (S'.tr S2) hm (fun j => ?_)⟩
            rw [B j]
            by_cases hji : j = i
            · subst hji
              rw [decide_eq_false hz]
              simp
            · have q2 : (j < i + 1) ↔ (j < i) := by omega
              simp [q2]
      exact key _ 0 0 σ' rfl (Nat.zero_le _) S (by omega) (fun j => by simp)
  · simp only [if_neg h1] at hQ
    rw [if_neg h1]
    exact ⟨by decide, fun c => absurd rfl c, fun _ => hQ _ σ (mS2.rf σ) rfl⟩
