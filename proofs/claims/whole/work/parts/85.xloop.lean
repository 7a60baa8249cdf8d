/-! the class's constructor: the first text is read -/
def f_tx : String := "ra,5,1;rb,0,2;rab,12,0;rba,7,3;rc,3,0;rcd,20,2;rd,1,1;rdab,40,0;k0,2,5;k1,1,3;k2,3,12;k3,1,0;k4,4,8;wabacdab;v18,4,3;g25;"
def f_l0 : gq_T × Nat × (Nat → Int) := ((0, fun _ => 0, fun _ => 0, fun _ => 0, fun _ => 0), 0, fun _ => 0)
theorem f_l0V : gq_V f_l0.1 := ⟨by decide, fun r hr => absurd hr (Nat.not_lt_zero r), fun r i hr => absurd hr (Nat.not_lt_zero r), fun r hr => absurd hr (Nat.not_lt_zero r), fun r hr => absurd hr (Nat.not_lt_zero r), fun r q hr => absurd hr (Nat.not_lt_zero r)⟩
theorem f_l0W {σ : av_M} {b : Nat} (h : ∀ a k, b ≤ a → a ≤ b + 8 → σ a k = 0) : cWd σ b f_l0 :=
  ⟨by rw [h b 8 (by omega) (by omega)]; rfl, by rw [h b 9 (by omega) (by omega)]; rfl, fun r hr => absurd hr (Nat.not_lt_zero r), fun r hr => absurd hr (Nat.not_lt_zero r), fun x hx => ⟨0, by rw [h (b + 8) x (by omega) (by omega)]; rfl, by decide, fun w => by
    constructor
    · intro q; simp at q
    · intro q; have := q.1; simp [f_l0] at this⟩⟩
/-- k letters of the first text are written -/
def f_wr (σ : av_M) (k : Nat) : Prop := σ 1 1 = (k : Int) ∧ (∀ i, i < k → σ 2 i = ((pc f_cs i : Nat) : Int)) ∧ ∀ a b, a ≠ 2 → ¬ (a = 1 ∧ b = 1) → σ a b = 0
theorem c_addF {E : av_E} {σ : av_M} {Q : Option av_V → av_M → Prop} {k : Nat} (h : f_wr σ k) (hk : k < 121) (hQ : ∀ σ', f_wr σ' (k + 1) → Q (some (av_i 1)) σ') : av_C E cSH mX2_add [av_r 1, av_i ((pc f_cs k : Nat) : Int)] σ Q := by
  apply uX2_add
  have hle := pc_le f_rg k
  obtain ⟨h1, h2, h3⟩ := h
  rw [h1, Int.toNat_natCast]
  refine ⟨by omega, fun _ => ⟨by omega, by omega, hQ _ ⟨?_, fun i hi => ?_, fun a b p q => ?_⟩⟩, fun c => by omega⟩
  · simp [av_st]
  · by_cases hik : i = k
    · subst hik
      simp [av_st]
    · simp only [av_st]
      rw [if_neg (by omega), if_neg (by omega)]
      exact h2 i (by omega)
  · simp only [av_st]
    rw [if_neg (by omega), if_neg (by omega)]
    exact h3 a b p q
theorem av_getO {p : Program} {e : Env} {R : Room} {s : State} {m : MethodId} {args : Array Value} {below : List Frame} {meth : Method} {c : Code} {H : Heap} {locs : List Loc} {cells slots : Nat} {Q : State → Prop} {M : av_Y} {pc : Nat} {ls : Array Slot} {rest : List Value} {E : av_E} {SH : List av_S} {σ : av_M} {i ci k idx N r : Nat} {fs : List (Option Nat)} {CN : String} {T : u_T} (B : gB M p s m args c) (hK : av_K E s) (hR : av_R E SH H σ) (hs : SH[i]? = some (.inr (ci, fs))) (hc : vwCl[ci]? = some (CN, T, N)) (hin : ∀ w ∈ u_ws CN T N, w ∈ av_T) (hk : k < N) (hw : Cond.fieldLink M.1.cls idx (T k).1 (T k).2.1 (T k).2.2.1 ∈ av_T) (hf : fs[k]? = some (some r)) (hd : decode M.2.1 pc = .ok (.getfield idx, 3))
    (kk : W p E.1 e R s m args below meth c H locs cells slots Q (F0 m (pc + 3) ls (.ref (E.2.2.1 r) :: rest))) : W p E.1 e R s m args below meth c H locs cells slots Q (F0 m pc ls (.ref (E.2.2.1 i) :: rest)) := by
  refine va_get (ref := (T k).1) (v := .ref (E.2.2.1 r)) B.1 B.2.1 B.2.2.2.1 hin B.2.2.2.2 hK.1 hR.1 i (av_w_at hs) hc k hk (B.2.2.2.1 _ hw) (fun _ h9 => h9) ?_ hd kk
  simp [List.getElem?_mapIdx, hf]
set_option maxHeartbeats 2000000 in
theorem x4_loop {p : Program} {l : Launch} {e : Env} {s : State} {m : MethodId} {args : Array Value} {below : List Frame} {meth : Method} {c : Code} {D : va_G} {ad aK aV : Nat → Nat} {cI cC : ClassId} {A : Nat → Prop} (GB : gB mX4_init p s m args c) (hret : meth.sig.returnType = none) (hlocks : meth.locks = false) (hKE : av_K (l, D, ad, f_ty cI cC) s) (hF0 : fP aK aV A s s.heap) (hZ : vk_R RX4 58 f_tx (aK 0) s) (hsub : ∀ z, av_A (l, D, ad, f_ty cI cC) cSH z → A z)
    {Qc : Array Value → State → Outcome → State → Prop} (hQc : ∀ (t : State) (σ : av_M), cRM σ (q_lay f_W []) → av_R (l, D, ad, f_ty cI cC) cSH t.heap σ → va_F A s t → Qc args s (.returned none) t) :
    ∀ (n k : Nat) (σ : av_M) (H : Heap) (locs : List Loc) (ls : Array Slot), k + n = 121 → f_wr σ k → av_R (l, D, ad, f_ty cI cC) cSH H σ → va_S A s.heap H locs → lv_has ls 2 [(1, .int (nI k)), (0, .ref (ad 0))] → W p l e (gM mX4_init 34 982) s m args below meth c H locs 34 982 (MQ below Qc args s 34 982 A) (F0 m 106 ls []) := by
  have hx := GB.1
  have hb := GB.2.1
  have ht := GB.2.2.2.1
  have hown := GB.2.2.2.2
  have fPn : ∀ {H : Heap} {locs : List Loc}, va_S A s.heap H locs → fP aK aV nA s H := fun hS => (hF0.kept hS.2.1).narrow (fun _ h => h.elim)
  intro n
  induction n with
  | zero =>
    intro k σ H locs ls hk hw hR hS hl
    have hk121 : k = 121 := by omega
    subst hk121
    refine lv_iload_n hx hb dX4_init_106 rfl (lv_at hl 0 rfl) ?_
    refine va_ldcS hx hb hown hZ dX4_init_107 ?_
    refine f_callV (M := mX4_init) (M' := mf_le) (as := []) (rest := [.int (nI 121)]) GB (c_length l aK aV) (fPn hS) mbf_le rfl wIf_le wSf_le wMf_le4 ⟨Nat.le_of_ble_eq_true rfl, Nat.le_of_ble_eq_true rfl⟩ (Nat.le_of_ble_eq_true rfl) hl.1 ⟨Nat.le_of_ble_eq_true rfl, Nat.le_of_ble_eq_true rfl⟩ hS dX4_init_109 (fun H1 l1 K1 _ hS1 => ?_)
    have hR1 := hR.kept (fun z hz _ => K1 z hz)
    refine lv_icmp_ge (tgt := 135) hx hb dX4_init_112 (by decide) (fun _ => ?_) (fun q => absurd (by decide) q)
    -- the text is read
    refine lv_aload_n hx hb dX4_init_135 rfl (lv_at hl 1 rfl) ?_
    refine av_getO (M := mX4_init) (E := (l, D, ad, f_ty cI cC)) (SH := cSH) (i := 0) (k := 0) (r := 1) GB hKE hR1 rfl rfl iuX4 (by decide) wF_X4_35 rfl dX4_init_136 ?_
    refine lv_aload_n hx hb dX4_init_139 rfl (lv_at hl 1 rfl) ?_
    refine av_getO (M := mX4_init) (E := (l, D, ad, f_ty cI cC)) (SH := cSH) (i := 0) (k := 1) (r := 3) GB hKE hR1 rfl rfl iuX4 (by decide) wF_X4_42 rfl dX4_init_140 ?_
    obtain ⟨w1, w2, w3⟩ := hw
    have hT : cTx σ f_cs := ⟨by rw [w1, f_len], by rw [f_len]; decide, fun i c hc => by
      have hi : i < f_cs.length := (List.getElem?_eq_some_iff.mp hc).1
      have e := pc_in hi
      rw [hc] at e
      rw [Option.some.inj e]
      exact w2 i (by rw [f_len] at hi; exact hi), f_rg⟩
    have hW3 : cWd σ 3 f_l0 := f_l0W (fun a k p q => w3 a k (by omega) (by omega))
    have hW12 : cWd σ 12 f_l0 := f_l0W (fun a k p q => w3 a k (by omega) (by omega))
    refine av_useV (M := mX4_init) (E := (l, D, ad, f_ty cI cC)) (SH := cSH) (i := 1) (as := [av_r 3]) (rest := []) mX2_firstFault GB hKE dX4_init_143 rfl rfl rfl mbX2_firstFault rfl wI_X2_firstFault wS_X2_firstFault wM_X4_74 ⟨Nat.le_of_ble_eq_true rfl, Nat.le_of_ble_eq_true rfl⟩ (Nat.le_of_ble_eq_true rfl) hl.1 ⟨Nat.le_of_ble_eq_true rfl, Nat.le_of_ble_eq_true rfl⟩ hR1 hsub hS1 (c_firstFault_3 (Q := fun v σ' => v = some (av_i (-4)) ∧ cBw 3 σ σ' ∧ cW2 σ' 3 f_W) hT f_l0V hW3 (fun σ' F wv w1 w2 => ?_)) (fun v σ2 H2 l2 hq2 hR2 _ _ hS2 => ?_)
    · rw [f_fault] at w2 ⊢
      exact ⟨rfl, F, w2 rfl⟩
    obtain ⟨rfl, F2, W2⟩ := hq2
    refine lv_pop hx hb dX4_init_146 rfl ?_
    refine lv_aload_n hx hb dX4_init_147 rfl (lv_at hl 1 rfl) ?_
    refine av_getO (M := mX4_init) (E := (l, D, ad, f_ty cI cC)) (SH := cSH) (i := 0) (k := 0) (r := 1) GB hKE hR2 rfl rfl iuX4 (by decide) wF_X4_35 rfl dX4_init_148 ?_
    refine av_useV (M := mX4_init) (E := (l, D, ad, f_ty cI cC)) (SH := cSH) (i := 1) (as := []) (rest := []) mX2_clear GB hKE dX4_init_151 rfl rfl rfl mbX2_clear rfl wI_X2_clear wS_X2_clear wM_X4_78 ⟨Nat.le_of_ble_eq_true rfl, Nat.le_of_ble_eq_true rfl⟩ (Nat.le_of_ble_eq_true rfl) hl.1 ⟨Nat.le_of_ble_eq_true rfl, Nat.le_of_ble_eq_true rfl⟩ hR2 hsub hS2 (uX2_clear (Q := fun v σ' => v = none ∧ σ' = av_st σ2 1 1 0) ⟨rfl, rfl⟩) (fun v σ3 H3 l3 hq3 hR3 _ _ hS3 => ?_)
    obtain ⟨rfl, rfl⟩ := hq3
    have hT3 : cTx (av_st σ2 1 1 0) [] := ⟨by simp [av_st], by decide, fun i c hc => by simp at hc, fun c hc => by simp at hc⟩
    have W3 : cW2 (av_st σ2 1 1 0) 3 f_W := by
      obtain ⟨h1, h2, ⟨h3, h4, h5⟩, h6⟩ := W2
      refine ⟨h1.congr (fun a k p q _ => ?_) rfl rfl, ?_, ⟨?_, ?_, ?_⟩, ?_⟩
      · simp only [av_st]; rw [if_neg (by omega)]
      · simp [av_st]; exact h2
      · simp [av_st]; exact h3
      · simp [av_st]; exact h4
      · simp [av_st]; exact h5
      · simp [av_st]; exact h6
    have D3 : cWd (av_st σ2 1 1 0) 12 f_l0 := hW12.congr (fun a k p q => by
      simp only [av_st]
      rw [if_neg (by omega)]
      exact F2 a k (by omega) (by omega))
    refine lv_aload_n hx hb dX4_init_154 rfl (lv_at hl 1 rfl) ?_
    refine av_useV (M := mX4_init) (E := (l, D, ad, f_ty cI cC)) (SH := cSH) (i := 0) (as := []) (rest := []) mX4_begin GB hKE dX4_init_155 rfl rfl rfl mbX4_begin rfl wI_X4_begin wS_X4_begin wM_X4_81 ⟨Nat.le_of_ble_eq_true rfl, Nat.le_of_ble_eq_true rfl⟩ (Nat.le_of_ble_eq_true rfl) hl.1 ⟨Nat.le_of_ble_eq_true rfl, Nat.le_of_ble_eq_true rfl⟩ hR3 hsub hS3 (c_begin (Q := fun v σ' => v = none ∧ cRM σ' (q_lay f_W [])) hT3 f_Wv W3 f_l0V (by decide) D3 (fun σ' m' => ⟨rfl, m'⟩)) (fun v σ4 H4 l4 hq4 hR4 _ _ hS4 => ?_)
    obtain ⟨rfl, m4⟩ := hq4
    exact W.vret hx hb hret (fun t ht2 hW => hQc t σ4 m4 (by rw [ht2]; exact hR4) (hS4.F ht2)) hS4.2.2 dX4_init_158 hlocks
  | succ n ih =>
    intro k σ H locs ls hk hw hR hS hl
    refine lv_iload_n hx hb dX4_init_106 rfl (lv_at hl 0 rfl) ?_
    refine va_ldcS hx hb hown hZ dX4_init_107 ?_
    refine f_callV (M := mX4_init) (M' := mf_le) (as := []) (rest := [.int (nI k)]) GB (c_length l aK aV) (fPn hS) mbf_le rfl wIf_le wSf_le wMf_le4 ⟨Nat.le_of_ble_eq_true rfl, Nat.le_of_ble_eq_true rfl⟩ (Nat.le_of_ble_eq_true rfl) hl.1 ⟨Nat.le_of_ble_eq_true rfl, Nat.le_of_ble_eq_true rfl⟩ hS dX4_init_109 (fun H1 l1 K1 _ hS1 => ?_)
    have hR1 := hR.kept (fun z hz _ => K1 z hz)
    refine lv_icmp_ge (tgt := 135) hx hb dX4_init_112 (by decide) (fun q => absurd q (nI_ge (by omega) (by omega))) (fun _ => ?_)
    refine lv_aload_n hx hb dX4_init_115 rfl (lv_at hl 1 rfl) ?_
    refine av_getO (M := mX4_init) (E := (l, D, ad, f_ty cI cC)) (SH := cSH) (i := 0) (k := 0) (r := 1) GB hKE hR1 rfl rfl iuX4 (by decide) wF_X4_35 rfl dX4_init_116 ?_
    refine va_ldcS hx hb hown hZ dX4_init_119 ?_
    refine lv_iload_n hx hb dX4_init_121 rfl (lv_at hl 0 rfl) ?_
    refine f_callV (M := mX4_init) (M' := mf_ch) (as := [.int (nI k)]) (rest := [.ref (ad 1)]) GB (c_charAt l aK aV k (by omega)) (fPn hS1) mbf_ch rfl wIf_ch wSf_ch wMf_ch4 ⟨Nat.le_of_ble_eq_true rfl, Nat.le_of_ble_eq_true rfl⟩ (Nat.le_of_ble_eq_true rfl) hl.1 ⟨Nat.le_of_ble_eq_true rfl, Nat.le_of_ble_eq_true rfl⟩ hS1 dX4_init_122 (fun H2 l2 K2 _ hS2 => ?_)
    have hR2 := hR1.kept (fun z hz _ => K2 z hz)
    refine W.eq (g2 := F0 m 125 ls [Value.int (Int32.ofInt ((pc f_cs k : Nat) : Int)), Value.ref (ad 1)]) (by rw [nI_ofInt]; rfl) ?_
    refine av_useV (M := mX4_init) (E := (l, D, ad, f_ty cI cC)) (SH := cSH) (i := 1) (as := [av_i ((pc f_cs k : Nat) : Int)]) (rest := []) mX2_add GB hKE dX4_init_125 rfl rfl rfl mbX2_add rfl wI_X2_add wS_X2_add wM_X4_70 ⟨Nat.le_of_ble_eq_true rfl, Nat.le_of_ble_eq_true rfl⟩ (Nat.le_of_ble_eq_true rfl) hl.1 ⟨Nat.le_of_ble_eq_true rfl, Nat.le_of_ble_eq_true rfl⟩ hR2 hsub hS2 (c_addF (Q := fun v σ' => v = some (av_i 1) ∧ f_wr σ' (k + 1)) hw (by omega) (fun σ' w' => ⟨rfl, w'⟩)) (fun v σ3 H3 l3 hq3 hR3 _ _ hS3 => ?_)
    obtain ⟨rfl, w3⟩ := hq3
    refine lv_pop hx hb dX4_init_128 rfl ?_
    refine lv_iinc (v := nI (k + 1)) (lv' := [(1, .int (nI (k + 1))), (0, .ref (ad 0))]) hx hb dX4_init_129 hl (k := 0) rfl (by rw [nI_succ]; rfl) (by decide) rfl (fun ls1 hl1 => ?_)
    refine lv_goto (tgt := 106) hx hb dX4_init_132 (by decide) ?_
    exact ih (k + 1) σ3 H3 l3 ls1 (by omega) w3 hR3 hS3 hl1
