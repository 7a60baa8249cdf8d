/-! the operations, both sides in one form; the law's words -/
def lw_oC (M : av_Y) (as : List Int) (S S' : q_S) (P : Int → Prop) : Prop := ∀ (E : av_E) (σ : av_M), cRM σ S → av_C E cSH M (av_r 0 :: as.map av_i) σ (fun v σ' => ∃ r, v = some (av_i r) ∧ P r ∧ cRM σ' S')
def lw_oM (M : av_Y) (as : List Int) (T : Nat) (S S' : q_S) (P : Int → Prop) : Prop := ∀ (E : av_E) (σ : av_M), mRM σ S → av_C E mSH M (av_r 0 :: as.map av_i) σ (fun v σ' => ∃ r, v = some (av_i r) ∧ P r ∧ mRM σ' S' ∧ q_V (T + 24) S')
def lw_op (Mc Mm : av_Y) (as : List Int) (T : Nat) (S S' : q_S) (P : Int → Prop) : Prop := lw_oC Mc as S S' P ∧ lw_oM Mm as T S S' P ∧ ∀ r r', P r → P r' → r = r'
theorem sp_tells_uniq {D : gq_D} {k w r r' : Int} (h : sp_tells D k w r) (h' : sp_tells D k w r') : r = r' := by
  unfold sp_tells at h h'
  by_cases q : (0 ≤ k ∧ k < D.2.1) ∧ 0 ≤ w ∧ w ≤ 2
  · rw [if_pos q] at h h'
    exact gq_tl_uniq h h'
  · rw [if_neg q] at h h'
    rw [h, h']
theorem sp_without_uniq {D : gq_D} {k r r' : Int} (h : sp_without D k r) (h' : sp_without D k r') : r = r' := by
  unfold sp_without at h h'
  by_cases q : 0 ≤ k ∧ k < D.2.1
  · rw [if_pos q] at h h'
    by_cases q2 : dAA D k.toNat = []
    · rw [if_pos q2] at h h'
      rw [h, h']
    · rw [if_neg q2] at h h'
      obtain ⟨m, hm, rfl⟩ := h
      obtain ⟨n, hn, rfl⟩ := h'
      have : m = n := Nat.eq_of_testBit_eq (fun j => by rw [hm j, hn j])
      rw [this]
  · rw [if_neg q] at h h'
    rw [h, h']
theorem lwo_write {T : Nat} {S : q_S} {a : Int} (hT : T ≤ 50000) (V : q_V T S) (ha : rg a) : lw_op mX4_write mX5_write [a] T S (sp_write S a).2 (fun r => r = (sp_write S a).1) := by
  exact ⟨fun E σ h => co_write h V ha (fun σ' g => ⟨_, rfl, rfl, g⟩), fun E σ h => mo_write h V ha (fun σ' g v => ⟨_, rfl, rfl, g, v⟩), fun r r' p q => p.trans q.symm⟩
theorem lwo_wipe {T : Nat} {S : q_S} (hT : T ≤ 50000) (V : q_V T S) : lw_op mX4_wipe mX5_wipe [] T S (sp_wipe S).2 (fun r => r = (sp_wipe S).1) := by
  exact ⟨fun E σ h => co_wipe h (fun σ' g => ⟨_, rfl, rfl, g⟩), fun E σ h => mo_wipe h V (fun σ' g v => ⟨_, rfl, rfl, g, v⟩), fun r r' p q => p.trans q.symm⟩
theorem lwo_fault {T : Nat} {S : q_S} (hT : T ≤ 50000) (V : q_V T S) : lw_op mX4_fault mX5_fault [] T S S (fun z => z = sp_fault S) := by
  exact ⟨fun E σ h => co_fault h V (fun σ' g => ⟨_, rfl, rfl, g⟩), fun E σ h => mo_fault h V (fun σ' g => ⟨_, rfl, rfl, g, (V.mono (Nat.le_add_right T 24))⟩), fun r r' p q => p.trans q.symm⟩
theorem lwo_lay {T : Nat} {S : q_S} (hT : T ≤ 50000) (V : q_V T S) : lw_op mX4_lay mX5_lay [] T S (sp_lay S).2 (fun r => r = (sp_lay S).1) := by
  exact ⟨fun E σ h => co_lay h V (fun σ' g => ⟨_, rfl, rfl, g⟩), fun E σ h => mo_lay h V (fun σ' g v => ⟨_, rfl, rfl, g, v⟩), fun r r' p q => p.trans q.symm⟩
theorem lwo_root {T : Nat} {S : q_S} {r w : Int} (hT : T ≤ 50000) (V : q_V T S) (hr : rg r) (hw : rg w) : lw_op mX4_root mX5_root [r, w] T S S (fun z => z = sp_root S r w) := by
  exact ⟨fun E σ h => co_root h V hr hw ⟨_, rfl, rfl, h⟩, fun E σ h => mo_root h V hr hw ⟨_, rfl, rfl, h, (V.mono (Nat.le_add_right T 24))⟩, fun r r' p q => p.trans q.symm⟩
theorem lwo_reader {T : Nat} {S : q_S} {k w : Int} (hT : T ≤ 50000) (V : q_V T S) (hk : rg k) (hw : rg w) : lw_op mX4_reader mX5_reader [k, w] T S S (fun r => r = sp_reader (q_D S) k w) := by
  exact ⟨fun E σ h => co_reader h V hk hw (fun σ' g => ⟨_, rfl, rfl, h.gf g⟩), fun E σ h => mo_reader (h.D V) hk hw (fun σ' g => ⟨_, rfl, rfl, h.s2 g, (V.mono (Nat.le_add_right T 24))⟩), fun r r' p q => p.trans q.symm⟩
theorem lwo_reading {T : Nat} {S : q_S} {k i w : Int} (hT : T ≤ 50000) (V : q_V T S) (hk : rg k) (hi : rg i) (hw : rg w) : lw_op mX4_reading mX5_reading [k, i, w] T S S (fun r => r = sp_reading (q_D S) k i w) := by
  exact ⟨fun E σ h => co_reading h V hk hi hw (fun σ' g => ⟨_, rfl, rfl, h.gf g⟩), fun E σ h => mo_reading (h.D V) hk hi hw (fun σ' g => ⟨_, rfl, rfl, h.s2 g, (V.mono (Nat.le_add_right T 24))⟩), fun r r' p q => p.trans q.symm⟩
theorem lwo_word {T : Nat} {S : q_S} {k i j : Int} (hT : T ≤ 50000) (V : q_V T S) (hk : rg k) (hi : rg i) (hj : rg j) : lw_op mX4_word mX5_word [k, i, j] T S S (fun r => r = sp_word (q_D S) k i j) := by
  exact ⟨fun E σ h => co_word h V hk hi hj (fun σ' g => ⟨_, rfl, rfl, h.gf g⟩), fun E σ h => mo_word (h.D V) hk hi hj (fun σ' g => ⟨_, rfl, rfl, h.s2 g, (V.mono (Nat.le_add_right T 24))⟩), fun r r' p q => p.trans q.symm⟩
theorem lwo_tells {T : Nat} {S : q_S} {k w : Int} (hT : T ≤ 50000) (V : q_V T S) (hk : rg k) (hw : rg w) : lw_op mX4_tells mX5_tells [k, w] T S S (fun r => sp_tells (q_D S) k w r) := by
  exact ⟨fun E σ h => co_tells h V hk hw (fun r σ' g p => ⟨r, rfl, p, h.gf g⟩), fun E σ h => mo_tells (h.D V) hk hw (fun r σ' g p => ⟨r, rfl, p, h.s2 g, (V.mono (Nat.le_add_right T 24))⟩), fun r r' p q => sp_tells_uniq p q⟩
theorem lwo_ask {T : Nat} {S : q_S} {k : Int} (hT : T ≤ 50000) (V : q_V T S) (hk : rg k) : lw_op mX4_ask mX5_ask [k] T S (sp_ask S k).2 (fun r => r = (sp_ask S k).1) := by
  exact ⟨fun E σ h => co_ask h V hk (fun σ' g => ⟨_, rfl, rfl, g⟩), fun E σ h => mo_ask h V hk (fun σ' g v => ⟨_, rfl, rfl, g, v⟩), fun r r' p q => p.trans q.symm⟩
theorem lwo_shut {T : Nat} {S : q_S} (hT : T ≤ 50000) (V : q_V T S) : lw_op mX4_shut mX5_shut [] T S (sp_shut S).2 (fun r => r = (sp_shut S).1) := by
  exact ⟨fun E σ h => co_shut hT h V (fun σ' g => ⟨_, rfl, rfl, g⟩), fun E σ h => mo_shut hT h V (fun σ' g v => ⟨_, rfl, rfl, g, v⟩), fun r r' p q => p.trans q.symm⟩
theorem lwo_carve {T : Nat} {S : q_S} {a : Int} (hT : T ≤ 50000) (V : q_V T S) (ha : rg a) : lw_op mX4_carve mX5_carve [a] T S (sp_carve S a).2 (fun r => r = (sp_carve S a).1) := by
  exact ⟨fun E σ h => co_carve h V ha (fun σ' g => ⟨_, rfl, rfl, g⟩), fun E σ h => mo_carve h V ha (fun σ' g v => ⟨_, rfl, rfl, g, v⟩), fun r r' p q => p.trans q.symm⟩
theorem lwo_rub {T : Nat} {S : q_S} (hT : T ≤ 50000) (V : q_V T S) : lw_op mX4_rub mX5_rub [] T S (sp_rub S).2 (fun r => r = (sp_rub S).1) := by
  exact ⟨fun E σ h => co_rub h V (fun σ' g => ⟨_, rfl, rfl, g⟩), fun E σ h => mo_rub h V (fun σ' g v => ⟨_, rfl, rfl, g, v⟩), fun r r' p q => p.trans q.symm⟩
theorem lwo_pass {T : Nat} {S : q_S} {n : Int} (hT : T ≤ 50000) (V : q_V T S) (hn : rg n) : lw_op mX4_pass mX5_pass [n] T S (sp_pass S n).2 (fun r => r = (sp_pass S n).1) := by
  exact ⟨fun E σ h => co_pass hT h V hn (fun σ' g => ⟨_, rfl, rfl, g⟩), fun E σ h => mo_pass hT h V hn (fun σ' g v => ⟨_, rfl, rfl, g, v⟩), fun r r' p q => p.trans q.symm⟩
theorem lwo_undo {T : Nat} {S : q_S} (hT : T ≤ 50000) (V : q_V T S) : lw_op mX4_undo mX5_undo [] T S (sp_undo S).2 (fun r => r = (sp_undo S).1) := by
  exact ⟨fun E σ h => co_undo h V (fun σ' g => ⟨_, rfl, rfl, g⟩), fun E σ h => mo_undo h V (fun σ' g v => ⟨_, rfl, rfl, g, v⟩), fun r r' p q => p.trans q.symm⟩
theorem lwo_belief {T : Nat} {S : q_S} {k v p : Int} (hT : T ≤ 50000) (V : q_V T S) (hk : rg k) (hv : rg v) (hp : rg p) : lw_op mX4_belief mX5_belief [k, v, p] T S S (fun r => r = sp_belief (q_D S) k v p) := by
  exact ⟨fun E σ h => co_belief h V hk hv hp (fun σ' g => ⟨_, rfl, rfl, h.gf g⟩), fun E σ h => mo_belief (h.D V) hk hv hp (fun σ' g => ⟨_, rfl, rfl, h.s2 g, (V.mono (Nat.le_add_right T 24))⟩), fun r r' p q => p.trans q.symm⟩
theorem lwo_without {T : Nat} {S : q_S} {k : Int} (hT : T ≤ 50000) (V : q_V T S) (hk : rg k) : lw_op mX4_without mX5_without [k] T S S (fun r => sp_without (q_D S) k r) := by
  exact ⟨fun E σ h => co_without h V hk (fun r σ' g p => ⟨r, rfl, p, h.gf g⟩), fun E σ h => mo_without (h.D V) hk (fun r σ' g p => ⟨r, rfl, p, h.s2 g, (V.mono (Nat.le_add_right T 24))⟩), fun r r' p q => sp_without_uniq p q⟩
theorem lwo_shortest {T : Nat} {S : q_S} {k j : Int} (hT : T ≤ 50000) (V : q_V T S) (hk : rg k) (hj : rg j) : lw_op mX4_shortest mX5_shortest [k, j] T S S (fun r => r = sp_shortest (q_D S) k j) := by
  exact ⟨fun E σ h => co_shortest h V hk hj (fun σ' g => ⟨_, rfl, rfl, h.gf g⟩), fun E σ h => mo_shortest (h.D V) hk hj (fun σ' g => ⟨_, rfl, rfl, h.s2 g, (V.mono (Nat.le_add_right T 24))⟩), fun r r' p q => p.trans q.symm⟩
theorem lwo_until {T : Nat} {S : q_S} {k : Int} (hT : T ≤ 50000) (V : q_V T S) (hk : rg k) : lw_op mX4_until mX5_until [k] T S S (fun z => z = sp_until S k) := by
  exact ⟨fun E σ h => co_until hT h V hk (fun σ' g => ⟨_, rfl, rfl, h.gf g⟩), fun E σ h => mo_until hT h V hk (fun σ' g => ⟨_, rfl, rfl, h.s2 g, (V.mono (Nat.le_add_right T 24))⟩), fun r r' p q => p.trans q.symm⟩
theorem lwo_enough {T : Nat} {S : q_S} {v w : Int} (hT : T ≤ 50000) (V : q_V T S) (hv : rg v) (hw : rg w) : lw_op mX4_enough mX5_enough [v, w] T S S (fun z => z = sp_enough S v w) := by
  exact ⟨fun E σ h => co_enough hT h V hv hw (fun σ' g => ⟨_, rfl, rfl, g⟩), fun E σ h => mo_enough hT h V hv hw (fun σ' g => ⟨_, rfl, rfl, h.s2 g, (V.mono (Nat.le_add_right T 24))⟩), fun r r' p q => p.trans q.symm⟩
theorem lwo_see {T : Nat} {S : q_S} {k w : Int} (hT : T ≤ 50000) (V : q_V T S) (hk : rg k) (hw : rg w) : lw_op mX4_see mX5_see [k, w] T S (sp_see S k w).2 (fun r => r = (sp_see S k w).1) := by
  exact ⟨fun E σ h => co_see h V hk hw (fun σ' g => ⟨_, rfl, rfl, g⟩), fun E σ h => mo_see h V hk hw (fun σ' g v => ⟨_, rfl, rfl, g, v⟩), fun r r' p q => p.trans q.symm⟩
theorem lwo_forget {T : Nat} {S : q_S} (hT : T ≤ 50000) (V : q_V T S) : lw_op mX4_forget mX5_forget [] T S (sp_forget S).2 (fun r => r = (sp_forget S).1) := by
  exact ⟨fun E σ h => co_forget h (fun σ' g => ⟨_, rfl, rfl, g⟩), fun E σ h => mo_forget h V (fun σ' g v => ⟨_, rfl, rfl, g, v⟩), fun r r' p q => p.trans q.symm⟩
theorem lwo_wrote {T : Nat} {S : q_S} {w : Int} (hT : T ≤ 50000) (V : q_V T S) (hw : rg w) : lw_op mX4_wrote mX5_wrote [w] T S S (fun r => r = sp_wrote (so_B (q_D S) S.2.2.2.2.2.1.length (fun i => (S.2.2.2.2.2.1.getD i (0, 0)).1) (fun i => ((S.2.2.2.2.2.1.getD i (0, 0)).2 : Int))) w) := by
  exact ⟨fun E σ h => co_wrote h V hw (fun σ' g => ⟨_, rfl, rfl, h.gf g⟩), fun E σ h => mo_wrote (h.D V) (h.sn V) hw (fun σ' g => ⟨_, rfl, rfl, h.s2 g, (V.mono (Nat.le_add_right T 24))⟩), fun r r' p q => p.trans q.symm⟩
theorem lwo_forgotten {T : Nat} {S : q_S} {k x p : Int} (hT : T ≤ 50000) (V : q_V T S) (hk : rg k) (hx : rg x) (hp : rg p) : lw_op mX4_forgotten mX5_forgotten [k, x, p] T S S (fun r => r = sp_forgotten (q_D S) k x p) := by
  exact ⟨fun E σ h => co_forgotten h V hk hx hp (fun σ' g => ⟨_, rfl, rfl, h.gf g⟩), fun E σ h => mo_forgotten (h.D V) hk hx hp (fun σ' g => ⟨_, rfl, rfl, h.s2 g, (V.mono (Nat.le_add_right T 24))⟩), fun r r' p q => p.trans q.symm⟩
theorem lwo_walls {T : Nat} {S : q_S} {z n k w : Int} (hT : T ≤ 50000) (V : q_V T S) (hz : rg z) (hn : rg n) (hk : rg k) (hw : rg w) : lw_op mX4_walls mX5_walls [z, n, k, w] T S S (fun r => r = sp_walls (q_D S) z n k w) := by
  exact ⟨fun E σ h => co_walls h V hz hn hk hw (fun σ' g => ⟨_, rfl, rfl, h.gf g⟩), fun E σ h => mo_walls (h.D V) hz hn hk hw (fun σ' g => ⟨_, rfl, rfl, h.s2 g, (V.mono (Nat.le_add_right T 24))⟩), fun r r' p q => p.trans q.symm⟩
theorem lwo_keep {T : Nat} {S : q_S} (hT : T ≤ 50000) (V : q_V T S) : lw_op mX4_keep mX5_keep [] T S (sp_keep S).2 (fun r => r = (sp_keep S).1) := by
  exact ⟨fun E σ h => co_keep h V (fun σ' g => ⟨_, rfl, rfl, g⟩), fun E σ h => mo_keep h V (fun σ' g v => ⟨_, rfl, rfl, g, v⟩), fun r r' p q => p.trans q.symm⟩
theorem lwo_back {T : Nat} {S : q_S} (hT : T ≤ 50000) (V : q_V T S) : lw_op mX4_back mX5_back [] T S (sp_back S).2 (fun r => r = (sp_back S).1) := by
  exact ⟨fun E σ h => co_back h V (fun σ' g => ⟨_, rfl, rfl, g⟩), fun E σ h => mo_back h V (fun σ' g v => ⟨_, rfl, rfl, g, v⟩), fun r r' p q => p.trans q.symm⟩
theorem lwo_count {T : Nat} {S : q_S} {w : Int} (hT : T ≤ 50000) (V : q_V T S) (hw : rg w) : lw_op mX4_count mX5_count [w] T S S (fun z => z = sp_count S w) := by
  exact ⟨fun E σ h => co_count hT h V hw ⟨_, rfl, rfl, h⟩, fun E σ h => mo_count hT h V hw ⟨_, rfl, rfl, h, (V.mono (Nat.le_add_right T 24))⟩, fun r r' p q => p.trans q.symm⟩
theorem wM_L_9 : Cond.methodLink RL 9 yX4_init ∈ av_T := av_t1 (List.mem_of_getElem? (i := 16) rfl) rfl
theorem wM_L_12 : Cond.methodLink RL 12 yX5_init ∈ av_T := av_t3 (List.mem_of_getElem? (i := 135) rfl) rfl
theorem wM_L_13 : Cond.methodLink RL 13 yX4_write ∈ av_T := av_t2 (List.mem_of_getElem? (i := 93) rfl) rfl
theorem wM_L_17 : Cond.methodLink RL 17 yX5_write ∈ av_T := av_t4 (List.mem_of_getElem? (i := 43) rfl) rfl
theorem wM_L_18 : Cond.methodLink RL 18 yX4_wipe ∈ av_T := av_t2 (List.mem_of_getElem? (i := 97) rfl) rfl
theorem wM_L_22 : Cond.methodLink RL 22 yX5_wipe ∈ av_T := av_t4 (List.mem_of_getElem? (i := 50) rfl) rfl
theorem wM_L_23 : Cond.methodLink RL 23 yX4_fault ∈ av_T := av_t2 (List.mem_of_getElem? (i := 101) rfl) rfl
theorem wM_L_26 : Cond.methodLink RL 26 yX5_fault ∈ av_T := av_t4 (List.mem_of_getElem? (i := 54) rfl) rfl
theorem wM_L_27 : Cond.methodLink RL 27 yX4_lay ∈ av_T := av_t2 (List.mem_of_getElem? (i := 105) rfl) rfl
theorem wM_L_30 : Cond.methodLink RL 30 yX5_lay ∈ av_T := av_t4 (List.mem_of_getElem? (i := 97) rfl) rfl
theorem wM_L_31 : Cond.methodLink RL 31 yX4_root ∈ av_T := av_t2 (List.mem_of_getElem? (i := 109) rfl) rfl
theorem wM_L_35 : Cond.methodLink RL 35 yX5_root ∈ av_T := av_t4 (List.mem_of_getElem? (i := 102) rfl) rfl
theorem wM_L_36 : Cond.methodLink RL 36 yX4_reader ∈ av_T := av_t2 (List.mem_of_getElem? (i := 113) rfl) rfl
theorem wM_L_39 : Cond.methodLink RL 39 yX5_reader ∈ av_T := av_t4 (List.mem_of_getElem? (i := 106) rfl) rfl
theorem wM_L_40 : Cond.methodLink RL 40 yX4_reading ∈ av_T := av_t2 (List.mem_of_getElem? (i := 147) rfl) rfl
theorem wM_L_44 : Cond.methodLink RL 44 yX5_reading ∈ av_T := av_t4 (List.mem_of_getElem? (i := 149) rfl) rfl
theorem wM_L_45 : Cond.methodLink RL 45 yX4_word ∈ av_T := av_t2 (List.mem_of_getElem? (i := 174) rfl) rfl
theorem wM_L_48 : Cond.methodLink RL 48 yX5_word ∈ av_T := av_t4 (List.mem_of_getElem? (i := 165) rfl) rfl
theorem wM_L_49 : Cond.methodLink RL 49 yX4_tells ∈ av_T := av_t2 (List.mem_of_getElem? (i := 178) rfl) rfl
theorem wM_L_52 : Cond.methodLink RL 52 yX5_tells ∈ av_T := av_t4 (List.mem_of_getElem? (i := 169) rfl) rfl
theorem wM_L_53 : Cond.methodLink RL 53 yX4_ask ∈ av_T := av_t2 (List.mem_of_getElem? (i := 207) rfl) rfl
theorem wM_L_56 : Cond.methodLink RL 56 yX5_ask ∈ av_T := av_t4 (List.mem_of_getElem? (i := 177) rfl) rfl
theorem wM_L_57 : Cond.methodLink RL 57 yX4_shut ∈ av_T := av_t2 (List.mem_of_getElem? (i := 222) rfl) rfl
theorem wM_L_60 : Cond.methodLink RL 60 yX5_shut ∈ av_T := av_t4 (List.mem_of_getElem? (i := 189) rfl) rfl
theorem wM_L_61 : Cond.methodLink RL 61 yX4_carve ∈ av_T := av_t2 (List.mem_of_getElem? (i := 235) rfl) rfl
theorem wM_L_64 : Cond.methodLink RL 64 yX5_carve ∈ av_T := av_t4 (List.mem_of_getElem? (i := 205) rfl) rfl
theorem wM_L_65 : Cond.methodLink RL 65 yX4_rub ∈ av_T := av_t3 (List.mem_of_getElem? (i := 0) rfl) rfl
theorem wM_L_68 : Cond.methodLink RL 68 yX5_rub ∈ av_T := av_t4 (List.mem_of_getElem? (i := 209) rfl) rfl
theorem wM_L_69 : Cond.methodLink RL 69 yX4_pass ∈ av_T := av_t3 (List.mem_of_getElem? (i := 4) rfl) rfl
theorem wM_L_72 : Cond.methodLink RL 72 yX5_pass ∈ av_T := av_t4 (List.mem_of_getElem? (i := 213) rfl) rfl
theorem wM_L_73 : Cond.methodLink RL 73 yX4_undo ∈ av_T := av_t3 (List.mem_of_getElem? (i := 13) rfl) rfl
theorem wM_L_76 : Cond.methodLink RL 76 yX5_undo ∈ av_T := av_t4 (List.mem_of_getElem? (i := 217) rfl) rfl
theorem wM_L_77 : Cond.methodLink RL 77 yX4_belief ∈ av_T := av_t3 (List.mem_of_getElem? (i := 21) rfl) rfl
theorem wM_L_80 : Cond.methodLink RL 80 yX5_belief ∈ av_T := av_t4 (List.mem_of_getElem? (i := 221) rfl) rfl
theorem wM_L_81 : Cond.methodLink RL 81 yX4_without ∈ av_T := av_t3 (List.mem_of_getElem? (i := 35) rfl) rfl
theorem wM_L_84 : Cond.methodLink RL 84 yX5_without ∈ av_T := av_t4 (List.mem_of_getElem? (i := 228) rfl) rfl
theorem wM_L_85 : Cond.methodLink RL 85 yX4_shortest ∈ av_T := av_t3 (List.mem_of_getElem? (i := 42) rfl) rfl
theorem wM_L_88 : Cond.methodLink RL 88 yX5_shortest ∈ av_T := av_t4 (List.mem_of_getElem? (i := 236) rfl) rfl
theorem wM_L_89 : Cond.methodLink RL 89 yX4_until ∈ av_T := av_t3 (List.mem_of_getElem? (i := 49) rfl) rfl
theorem wM_L_92 : Cond.methodLink RL 92 yX5_until ∈ av_T := av_t5 (List.mem_of_getElem? (i := 12) rfl) rfl
theorem wM_L_93 : Cond.methodLink RL 93 yX4_enough ∈ av_T := av_t3 (List.mem_of_getElem? (i := 53) rfl) rfl
theorem wM_L_96 : Cond.methodLink RL 96 yX5_enough ∈ av_T := av_t5 (List.mem_of_getElem? (i := 16) rfl) rfl
theorem wM_L_97 : Cond.methodLink RL 97 yX4_see ∈ av_T := av_t3 (List.mem_of_getElem? (i := 74) rfl) rfl
theorem wM_L_100 : Cond.methodLink RL 100 yX5_see ∈ av_T := av_t5 (List.mem_of_getElem? (i := 20) rfl) rfl
theorem wM_L_101 : Cond.methodLink RL 101 yX4_forget ∈ av_T := av_t3 (List.mem_of_getElem? (i := 78) rfl) rfl
theorem wM_L_104 : Cond.methodLink RL 104 yX5_forget ∈ av_T := av_t5 (List.mem_of_getElem? (i := 24) rfl) rfl
theorem wM_L_105 : Cond.methodLink RL 105 yX4_wrote ∈ av_T := av_t3 (List.mem_of_getElem? (i := 82) rfl) rfl
theorem wM_L_108 : Cond.methodLink RL 108 yX5_wrote ∈ av_T := av_t5 (List.mem_of_getElem? (i := 28) rfl) rfl
theorem wM_L_109 : Cond.methodLink RL 109 yX4_forgotten ∈ av_T := av_t3 (List.mem_of_getElem? (i := 90) rfl) rfl
theorem wM_L_112 : Cond.methodLink RL 112 yX5_forgotten ∈ av_T := av_t5 (List.mem_of_getElem? (i := 36) rfl) rfl
theorem wM_L_113 : Cond.methodLink RL 113 yX4_walls ∈ av_T := av_t3 (List.mem_of_getElem? (i := 111) rfl) rfl
theorem wM_L_117 : Cond.methodLink RL 117 yX5_walls ∈ av_T := av_t5 (List.mem_of_getElem? (i := 40) rfl) rfl
theorem wM_L_118 : Cond.methodLink RL 118 yX4_keep ∈ av_T := av_t3 (List.mem_of_getElem? (i := 121) rfl) rfl
theorem wM_L_121 : Cond.methodLink RL 121 yX5_keep ∈ av_T := av_t5 (List.mem_of_getElem? (i := 47) rfl) rfl
theorem wM_L_122 : Cond.methodLink RL 122 yX4_back ∈ av_T := av_t3 (List.mem_of_getElem? (i := 125) rfl) rfl
theorem wM_L_125 : Cond.methodLink RL 125 yX5_back ∈ av_T := av_t5 (List.mem_of_getElem? (i := 51) rfl) rfl
theorem wM_L_126 : Cond.methodLink RL 126 yX4_count ∈ av_T := av_t3 (List.mem_of_getElem? (i := 129) rfl) rfl
theorem wM_L_129 : Cond.methodLink RL 129 yX5_count ∈ av_T := av_t5 (List.mem_of_getElem? (i := 55) rfl) rfl
theorem wL_L_7 : Cond.classLink RL 7 RX4 ∈ av_T := av_t1 (List.mem_of_getElem? (i := 14) rfl) rfl
theorem wL_L_10 : Cond.classLink RL 10 RX5 ∈ av_T := av_t3 (List.mem_of_getElem? (i := 133) rfl) rfl
