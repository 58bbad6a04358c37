/-! ===== CONTRACTS: bets, days ===== -/
def q_wn (bf bp : Nat → Int32) (set k : Int32) : Nat → Int32
  | 0 => 0
  | i + 1 => if q_bt set (nI i) = 1 then q_wn bf bp set k i + (100 * q_bt k (bf i) - bp i) else q_wn bf bp set k i
def q_wo (o : Nat → Bool) (bf bp : Nat → Int32) (n : Nat) (set w0 : Int32) : Nat → Int32
  | 0 => w0
  | j + 1 => if o j = true then (if q_wn bf bp set (nI j) n < q_wo o bf bp n set w0 j then q_wn bf bp set (nI j) n else q_wo o bf bp n set w0 j) else q_wo o bf bp n set w0 j
/-- the set and the win: sets 1 .. s tried -/
def q_ch (o : Nat → Bool) (bf bp : Nat → Int32) (n : Nat) (w0 : Int32) : Nat → mT2
  | 0 => (0, 0)
  | s + 1 => if (q_ch o bf bp n w0 s).2 < q_wo o bf bp n (nI (s + 1)) w0 64 then (nI (s + 1), q_wo o bf bp n (nI (s + 1)) w0 64) else q_ch o bf bp n w0 s
theorem q_Gs (M : Int64) {j : Nat} (hj : j < 64) : lg_cmp ((M.toUInt64 >>> ((nI j).toInt64.toUInt64 &&& Int64.toUInt64 63)).toInt64 &&& (1 : Int64)) (1 : Int64) = 0 ↔ q_G M j = true := by
  rw [q_lcmp]
  have hs : ∀ j : Nat, j < 64 → ((nI j).toInt64.toUInt64 &&& Int64.toUInt64 63).toBitVec.toNat % 64 = j := by decide
  have h1 : ∀ k : Nat, k < 64 → q_G (1 : Int64) k = decide (k = 0) := by decide
  have hb : q_G (M.toUInt64 >>> ((nI j).toInt64.toUInt64 &&& Int64.toUInt64 63)).toInt64 0 = q_G M j := by
    unfold q_G
    rw [UInt64.toBitVec_toInt64, UInt64.toBitVec_shiftRight, BitVec.ushiftRight_eq', BitVec.getLsbD_ushiftRight, BitVec.toNat_umod, show BitVec.toNat (64 : BitVec 64) = 64 from rfl, hs j hj]
    rfl
  constructor
  · intro h
    have := congrArg (fun x => q_G x 0) h
    simp only [q_G_and, hb, h1 0 (by omega)] at this
    simpa using this
  · intro h
    apply q_Ext
    intro k hk
    rw [q_G_and, h1 k hk]
    by_cases e : k = 0
    · subst e; rw [hb, h]; rfl
    · simp [e]
def s43 : Nat → Nat → Prop := fun c k => c = 43 ∧ (k = 3 ∨ k = 4)
section K0
variable {E : mEnv} {w : mW}
theorem k_X0_winOf {n : Nat} (hn : n ≤ 5) (h0 : w.1 43 0 = nI n) (set k : Int32) : mMi E MX0_winOf [.ref 43, .int set, .int k] w (fun v u => v = q_wn (w.1 44) (w.1 45) set k n ∧ u = w) := by
  unfold mMi
  refine mM_start rfl (Nat.le_of_ble_eq_true rfl) rfl (fun X C F => vX0_winOf_0 C F set k ?_)
  have loop : ∀ j i : Nat, i + j = n → mG X E MX0_winOf 5 [.ref 43, .int set, .int k, .int (q_wn (w.1 44) (w.1 45) set k i), .int (nI i)] [] w := by
    intro j
    induction j with
    | zero =>
      intro i hi
      refine vX0_winOf_5 C F _ _ _ _ ?_
      rw [h0]
      refine ⟨fun _ => ⟨_, rfl, by rw [show i = n by omega], rfl⟩, fun h => absurd (nI_le (by omega) (by omega)) h⟩
    | succ j ih =>
      intro i hi
      have hin : vp_in (nI i) 5 := vp_in_nI (by omega) (by omega)
      have nx := ih (i + 1) (by omega)
      rw [← nI_1, q_wn] at nx
      refine vX0_winOf_5 C F _ _ _ _ ?_
      rw [h0, nI_clamp (by omega)]
      refine ⟨fun h => absurd h (nI_ge (by omega) (by omega)), fun _ => ⟨fun h1 => ?_, fun h1 => ⟨hin, hin, ?_⟩⟩⟩
      · rw [if_neg (show ¬ q_bt set (nI i) = 1 from h1)] at nx
        exact nx
      · rw [if_pos (show q_bt set (nI i) = 1 from h1)] at nx
        exact nx
  exact loop n 0 (by omega)
theorem k_X0_worstOf {n : Nat} (hn : n ≤ 5) (h0 : w.1 43 0 = nI n) (set : Int32) (O : Int64) : mMi E MX0_worstOf [.ref 43, .int set, .long O] w (fun v u => v = q_wo (q_G O) (w.1 44) (w.1 45) n set 500 64 ∧ u = w) := by
  unfold mMi
  refine mM_start rfl (Nat.le_of_ble_eq_true rfl) rfl (fun X C F => vX0_worstOf_0 C F set O ?_)
  have loop : ∀ j i : Nat, i + j = 64 → mG X E MX0_worstOf 8 [.ref 43, .int set, .long O, .retAddr 0, .int (q_wo (q_G O) (w.1 44) (w.1 45) n set 500 i), .int (nI i)] [] w := by
    intro j
    induction j with
    | zero =>
      intro i hi
      refine vX0_worstOf_8 C F _ _ _ _ ?_
      refine ⟨fun _ => ⟨_, rfl, by rw [show i = 64 by omega], rfl⟩, fun h => absurd (show nI 64 ≤ nI i from nI_le (by omega) (by omega)) h⟩
    | succ j ih =>
      intro i hi
      have nx := ih (i + 1) (by omega)
      rw [← nI_1, q_wo] at nx
      refine vX0_worstOf_8 C F _ _ _ _ ?_
      rw [q_Gs O (by omega)]
      refine ⟨fun h => absurd h (nI_ge (b := 64) (by omega) (by omega)), fun _ => ⟨fun h1 => ?_, fun h1 => (k_X0_winOf hn h0 _ _).mono ?_⟩⟩
      · rw [if_neg h1] at nx
        exact nx
      · rintro v u ⟨rfl, rfl⟩
        rw [if_pos h1] at nx
        exact nx
  exact loop 64 0 (by omega)
theorem k_X0_choose {n : Nat} (hn : n ≤ 5) (h0 : w.1 43 0 = nI n) (O : Int64) : mMv E MX0_choose [.ref 43, .long O] w (fun u => mFr s43 w u ∧ (u.1 43 3, u.1 43 4) = q_ch (q_G O) (w.1 44) (w.1 45) n 500 (2 ^ n - 1)) := by
  have h32 := q_pow32 hn
  have hpos : 0 < 2 ^ n := Nat.pow_pos (by omega)
  unfold mMv
  refine mM_start rfl (Nat.le_of_ble_eq_true rfl) rfl (fun X C F => vX0_choose_0 C F O ?_)
  have loop : ∀ j s : Nat, s + j = 2 ^ n - 1 → ∀ u, mFr s43 w u → (u.1 43 3, u.1 43 4) = q_ch (q_G O) (w.1 44) (w.1 45) n 500 s → mG X E MX0_choose 12 [.ref 43, .long O, .retAddr 0, .int (nI (s + 1)), .retAddr 0] [] u := by
    intro j
    induction j with
    | zero =>
      intro s hs u hf h3
      have e0 : u.1 43 0 = nI n := by rw [(hf 43 0 (by unfold s43; omega)).1]; exact h0
      refine vX0_choose_12 C F _ _ ?_
      rw [e0, q_pow n hn]
      exact ⟨fun _ => ⟨rfl, hf, by rw [h3, show s = 2 ^ n - 1 by omega]⟩, fun h => absurd (nI_le (by omega) (by omega)) h⟩
    | succ j ih =>
      intro s hs u hf h3
      have e0 : u.1 43 0 = nI n := by rw [(hf 43 0 (by unfold s43; omega)).1]; exact h0
      have e44 : u.1 44 = w.1 44 := funext fun i => (hf 44 i (by unfold s43; omega)).1
      have e45 : u.1 45 = w.1 45 := funext fun i => (hf 45 i (by unfold s43; omega)).1
      have e4 : u.1 43 4 = (q_ch (q_G O) (w.1 44) (w.1 45) n 500 s).2 := by rw [← h3]
      refine vX0_choose_12 C F _ _ ?_
      rw [e0, q_pow n hn]
      refine ⟨fun h => absurd h (nI_ge (by omega) (by omega)), fun _ => (k_X0_worstOf hn e0 _ _).mono ?_⟩
      rintro v u2 ⟨rfl, rfl⟩
      rw [e44, e45, e4, nI_1]
      refine ⟨fun hle => ih (s + 1) (by omega) u2 hf ?_, fun hle => ih (s + 1) (by omega) _ (hf.tr ((mFr.pi (S := s43) ⟨rfl, Or.inr rfl⟩).tr (mFr.pi (S := s43) ⟨rfl, Or.inl rfl⟩))) ?_⟩
      · rw [h3, q_ch, if_neg (fun q => absurd hle (Int32.not_le.mpr q))]
      · rw [q_ch, if_pos (Int32.not_le.mp hle)]
        simp [mPI]
  refine loop (2 ^ n - 1) 0 (by omega) _ ((mFr.pi (S := s43) ⟨rfl, Or.inl rfl⟩).tr (mFr.pi (S := s43) ⟨rfl, Or.inr rfl⟩)) ?_
  simp [mPI, q_ch]
theorem k_X0_add {n : Nat} (hn : n ≤ 5) (h0 : w.1 43 0 = nI n) (f p : Int32) : mMi E MX0_add [.ref 43, .int f, .int p] w (fun v u => (n = 5 ∧ v = 0 ∧ u = w) ∨ (n < 5 ∧ v = 1 ∧ u = mPI (mPI (mPI w 44 n f) 45 n p) 43 0 (nI (n + 1)))) := by
  unfold mMi
  refine mM_start rfl (Nat.le_of_ble_eq_true rfl) rfl (fun X C F => vX0_add_0 C F f p ?_)
  rw [h0]
  refine ⟨fun h => ?_, fun h => ⟨_, rfl, Or.inl ⟨?_, rfl, rfl⟩⟩⟩
  · have h : n < 5 := (nI_ltI (b := 5) (by omega) (by omega)).mp h
    have hin : vp_in (nI n) 5 := vp_in_nI (by omega) (by omega)
    refine ⟨hin, fun w1 e1 => ?_⟩
    rw [nI_clamp (by omega)] at e1
    have g1 : w1.1 43 0 = nI n := by rw [e1, mPI_row (by omega)]; exact h0
    rw [g1]
    refine ⟨hin, fun w2 e2 => ?_⟩
    rw [nI_clamp (by omega)] at e2
    have g2 : w2.1 43 0 = nI n := by rw [e2, mPI_row (by omega)]; exact g1
    rw [g2, nI_1]
    exact ⟨_, rfl, Or.inr ⟨h, rfl, by rw [e2, e1]⟩⟩
  · have h : ¬ n < 5 := fun q => h ((nI_ltI (b := 5) (by omega) (by omega)).mpr q)
    omega
/-! days -/
def dPut (w : mW) (a : Nat) : mW := mPI (mPL (mPI w 40 a (w.1 39 0)) 41 a (w.2 39 3)) 42 a (w.1 39 1)
def dTake (w : mW) (a : Nat) : mW := mPI (mPL (mPI w 39 0 (w.1 40 a)) 39 3 (w.2 41 a)) 39 1 (w.1 42 a)
theorem k_X2_begin (t : Int32) : mMv E MX2_begin [.ref 39, .int t] w (fun u => u = mPI (mPI (mPI (mPL (mPI w 39 0 t) 39 3 0) 39 1 0) 39 2 0) 39 4 0) := by
  unfold mMv
  refine mM_start rfl (Nat.le_of_ble_eq_true rfl) rfl (fun X C F => vX2_begin_0 C F t ?_)
  exact ⟨rfl, rfl⟩
theorem k_X2_put {a : Nat} (ha : a < 10) : mMv E MX2_put [.ref 39, .int (nI a)] w (fun u => u = dPut w a) := by
  have hin : vp_in (nI a) 10 := vp_in_nI ha (by omega)
  unfold mMv
  refine mM_start rfl (Nat.le_of_ble_eq_true rfl) rfl (fun X C F => vX2_put_0 C F _ ?_)
  rw [nI_clamp (by omega)]
  refine ⟨fun h => absurd h (nI_pos (by omega)), fun _ => ⟨fun _ => ⟨hin, ?_⟩, fun h => absurd (show nI a < nI 10 from nI_lt ha (by omega)) h⟩⟩
  rintro w1 rfl
  refine ⟨hin, ?_⟩
  rintro w2 rfl
  refine ⟨hin, ?_⟩
  rintro w3 rfl
  exact ⟨rfl, rfl⟩
theorem k_X2_take {a : Nat} (ha : a < 10) : mMv E MX2_take [.ref 39, .int (nI a)] w (fun u => u = dTake w a) := by
  have hin : vp_in (nI a) 10 := vp_in_nI ha (by omega)
  unfold mMv
  refine mM_start rfl (Nat.le_of_ble_eq_true rfl) rfl (fun X C F => vX2_take_0 C F _ ?_)
  rw [nI_clamp (by omega)]
  exact ⟨fun h => absurd h (nI_pos (by omega)), fun _ => ⟨fun _ => ⟨hin, hin, hin, rfl, rfl⟩, fun h => absurd (show nI a < nI 10 from nI_lt ha (by omega)) h⟩⟩
theorem d_8 : ∀ n : Nat, n < 8 → (nI n + 1) - (nI n + 1) / 8 * 8 = nI ((n + 1) % 8) := by decide
theorem d_7 : ∀ n : Nat, n < 8 → ((nI n + 8) - 1) - ((nI n + 8) - 1) / 8 * 8 = nI ((n + 7) % 8) := by decide
theorem d_m : ∀ k : Nat, k < 9 → (if (8 : Int32) < nI k + 1 then (8 : Int32) else nI k + 1) = nI (min (k + 1) 8) := by decide
theorem k_X2_remember {n k : Nat} (hn : n < 8) (hk : k ≤ 8) (h5 : w.1 39 5 = nI n) (h2 : w.1 39 2 = nI k) : mMv E MX2_remember [.ref 39] w (fun u => u = mPI (dPut (mPI w 39 5 (nI ((n + 1) % 8))) ((n + 1) % 8)) 39 2 (nI (min (k + 1) 8))) := by
  unfold mMv
  refine mM_start rfl (Nat.le_of_ble_eq_true rfl) rfl (fun X C F => vX2_remember_0 C F ?_)
  rw [h5, d_8 n hn]
  refine (k_X2_put (by omega)).mono ?_
  rintro u rfl
  have e : (dPut (mPI w 39 5 (nI ((n + 1) % 8))) ((n + 1) % 8)).1 39 2 = nI k := by rw [← h2]; rfl
  rw [e, d_m k (by omega)]
  exact ⟨rfl, rfl⟩
theorem k_X2_stepBack {n k : Nat} (hn : n < 8) (hk : k ≤ 8) (h5 : w.1 39 5 = nI n) (h2 : w.1 39 2 = nI k) : mMi E MX2_stepBack [.ref 39] w (fun v u => (k = 0 ∧ v = 0 ∧ u = w) ∨ (0 < k ∧ v = 1 ∧ u = mPI (mPI (dTake w n) 39 5 (nI ((n + 7) % 8))) 39 2 (nI (k - 1)))) := by
  unfold mMi
  refine mM_start rfl (Nat.le_of_ble_eq_true rfl) rfl (fun X C F => vX2_stepBack_0 C F ?_)
  rw [h2, h5]
  refine ⟨fun h => (k_X2_take (by omega)).mono ?_, fun h => ⟨_, rfl, Or.inl ⟨(nI_eq (b := 0) (by omega) (by omega)).mp h, rfl, rfl⟩⟩⟩
  have hk0 : 0 < k := by
    rcases Nat.eq_zero_or_pos k with e | e
    · subst e; exact absurd rfl h
    · exact e
  rintro u rfl
  have e5 : (dTake w n).1 39 5 = nI n := by rw [← h5]; rfl
  have e2 : (dTake w n).1 39 2 = nI k := by rw [← h2]; rfl
  rintro w1 rfl
  refine ⟨_, rfl, Or.inr ⟨hk0, rfl, ?_⟩⟩
  rw [e5, e2, d_7 n hn, show nI k - 1 = nI (k - 1) by rw [show k = (k - 1) + 1 by omega, nI_pred]; rfl]
end K0
