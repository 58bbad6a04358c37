/-! ===== CONTRACTS: the class's city: sum, dawn, doers ===== -/
section K1
variable {E : mEnv} {w : mW} {Y : mY}
theorem l_X1_sumOf {X : mX} {Qm : Option Value → mW → Prop} (C : mCtx X E MX1_sumOf) (F : mFin X E MX1_sumOf Qm) (hY : cyX Y w) (hk : cyOK Y) (t : Int32) (hQ : Qm (some (.int (q_sum Y.2.1 t Y.1.1))) w) :
    ∀ k f : Nat, f + k = Y.1.1 → mG X E MX1_sumOf 4 [.ref 1, .int t, .int (q_sum Y.2.1 t f), .int (nI f)] [] w := by
  have h6 := hk.1
  intro k
  induction k with
  | zero =>
    intro f hf
    refine vX1_sumOf_4 C F _ _ _ ?_
    rw [hY.1]
    refine ⟨fun _ => ?_, fun h => absurd (nI_le (by omega) (by omega)) h⟩
    rw [show f = Y.1.1 by omega]
    exact hQ
  | succ k ih =>
    intro f hf
    have hin : vp_in (nI f) 6 := vp_in_nI (by omega) (by omega)
    have e0 : w.1 (3 + (nI f).toNatClampNeg) 0 = Y.2.1 f 0 := by rw [nI_clamp (by omega)]; exact hY.2.2.2.1 f 0 (by omega) (by omega)
    have e1 : w.1 (3 + (nI f).toNatClampNeg) 1 = Y.2.1 f 1 := by rw [nI_clamp (by omega)]; exact hY.2.2.2.1 f 1 (by omega) (by omega)
    have n := ih (f + 1) (by omega)
    rw [← nI_1] at n
    refine vX1_sumOf_4 C F _ _ _ ?_
    rw [hY.1, e0, e1]
    refine ⟨fun h => absurd h (nI_ge (by omega) (by omega)), fun _ => ⟨fun h1 => ?_, fun h1 => ⟨hin, fun h2 => ⟨hin, ?_⟩, fun h2 => ⟨hin, ?_⟩⟩⟩⟩
    · have h1 : ¬ q_bt t (nI f) = 1 := h1
      rw [q_sum, if_neg h1] at n
      exact n
    · have h1 : q_bt t (nI f) = 1 := h1
      rw [q_sum, if_pos h1, if_neg h2] at n
      exact n
    · have h1 : q_bt t (nI f) = 1 := h1
      rw [q_sum, if_pos h1, if_pos h2] at n
      exact n
theorem k_X1_sumOf (hY : cyX Y w) (hk : cyOK Y) (t : Int32) : mMi E MX1_sumOf [.ref 1, .int t] w (fun v u => v = q_sum Y.2.1 t Y.1.1 ∧ u = w) := by
  unfold mMi
  refine mM_start rfl (Nat.le_of_ble_eq_true rfl) rfl (fun X C F => vX1_sumOf_0 C F t ?_)
  exact l_X1_sumOf C F hY hk t ⟨_, rfl, rfl, rfl⟩ Y.1.1 0 (by omega)
theorem l_X1_dawn2 {X : mX} {Qm : Option Value → mW → Prop} (C : mCtx X E MX1_dawn) (F : mFin X E MX1_dawn Qm) (hY : cyX Y w) (hk : cyOK Y) (t : Int32) (hQ : Qm (some (.int (q_cs Y.2.2.2 t Y.1.2.2))) w) :
    ∀ k f : Nat, f + k = Y.1.2.2 → mG X E MX1_dawn 56 [.ref 1, .retAddr 0, .retAddr 0, .int (q_cs Y.2.2.2 t f), .int (nI f), .retAddr 0] [] w := by
  have h6 := hk.2.2.1
  intro k
  induction k with
  | zero =>
    intro f hf
    refine vX1_dawn_56 C F _ _ ?_
    rw [hY.2.2.1]
    refine ⟨fun _ => ?_, fun h => absurd (nI_le (by omega) (by omega)) h⟩
    rw [show f = Y.1.2.2 by omega]
    exact hQ
  | succ k ih =>
    intro f hf
    have hin : vp_in (nI f) 6 := vp_in_nI (by omega) (by omega)
    have e : ∀ j, j < 4 → w.1 (16 + (nI f).toNatClampNeg) j = Y.2.2.2 f j := fun j hj => by rw [nI_clamp (by omega)]; exact hY.2.2.2.2.2.1 f j (by omega) hj
    have n := ih (f + 1) (by omega)
    rw [← nI_1] at n
    refine vX1_dawn_56 C F _ _ ?_
    rw [hY.2.2.1, e 0 (by omega), e 1 (by omega), e 2 (by omega), e 3 (by omega)]
    refine ⟨fun h => absurd h (nI_ge (by omega) (by omega)), fun _ => ⟨hin, fun h1 => ?_, fun h1 => (k_X1_become _ _ _).mono ?_⟩⟩
    · have h1 : ¬ q_bt (q_cs Y.2.2.2 t f) (Y.2.2.2 f 0) = Y.2.2.2 f 1 := h1
      rw [q_cs, if_neg h1] at n
      exact n
    · have h1 : q_bt (q_cs Y.2.2.2 t f) (Y.2.2.2 f 0) = Y.2.2.2 f 1 := h1
      rw [q_cs, if_pos h1] at n
      rintro v u ⟨rfl, rfl⟩
      exact n
theorem l_X1_dawn {X : mX} {Qm : Option Value → mW → Prop} (C : mCtx X E MX1_dawn) (F : mFin X E MX1_dawn Qm) (hY : cyX Y w) (hk : cyOK Y) (t ds : Int32) (hQ : Qm (some (.int (q_dawn Y (fun p => decide (q_bt ds (nI p) = 1)) t))) w) :
    ∀ k f : Nat, f + k = Y.1.2.1 → mG X E MX1_dawn 5 [.ref 1, .retAddr 0, .int ds, .int (q_pp Y.2.2.1 (fun p => decide (q_bt ds (nI p) = 1)) t f), .int (nI f), .retAddr 0] [] w := by
  have h6 := hk.2.1
  intro k
  induction k with
  | zero =>
    intro f hf
    refine vX1_dawn_5 C F _ _ _ ?_
    rw [hY.2.1]
    refine ⟨fun _ => ?_, fun h => absurd (nI_le (by omega) (by omega)) h⟩
    rw [show f = Y.1.2.1 by omega]
    exact l_X1_dawn2 C F hY hk _ hQ Y.1.2.2 0 (by omega)
  | succ k ih =>
    intro f hf
    have hin : vp_in (nI f) 5 := vp_in_nI (by omega) (by omega)
    have e : ∀ j, j < 6 → w.1 (10 + (nI f).toNatClampNeg) j = Y.2.2.1 f j := fun j hj => by rw [nI_clamp (by omega)]; exact hY.2.2.2.2.1 f j (by omega) hj
    have n := ih (f + 1) (by omega)
    rw [← nI_1] at n
    refine vX1_dawn_5 C F _ _ _ ?_
    rw [hY.2.1, e 3 (by omega), e 4 (by omega)]
    refine ⟨fun h => absurd h (nI_ge (by omega) (by omega)), fun _ => ⟨fun h1 => ?_, fun h1 => ⟨hin, hin, (k_X1_become _ _ _).mono ?_⟩⟩⟩
    · have h1 : ¬ q_bt ds (nI f) = 1 := h1
      rw [q_pp, if_neg (by simp [h1])] at n
      exact n
    · have h1 : q_bt ds (nI f) = 1 := h1
      rw [q_pp, if_pos (by simp [h1])] at n
      rintro v u ⟨rfl, rfl⟩
      exact n
theorem k_X1_dawn (hY : cyX Y w) (hk : cyOK Y) (t ds : Int32) : mMi E MX1_dawn [.ref 1, .int t, .int ds] w (fun v u => v = q_dawn Y (fun p => decide (q_bt ds (nI p) = 1)) t ∧ u = w) := by
  unfold mMi
  refine mM_start rfl (Nat.le_of_ble_eq_true rfl) rfl (fun X C F => vX1_dawn_0 C F t ds ?_)
  exact l_X1_dawn C F hY hk t ds ⟨_, rfl, rfl, rfl⟩ Y.1.2.1 0 (by omega)
/-- who does his deed, by what all believe -/
def q_dd (Y : mY) (M : Int64) : Nat → Bool := fun p => decide (q_hs (q_mo M (nI p)) (Y.2.2.1 p 1) (Y.2.2.1 p 2))
theorem l_X1_doers {X : mX} {Qm : Option Value → mW → Prop} (C : mCtx X E MX1_doers) (F : mFin X E MX1_doers Qm) (hY : cyX Y w) (hk : cyOK Y) (M : Int64) (hQ : Qm (some (.int (q_ds (q_dd Y M) Y.1.2.1))) w) :
    ∀ k f : Nat, f + k = Y.1.2.1 → mG X E MX1_doers 5 [.ref 1, .long M, .retAddr 0, .int (q_ds (q_dd Y M) f), .int (nI f)] [] w := by
  have h6 := hk.2.1
  intro k
  induction k with
  | zero =>
    intro f hf
    refine vX1_doers_5 C F _ _ _ ?_
    rw [hY.2.1]
    refine ⟨fun _ => ?_, fun h => absurd (nI_le (by omega) (by omega)) h⟩
    rw [show f = Y.1.2.1 by omega]
    exact hQ
  | succ k ih =>
    intro f hf
    have hin : vp_in (nI f) 5 := vp_in_nI (by omega) (by omega)
    have e : ∀ j, j < 6 → w.1 (10 + (nI f).toNatClampNeg) j = Y.2.2.1 f j := fun j hj => by rw [nI_clamp (by omega)]; exact hY.2.2.2.2.1 f j (by omega) hj
    have n := ih (f + 1) (by omega)
    rw [← nI_1] at n
    refine vX1_doers_5 C F _ _ _ ?_
    rw [hY.2.1]
    refine ⟨fun h => absurd h (nI_ge (by omega) (by omega)), fun _ => (k_X4_mindOf _ _).mono ?_⟩
    rintro v u ⟨rfl, rfl⟩
    refine (k_X1_doesDeed _ _ hin).mono ?_
    rintro v u ⟨rfl, rfl⟩
    rw [e 1 (by omega), e 2 (by omega), q_b0]
    refine ⟨fun h => ?_, fun h => ?_⟩
    · rw [q_ds, if_neg (by rw [q_dd, h]; decide)] at n
      exact n
    · rw [q_ds, if_pos (by rw [q_dd]; exact (Bool.not_eq_false _).mp h)] at n
      exact n
theorem k_X1_doers (hY : cyX Y w) (hk : cyOK Y) (M : Int64) : mMi E MX1_doers [.ref 1, .long M] w (fun v u => v = q_ds (q_dd Y M) Y.1.2.1 ∧ u = w) := by
  unfold mMi
  refine mM_start rfl (Nat.le_of_ble_eq_true rfl) rfl (fun X C F => vX1_doers_0 C F M ?_)
  exact l_X1_doers C F hY hk M ⟨_, rfl, rfl, rfl⟩ Y.1.2.1 0 (by omega)
end K1
/-! the bits of a set -/
theorem q_g_ds (d : Nat → Bool) : ∀ n, n ≤ 31 → ∀ j, j < 32 → q_g (q_ds d n) j = (decide (j < n) && d j) := by
  intro n
  induction n with
  | zero => intro _ j _; rw [q_ds, q_g_zero]; simp
  | succ n ih =>
    intro hn j hj
    have h0 := ih (by omega) j hj
    rw [q_ds]
    by_cases h : d n = true
    · rw [if_pos h, q_g_or, h0, q_g_sh1 n (by omega) j hj]
      by_cases e : j = n
      · subst e; simp [h]
      · have : (j < n + 1) = (j < n) := by rw [eq_iff_iff]; omega
        simp [e, this]
    · rw [if_neg h, h0]
      by_cases e : j = n
      · subst e; simp at h; simp [h]
      · have : (j < n + 1) = (j < n) := by rw [eq_iff_iff]; omega
        simp [this]
theorem q_toNat {x : Int32} {n : Nat} (hn : n ≤ 31) (h : ∀ j, n ≤ j → j < 32 → q_g x j = false) : ∃ m : Nat, m < 2 ^ n ∧ x = nI m := by
  refine ⟨x.toBitVec.toNat, ?_, ?_⟩
  · apply Nat.lt_pow_two_of_testBit
    intro i hi
    by_cases h32 : i < 32
    · exact h i hi h32
    · exact BitVec.getLsbD_of_ge _ _ (by omega)
  · apply Int32.toBitVec_inj.mp
    show _ = (Int32.ofNat _).toBitVec
    rw [Int32.toBitVec_ofNat']
    simp
theorem q_g_nI (m : Nat) {j : Nat} (hj : j < 32) : q_g (nI m) j = m.testBit j := by
  unfold q_g nI
  rw [Int32.toBitVec_ofNat', BitVec.getLsbD_ofNat]
  simp [hj]
theorem q_ds_lt (d : Nat → Bool) {n : Nat} (hn : n ≤ 5) : ∃ m : Nat, m < 2 ^ n ∧ q_ds d n = nI m := q_toNat (by omega) (fun j h1 h2 => by rw [q_g_ds d n (by omega) j h2]; simp; omega)
theorem q_pp_congr {P : Nat → Nat → Int32} {d d' : Nat → Bool} {t : Int32} : ∀ n, (∀ p, p < n → d p = d' p) → q_pp P d t n = q_pp P d' t n := by
  intro n
  induction n with
  | zero => intro _; rfl
  | succ n ih => intro h; rw [q_pp, q_pp, ih (fun p hp => h p (by omega)), h n (by omega)]
theorem q_dawn_congr {Y : mY} {d d' : Nat → Bool} {t : Int32} (h : ∀ p, p < Y.1.2.1 → d p = d' p) : q_dawn Y d t = q_dawn Y d' t := by
  unfold q_dawn
  rw [q_pp_congr _ h]
