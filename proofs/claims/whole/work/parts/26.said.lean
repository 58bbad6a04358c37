/-! ===== CONTRACTS: sentences said, what is foretold of a day ===== -/
def q_sp (Y : mY) (set : Int32) : Bool := !decide (set &&& q_it Y = 0)
/-- who does his deed if it is said to a set -/
def q_ad (Y : mY) (S : mS) (M : Int64) (set : Int32) : Nat → Bool := fun p => if q_bt set (nI p) = 1 then q_dt Y S M p else if q_sp Y set = true then q_dh Y S M p else q_dd Y M p
def q_so (Y : mY) (S : mS) (M : Int64) (t set : Int32) : Bool := if S.1 = 4 then q_st S (q_dawn Y (q_ad Y S M set) t) else q_st S t
def q_Ms (Y : mY) (S : mS) (M : Int64) (set : Int32) : Nat → Int64
  | 0 => M
  | p + 1 => if q_bt set (nI p) = 1 then q_wm (q_Ms Y S M set p) (nI p) (q_tm Y S M p) else if q_sp Y set = true then q_wm (q_Ms Y S M set p) (nI p) (q_bv S (q_mo M (nI p))) else q_Ms Y S M set p
theorem q_bits_ds (d : Nat → Bool) {n : Nat} (hn : n ≤ 5) {p : Nat} (hp : p < n) : q_bits (q_ds d n) p = d p := by
  unfold q_bits
  rw [Bool.eq_iff_iff, decide_eq_true_iff, q_bt1 _ (by omega), q_g_ds d n (by omega) p (by omega)]
  simp [hp]
theorem q_mix (a o s : Int32) {j : Nat} (hj : j < 32) : q_g ((a &&& s) ||| (o &&& (s ^^^ (-1 : Int32)))) j = if q_g s j = true then q_g a j else q_g o j := by
  rw [q_g_or, q_g_and, q_g_and, q_g_xor, q_g_m1 j hj]
  cases q_g s j <;> simp
theorem q_mix_ds (Y : mY) (hk : cyOK Y) (S : mS) (M : Int64) (set : Int32) : ((q_ds (q_dt Y S M) Y.1.2.1) &&& set) ||| ((if q_sp Y set = true then q_ds (q_dh Y S M) Y.1.2.1 else q_ds (q_dd Y M) Y.1.2.1) &&& (set ^^^ (-1 : Int32))) = q_ds (q_ad Y S M set) Y.1.2.1 := by
  have h5 := hk.2.1
  apply q_ext
  intro j hj
  rw [q_mix _ _ _ hj, q_g_ds _ _ (by omega) j hj, q_g_ds _ _ (by omega) j hj]
  by_cases hn : j < Y.1.2.1
  · rw [q_ad]
    simp only [q_bt1 set hj]
    split
    · rfl
    · split
      · rw [q_g_ds _ _ (by omega) j hj]
      · rw [q_g_ds _ _ (by omega) j hj]
  · rw [decide_eq_false hn, Bool.false_and, Bool.false_and]
    split
    · rfl
    · split
      · rw [q_g_ds _ _ (by omega) j hj, decide_eq_false hn, Bool.false_and]
      · rw [q_g_ds _ _ (by omega) j hj, decide_eq_false hn, Bool.false_and]
section K3b
variable {E : mEnv} {w : mW} {Y : mY} {b : Nat} {t : Int32} {M : Int64} {S : mS}
theorem k_X3_doersIfSaidTo (hb : b = 46 ∨ b = 52) (hY : cyX Y w) (hk : cyOK Y) (hl : fLook Y b t M w) (hh : fHear Y b S M w) (set : Int32) : mMi E MX3_doersIfSaidTo [.ref b, .int set] w (fun v u => v = q_ds (q_ad Y S M set) Y.1.2.1 ∧ u = w) := by
  unfold mMi
  refine mM_start rfl (Nat.le_of_ble_eq_true rfl) rfl (fun X C F => vX3_doersIfSaidTo_0 C F hb set ?_)
  rw [hY.2.2.2.2.2.2, hh.2.2.1, hh.2.2.2, hl.2.2.1, ← q_mix_ds Y hk S M set]
  refine ⟨fun h => ⟨_, rfl, ?_, rfl⟩, fun h => ⟨_, rfl, ?_, rfl⟩⟩
  · rw [if_neg (by simp [q_sp, h])]
  · rw [if_pos (by simp [q_sp, h])]
theorem q_zero_mix (a o : Int32) : (a &&& 0) ||| (o &&& ((0 : Int32) ^^^ (-1 : Int32))) = o := by
  apply q_ext
  intro j hj
  rw [q_mix _ _ _ hj, q_g_zero]
  rfl
theorem q_and0 (x : Int32) : (0 : Int32) &&& x = 0 := by
  apply q_ext
  intro j hj
  rw [q_g_and, q_g_zero]
  rfl
theorem k_X3_doers0 (hb : b = 46 ∨ b = 52) (hl : fLook Y b t M w) : mMi E MX3_doersIfSaidTo [.ref b, .int 0] w (fun v u => v = q_ds (q_dd Y M) Y.1.2.1 ∧ u = w) := by
  unfold mMi
  refine mM_start rfl (Nat.le_of_ble_eq_true rfl) rfl (fun X C F => vX3_doersIfSaidTo_0 C F hb 0 ?_)
  refine ⟨fun h => ⟨_, rfl, ?_, rfl⟩, fun h => absurd (q_and0 _) h⟩
  rw [q_zero_mix]
  exact hl.2.2.1
theorem f_at (hk : cyOK Y) (hl : fLook Y b t M w) (d : Nat → Bool) : vp_in (q_ds d Y.1.2.1) 32 ∧ w.1 (b + 2) (q_ds d Y.1.2.1).toNatClampNeg = q_dawn Y d t ∧ w.1 (b + 3) (q_ds d Y.1.2.1).toNatClampNeg = q_sum Y.2.1 (q_dawn Y d t) Y.1.1 := by
  have h5 := hk.2.1
  have h32 := q_pow32 h5
  obtain ⟨m, hm, e⟩ := q_ds_lt d h5
  have h1 := hl.2.2.2 m hm
  have h2 : q_dawn Y (q_bits (nI m)) t = q_dawn Y d t := q_dawn_congr (fun p hp => by rw [← e]; exact q_bits_ds d h5 hp)
  rw [h2] at h1
  rw [e, nI_clamp (by omega)]
  exact ⟨vp_in_nI (by omega) (by omega), h1.1, h1.2⟩
theorem k_X3_truthIfSaidTo (hb : b = 46 ∨ b = 52) (hY : cyX Y w) (hk : cyOK Y) (hl : fLook Y b t M w) (hh : fHear Y b S M w) (set : Int32) : mMi E MX3_truthIfSaidTo [.ref b, .int set] w (fun v u => v = q_dawn Y (q_ad Y S M set) t ∧ u = w) := by
  unfold mMi
  refine mM_start rfl (Nat.le_of_ble_eq_true rfl) rfl (fun X C F => vX3_truthIfSaidTo_0 C F hb set ?_)
  refine (k_X3_doersIfSaidTo hb hY hk hl hh set).mono ?_
  rintro v u ⟨rfl, rfl⟩
  obtain ⟨h1, h2, h3⟩ := f_at hk hl (q_ad Y S M set)
  exact ⟨h1, _, rfl, h2, rfl⟩
theorem k_X3_sumIfSaidTo (hb : b = 46 ∨ b = 52) (hY : cyX Y w) (hk : cyOK Y) (hl : fLook Y b t M w) (hh : fHear Y b S M w) (set : Int32) : mMi E MX3_sumIfSaidTo [.ref b, .int set] w (fun v u => v = q_sum Y.2.1 (q_dawn Y (q_ad Y S M set) t) Y.1.1 ∧ u = w) := by
  unfold mMi
  refine mM_start rfl (Nat.le_of_ble_eq_true rfl) rfl (fun X C F => vX3_sumIfSaidTo_0 C F hb set ?_)
  refine (k_X3_doersIfSaidTo hb hY hk hl hh set).mono ?_
  rintro v u ⟨rfl, rfl⟩
  obtain ⟨h1, h2, h3⟩ := f_at hk hl (q_ad Y S M set)
  exact ⟨h1, _, rfl, h3, rfl⟩
theorem k_X3_truth0 (hb : b = 46 ∨ b = 52) (hk : cyOK Y) (hl : fLook Y b t M w) : mMi E MX3_truthIfSaidTo [.ref b, .int 0] w (fun v u => v = q_dawn Y (q_dd Y M) t ∧ u = w) := by
  unfold mMi
  refine mM_start rfl (Nat.le_of_ble_eq_true rfl) rfl (fun X C F => vX3_truthIfSaidTo_0 C F hb 0 ?_)
  refine (k_X3_doers0 hb hl).mono ?_
  rintro v u ⟨rfl, rfl⟩
  obtain ⟨h1, h2, h3⟩ := f_at hk hl (q_dd Y M)
  exact ⟨h1, _, rfl, h2, rfl⟩
theorem k_X3_sum0 (hb : b = 46 ∨ b = 52) (hk : cyOK Y) (hl : fLook Y b t M w) : mMi E MX3_sumIfSaidTo [.ref b, .int 0] w (fun v u => v = q_sum Y.2.1 (q_dawn Y (q_dd Y M) t) Y.1.1 ∧ u = w) := by
  unfold mMi
  refine mM_start rfl (Nat.le_of_ble_eq_true rfl) rfl (fun X C F => vX3_sumIfSaidTo_0 C F hb 0 ?_)
  refine (k_X3_doers0 hb hl).mono ?_
  rintro v u ⟨rfl, rfl⟩
  obtain ⟨h1, h2, h3⟩ := f_at hk hl (q_dd Y M)
  exact ⟨h1, _, rfl, h3, rfl⟩
theorem k_X3_isSoSaidTo (hb : b = 46 ∨ b = 52) (hY : cyX Y w) (hk : cyOK Y) (hl : fLook Y b t M w) (hh : fHear Y b S M w) (set : Int32) : mMi E MX3_isSoSaidTo [.ref b, .int set] w (fun v u => v = q_b (q_so Y S M t set) ∧ u = w) := by
  have hc : b + 1 = 47 ∨ b + 1 = 53 := by omega
  have hS := hh.1
  unfold mMi
  refine mM_start rfl (Nat.le_of_ble_eq_true rfl) rfl (fun X C F => vX3_isSoSaidTo_0 C F hb set ?_)
  have hk4 : w.1 (b + 1) 0 = S.1 := by rw [← hS]; rfl
  rw [hk4]
  refine ⟨fun h => (k_X7_stands hc _).mono ?_, fun h => (k_X3_truthIfSaidTo hb hY hk hl hh set).mono ?_⟩
  · rintro v u ⟨rfl, rfl⟩
    refine ⟨q_b_nar _, _, rfl, ?_, rfl⟩
    rw [hS, hl.1, q_so, if_neg h]
  · rintro v u ⟨rfl, rfl⟩
    refine (k_X7_stands hc _).mono ?_
    rintro v u ⟨rfl, rfl⟩
    refine ⟨q_b_nar _, _, rfl, ?_, rfl⟩
    rw [hS, q_so, if_pos h]
theorem k_X3_doesDeedIfTold (hb : b = 46 ∨ b = 52) (hk : cyOK Y) (hh : fHear Y b S M w) {p : Nat} (hp : p < Y.1.2.1) : mMi E MX3_doesDeedIfTold [.ref b, .int (nI p)] w (fun v u => v = q_b (q_dt Y S M p) ∧ u = w) := by
  have h5 := hk.2.1
  have e : q_bt (w.1 b 8) (nI p) = 1 ↔ q_dt Y S M p = true := by
    rw [hh.2.2.1, q_bt1 _ (by omega), q_g_ds _ _ (by omega) p (by omega)]
    simp [hp]
  unfold mMi
  refine mM_start rfl (Nat.le_of_ble_eq_true rfl) rfl (fun X C F => vX3_doesDeedIfTold_0 C F hb _ ?_)
  refine ⟨fun h => ⟨_, rfl, ?_, rfl⟩, fun h => ⟨_, rfl, ?_, rfl⟩⟩
  · have h : ¬ q_bt (w.1 b 8) (nI p) = 1 := h
    rw [e] at h
    rw [q_b, if_neg h]
  · have h : q_bt (w.1 b 8) (nI p) = 1 := h
    rw [e] at h
    rw [q_b, if_pos h]
theorem k_X3_sumIfHeld (hb : b = 46 ∨ b = 52) (hY : cyX Y w) (hk : cyOK Y) (hl : fLook Y b t M w) (N : Int64) : mMi E MX3_sumIfHeld [.ref b, .long N] w (fun v u => v = q_sum Y.2.1 (q_dawn Y (q_dd Y N) t) Y.1.1 ∧ u = w) := by
  unfold mMi
  refine mM_start rfl (Nat.le_of_ble_eq_true rfl) rfl (fun X C F => vX3_sumIfHeld_0 C F hb N ?_)
  refine (k_X1_doers hY hk N).mono ?_
  rintro v u ⟨rfl, rfl⟩
  obtain ⟨h1, h2, h3⟩ := f_at hk hl (q_dd Y N)
  exact ⟨h1, _, rfl, h3, rfl⟩
theorem l_X3_minds {X : mX} {Qm : Option Value → mW → Prop} (C : mCtx X E MX3_mindsIfSaidTo) (F : mFin X E MX3_mindsIfSaidTo Qm) (hb : b = 46 ∨ b = 52) (hY : cyX Y w) (hk : cyOK Y) (hh : fHear Y b S M w) (set z : Int32) (hz : z = q_b (q_sp Y set))
    (hQ : Qm (some (.long (q_Ms Y S M set Y.1.2.1))) w) :
    ∀ k d : Nat, d + k = Y.1.2.1 → mG X E MX3_mindsIfSaidTo 26 [.ref b, .int set, .int z, .long (q_Ms Y S M set d), .retAddr 0, .int (nI d)] [] w := by
  have h5 := hk.2.1
  intro k
  induction k with
  | zero =>
    intro d hd
    refine vX3_mindsIfSaidTo_26 C F hb _ _ _ _ ?_
    rw [hY.2.1]
    refine ⟨fun _ => ?_, fun h => absurd (nI_le (by omega) (by omega)) h⟩
    rw [show d = Y.1.2.1 by omega]
    exact hQ
  | succ k ih =>
    intro d hd
    have hin : vp_in (nI d) 5 := vp_in_nI (by omega) (by omega)
    have n := ih (d + 1) (by omega)
    rw [← nI_1] at n
    refine vX3_mindsIfSaidTo_26 C F hb _ _ _ _ ?_
    rw [hY.2.1, nI_clamp (show d < 2 ^ 31 by omega), (hh.2.1 d (by omega)).1, (hh.2.1 d (by omega)).2]
    refine ⟨fun h => absurd h (nI_ge (by omega) (by omega)), fun _ => ⟨fun h1 => ⟨fun h2 => ?_, fun h2 => ⟨hin, (k_X4_withMind _ _ _).mono ?_⟩⟩, fun h1 => ⟨hin, (k_X4_withMind _ _ _).mono ?_⟩⟩⟩
    · have h1 : ¬ q_bt set (nI d) = 1 := h1
      rw [hz, q_b0] at h2
      rw [q_Ms, if_neg h1, if_neg (by rw [h2]; decide)] at n
      exact n
    · have h1 : ¬ q_bt set (nI d) = 1 := h1
      rw [hz, q_b0] at h2
      rw [q_Ms, if_neg h1, if_pos ((Bool.not_eq_false _).mp h2)] at n
      rintro v u ⟨rfl, rfl⟩
      exact n
    · have h1 : q_bt set (nI d) = 1 := h1
      rw [q_Ms, if_pos h1] at n
      rintro v u ⟨rfl, rfl⟩
      exact n
theorem k_X3_mindsIfSaidTo (hb : b = 46 ∨ b = 52) (hY : cyX Y w) (hk : cyOK Y) (hl : fLook Y b t M w) (hh : fHear Y b S M w) (set : Int32) : mMl E MX3_mindsIfSaidTo [.ref b, .int set] w (fun v u => v = q_Ms Y S M set Y.1.2.1 ∧ u = w) := by
  unfold mMl
  refine mM_start rfl (Nat.le_of_ble_eq_true rfl) rfl (fun X C F => vX3_mindsIfSaidTo_0 C F hb set ?_)
  rw [hY.2.2.2.2.2.2, hl.2.1]
  refine ⟨fun h => ?_, fun h => ?_⟩
  · exact l_X3_minds C F hb hY hk hh set 0 (by rw [q_sp, decide_eq_true h]; rfl) ⟨_, rfl, rfl, rfl⟩ Y.1.2.1 0 (by omega)
  · exact l_X3_minds C F hb hY hk hh set 1 (by rw [q_sp, decide_eq_false h]; rfl) ⟨_, rfl, rfl, rfl⟩ Y.1.2.1 0 (by omega)
theorem q_lcmp (x y : Int64) : lg_cmp x y = 0 ↔ x = y := lg_cmp_eq x y
theorem k_X3_movesIfSaidTo (hb : b = 46 ∨ b = 52) (hY : cyX Y w) (hk : cyOK Y) (hl : fLook Y b t M w) (hh : fHear Y b S M w) (set : Int32) : mMi E MX3_movesIfSaidTo [.ref b, .int set] w (fun v u => v = q_b (!decide (q_Ms Y S M set Y.1.2.1 = M)) ∧ u = w) := by
  unfold mMi
  refine mM_start rfl (Nat.le_of_ble_eq_true rfl) rfl (fun X C F => vX3_movesIfSaidTo_0 C F hb set ?_)
  refine (k_X3_mindsIfSaidTo hb hY hk hl hh set).mono ?_
  rintro v u ⟨rfl, rfl⟩
  rw [hl.2.1, q_lcmp]
  refine ⟨fun h => ⟨_, rfl, ?_, rfl⟩, fun h => ⟨_, rfl, ?_, rfl⟩⟩
  · rw [decide_eq_true h]; rfl
  · rw [decide_eq_false h]; rfl
end K3b
