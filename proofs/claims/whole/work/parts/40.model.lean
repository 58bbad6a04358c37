/-! ===== CONTRACTS: the reference: small methods, sum, pass ===== -/
def cyM (Y : mY) (w : mW) : Prop := w.1 60 0 = nI Y.1.1 ∧ w.1 60 2 = nI Y.1.2.1 ∧ w.1 60 4 = nI Y.1.2.2 ∧ (∀ f k, f < Y.1.1 → k < 3 → w.1 61 (3 * f + k) = Y.2.1 f k) ∧ (∀ p k, p < Y.1.2.1 → k < 6 → w.1 62 (6 * p + k) = Y.2.2.1 p k) ∧ ∀ c k, c < Y.1.2.2 → k < 4 → w.1 63 (4 * c + k) = Y.2.2.2 c k
/-- a row of the reference's holds what is true, the day, what is believed -/
def snM (r : Nat → Int32) (t d : Int32) (M : Int64) : Prop := r 0 = t ∧ r 1 = d ∧ ∀ p f, p < 5 → f < 6 → r (2 + 6 * p + f) = q_bel (q_mo M (nI p)) f
/-- the cells of the reference's city, and its counts -/
def mCy (c k : Nat) : Prop := (c = 60 ∧ (k = 0 ∨ k = 2 ∨ k = 4)) ∨ c = 61 ∨ c = 62 ∨ c = 63
theorem cyM.fr {Y : mY} {S : Nat → Nat → Prop} {w u : mW} (h : cyM Y w) (f : mFr S w u) (hS : ∀ c k, S c k → ¬ mCy c k) : cyM Y u := by
  have e : ∀ c k, mCy c k → u.1 c k = w.1 c k := fun c k hc => (f c k (fun q => hS c k q hc)).1
  obtain ⟨h1, h2, h3, h4, h5, h6⟩ := h
  exact ⟨by rw [e _ _ (by unfold mCy; omega)]; exact h1, by rw [e _ _ (by unfold mCy; omega)]; exact h2, by rw [e _ _ (by unfold mCy; omega)]; exact h3, fun a k ha hk => by rw [e _ _ (by unfold mCy; omega)]; exact h4 a k ha hk, fun a k ha hk => by rw [e _ _ (by unfold mCy; omega)]; exact h5 a k ha hk, fun a k ha hk => by rw [e _ _ (by unfold mCy; omega)]; exact h6 a k ha hk⟩
theorem q_m1 {n : Nat} (hn : n ≤ 6) (f : Int32) : nI n - 1 < f ↔ nI n ≤ f := by
  have e : (nI n - 1).toInt = (n : Int) - 1 := by
    have : ∀ n : Nat, n ≤ 6 → (nI n - 1).toInt = (n : Int) - 1 := by decide
    exact this n hn
  rw [Int32.lt_iff_toInt_lt, Int32.le_iff_toInt_le, e, nI_toInt (by omega)]
  omega
theorem q_6p (p : Nat) : (6 : Int32) * nI p = nI (6 * p) := pk_mul 6 p
theorem q_4p (p : Nat) : (4 : Int32) * nI p = nI (4 * p) := pk_mul 4 p
theorem q_3p (p : Nat) : (3 : Int32) * nI p = nI (3 * p) := pk_mul 3 p
theorem q_k (n k : Nat) : nI n + nI k = nI (n + k) := nI_add n k
section K9
variable {E : mEnv} {w : mW} {Y : mY}
theorem k_X9_in (v lo hi : Int32) : mMi E MX9_in [.int v, .int lo, .int hi] w (fun r u => r = q_b (decide (¬ v < lo ∧ ¬ hi < v)) ∧ u = w) := by
  unfold mMi
  refine mM_start rfl (Nat.le_of_ble_eq_true rfl) rfl (fun X C F => vX9_in_0 C F v lo hi ?_)
  refine ⟨fun h => ⟨_, rfl, ?_, rfl⟩, fun h => ⟨fun h2 => ⟨_, rfl, ?_, rfl⟩, fun h2 => ⟨_, rfl, ?_, rfl⟩⟩⟩
  · rw [decide_eq_false (fun q => q.1 h)]; rfl
  · rw [decide_eq_false (fun q => q.2 h2)]; rfl
  · rw [decide_eq_true ⟨h, h2⟩]; rfl
theorem k_X9_has (s k : Int32) : mMi E MX9_has [.int s, .int k] w (fun r u => r = q_b (decide (q_bt s k = 1)) ∧ u = w) := by
  unfold mMi
  refine mM_start rfl (Nat.le_of_ble_eq_true rfl) rfl (fun X C F => vX9_has_0 C F s k ?_)
  refine ⟨fun h => ⟨_, rfl, ?_, rfl⟩, fun h => ⟨_, rfl, ?_, rfl⟩⟩
  · rw [decide_eq_false (show ¬ q_bt s k = 1 from h)]; rfl
  · rw [decide_eq_true (show q_bt s k = 1 from h)]; rfl
theorem k_X9_isFact (hY : cyM Y w) (hk : cyOK Y) (f : Int32) : mMi E MX9_isFact [.ref 60, .int f] w (fun r u => r = q_b (decide (¬ f < 0 ∧ ¬ nI Y.1.1 ≤ f)) ∧ u = w) := by
  unfold mMi
  refine mM_start rfl (Nat.le_of_ble_eq_true rfl) rfl (fun X C F => vX9_isFact_0 C F f ?_)
  rw [hY.1]
  refine (k_X9_in _ _ _).mono ?_
  rintro v u ⟨rfl, rfl⟩
  refine ⟨q_b_nar _, _, rfl, ?_, rfl⟩
  simp only [q_m1 hk.1]
theorem k_X9_isOne (hY : cyM Y w) (hk : cyOK Y) (f : Int32) : mMi E MX9_isOne [.ref 60, .int f] w (fun r u => r = q_b (decide (¬ f < 0 ∧ ¬ nI Y.1.2.1 ≤ f)) ∧ u = w) := by
  have h5 := hk.2.1
  unfold mMi
  refine mM_start rfl (Nat.le_of_ble_eq_true rfl) rfl (fun X C F => vX9_isOne_0 C F f ?_)
  rw [hY.2.1]
  refine (k_X9_in _ _ _).mono ?_
  rintro v u ⟨rfl, rfl⟩
  refine ⟨q_b_nar _, _, rfl, ?_, rfl⟩
  simp only [q_m1 (show Y.1.2.1 ≤ 6 by omega)]
theorem k_X9_kindOf {p : Nat} (hp : p < 5) : mMi E MX9_kindOf [.ref 60, .int (nI p)] w (fun r u => r = w.1 62 (6 * p) ∧ u = w) := by
  unfold mMi
  refine mM_start rfl (Nat.le_of_ble_eq_true rfl) rfl (fun X C F => vX9_kindOf_0 C F _ ?_)
  rw [q_6p, nI_clamp (by omega)]
  exact ⟨vp_in_nI (by omega) (by omega), _, rfl, rfl, rfl⟩
theorem k_X9_trusts (hY : cyM Y w) (hk : cyOK Y) {p : Nat} (hp : p < Y.1.2.1) : mMi E MX9_trusts [.ref 60, .int (nI p)] w (fun r u => r = q_b (q_tr (Y.2.2.1 p)) ∧ u = w) := by
  have h5 := hk.2.1
  have e0 : w.1 62 (6 * p) = Y.2.2.1 p 0 := hY.2.2.2.2.1 p 0 hp (by omega)
  have e5 : w.1 62 (6 * p + 5) = Y.2.2.1 p 5 := hY.2.2.2.2.1 p 5 hp (by omega)
  unfold mMi
  refine mM_start rfl (Nat.le_of_ble_eq_true rfl) rfl (fun X C F => vX9_trusts_0 C F _ ?_)
  refine (k_X9_kindOf (by omega)).mono ?_
  rintro v u ⟨rfl, rfl⟩
  rw [e0]
  refine ⟨fun h => ⟨_, rfl, ?_, rfl⟩, fun h => (k_X9_kindOf (by omega)).mono ?_⟩
  · simp [q_tr, h, q_b]
  · rintro v u ⟨rfl, rfl⟩
    rw [e0, q_6p, show nI (6 * p) + 5 = nI (6 * p + 5) from q_k _ 5, nI_clamp (by omega), e5]
    refine ⟨fun h2 => ⟨_, rfl, ?_, rfl⟩, fun h2 => ⟨vp_in_nI (by omega) (by omega), fun h3 => ⟨_, rfl, ?_, rfl⟩, fun h3 => ⟨_, rfl, ?_, rfl⟩⟩⟩
    · simp [q_tr, h, h2, q_b]
    · simp [q_tr, h, h2, h3, q_b]
    · simp [q_tr, h, h2, h3, q_b]
theorem k_X9_everybody : mMi E MX9_everybody [.ref 60] w (fun v u => v = ((1 : Int32) <<< (w.1 60 2 &&& 31)) - 1 ∧ u = w) := by
  unfold mMi
  refine mM_start rfl (Nat.le_of_ble_eq_true rfl) rfl (fun X C F => vX9_everybody_0 C F ?_)
  exact ⟨_, rfl, rfl, rfl⟩
theorem k_X9_become {a : Nat} (ha : mSh[a]? = some (.inl (0, 32, []))) (f b : Int32) : mMv E MX9_become [.ref a, .int f, .int b] w (fun u => u = mPI w a 0 (q_bc (w.1 a 0) f b)) := by
  unfold mMv
  refine mM_start rfl (Nat.le_of_ble_eq_true rfl) rfl (fun X C F => vX9_become_0 C F ha f b ?_)
  rintro w1 rfl
  exact ⟨rfl, rfl⟩
def s60 : Nat → Nat → Prop := fun c k => c = 60 ∧ 29 ≤ k ∧ k ≤ 33
/-- the reference's sentence -/
def q_Sm (w : mW) : mS := (w.1 60 29, w.1 60 30, w.1 60 31, w.1 60 32, w.1 60 33)
theorem k_X9_lay (k f b g c : Int32) : mMv E MX9_lay [.ref 60, .int k, .int f, .int b, .int g, .int c] w (fun u => mFr s60 w u ∧ q_Sm u = (k, f, b, g, c)) := by
  unfold mMv
  refine mM_start rfl (Nat.le_of_ble_eq_true rfl) rfl (fun X C F => vX9_lay_0 C F k f b g c ?_)
  refine ⟨rfl, ((((mFr.pi (S := s60) ?_).tr (mFr.pi (S := s60) ?_)).tr (mFr.pi (S := s60) ?_)).tr (mFr.pi (S := s60) ?_)).tr (mFr.pi (S := s60) ?_), ?_⟩
  all_goals first | (unfold s60; omega) | simp [q_Sm, mPI]
theorem k_X9_layTold (k f b g c : Int32) : mMv E MX9_layTold [.ref 60, .int k, .int f, .int b, .int g, .int c] w (fun u => mFr s60 w u ∧ q_Sm u = (if k = 0 ∨ k = 4 then (k, f, b, 0, 0) else (k, f, b, g, c))) := by
  unfold mMv
  refine mM_start rfl (Nat.le_of_ble_eq_true rfl) rfl (fun X C F => vX9_layTold_0 C F k f b g c ?_)
  refine ⟨fun h => (k_X9_lay _ _ _ _ _).mono ?_, fun h => ⟨fun h2 => (k_X9_lay _ _ _ _ _).mono ?_, fun h2 => (k_X9_lay _ _ _ _ _).mono ?_⟩⟩
  · rintro u ⟨f1, h1⟩; exact ⟨rfl, f1, by rw [h1, if_pos (Or.inl h)]⟩
  · rintro u ⟨f1, h1⟩; exact ⟨rfl, f1, by rw [h1, if_neg (fun q => q.elim h h2)]⟩
  · rintro u ⟨f1, h1⟩; exact ⟨rfl, f1, by rw [h1, if_pos (Or.inr h2)]⟩
theorem k_X9_copy {a b na nb x y : Nat} (ha : mSh[a]? = some (.inl (0, na, []))) (hb : mSh[b]? = some (.inl (0, nb, []))) (hab : a ≠ b) (hx : x + 32 ≤ na) (hy : y + 32 ≤ nb) (hna : na ≤ 1000) (hnb : nb ≤ 1000) : mMv E MX9_copy [.ref a, .int (nI x), .ref b, .int (nI y)] w (fun u => mFr (fun c k => c = b ∧ y ≤ k ∧ k < y + 32) w u ∧ ∀ j, j < 32 → u.1 b (y + j) = w.1 a (x + j)) := by
  unfold mMv
  refine mM_start rfl (Nat.le_of_ble_eq_true rfl) rfl (fun X C F => vX9_copy_0 C F ha hb _ _ ?_)
  have loop : ∀ k i : Nat, i + k = 32 → ∀ u, mFr (fun c k => c = b ∧ y ≤ k ∧ k < y + 32) w u → (∀ j, j < i → u.1 b (y + j) = w.1 a (x + j)) → mG X E MX9_copy 3 [.ref a, .int (nI x), .ref b, .int (nI y), .int (nI i)] [] u := by
    intro k
    induction k with
    | zero =>
      intro i hi u hf hj
      refine vX9_copy_3 C F ha hb _ _ _ ?_
      exact ⟨fun _ => ⟨rfl, hf, fun j h => hj j (by omega)⟩, fun h => absurd (show nI 32 ≤ nI i from nI_le (by omega) (by omega)) h⟩
    | succ k ih =>
      intro i hi u hf hj
      refine vX9_copy_3 C F ha hb _ _ _ ?_
      rw [nI_add, nI_add, nI_clamp (by omega), nI_clamp (by omega)]
      refine ⟨fun h => absurd h (nI_ge (b := 32) (by omega) (by omega)), fun _ => ⟨vp_in_nI (by omega) (by omega), vp_in_nI (by omega) (by omega), fun w1 e1 => ?_⟩⟩
      rw [nI_1]
      refine ih (i + 1) (by omega) w1 (hf.tr (by rw [e1]; exact mFr.pi (S := fun c k => c = b ∧ y ≤ k ∧ k < y + 32) ⟨rfl, by omega, by omega⟩)) (fun j hj2 => ?_)
      by_cases e : j = i
      · subst e
        rw [e1, mPI_at]
        exact (hf a (x + j) (fun q => hab q.1)).1
      · rw [e1, mPI_col (by omega)]
        exact hj j (by omega)
  exact loop 32 0 (by omega) w mFr.rf (fun j hj => absurd hj (by omega))
theorem k_X9_sumOf (hY : cyM Y w) (hk : cyOK Y) (t : Int32) : mMi E MX9_sumOf [.ref 60, .int t] w (fun v u => v = q_sum Y.2.1 t Y.1.1 ∧ u = w) := by
  have h6 := hk.1
  unfold mMi
  refine mM_start rfl (Nat.le_of_ble_eq_true rfl) rfl (fun X C F => vX9_sumOf_0 C F t ?_)
  have loop : ∀ k f : Nat, f + k = Y.1.1 → mG X E MX9_sumOf 4 [.ref 60, .int t, .int (q_sum Y.2.1 t f), .int (nI f), .retAddr 0] [] w := by
    intro k
    induction k with
    | zero =>
      intro f hf
      refine vX9_sumOf_4 C F _ _ _ ?_
      rw [hY.1]
      exact ⟨fun _ => ⟨_, rfl, by rw [show f = Y.1.1 by omega], rfl⟩, fun h => absurd (nI_le (by omega) (by omega)) h⟩
    | succ k ih =>
      intro f hf
      have e0 : w.1 61 (3 * f) = Y.2.1 f 0 := hY.2.2.2.1 f 0 (by omega) (by omega)
      have e1 : w.1 61 (3 * f + 1) = Y.2.1 f 1 := hY.2.2.2.1 f 1 (by omega) (by omega)
      have n := ih (f + 1) (by omega)
      rw [← nI_1, q_sum] at n
      refine vX9_sumOf_4 C F _ _ _ ?_
      rw [hY.1]
      refine ⟨fun h => absurd h (nI_ge (by omega) (by omega)), fun _ => (k_X9_has _ _).mono ?_⟩
      rintro v u ⟨rfl, rfl⟩
      rw [q_b0, q_3p, show nI (3 * f) + 1 = nI (3 * f + 1) from q_k _ 1, nI_clamp (by omega), nI_clamp (by omega), e0, e1]
      refine ⟨fun h => ⟨vp_in_nI (by omega) (by omega), fun h2 => ?_, fun h2 => ?_⟩, fun h => ⟨vp_in_nI (by omega) (by omega), vp_in_nI (by omega) (by omega), fun h2 => ?_, fun h2 => ?_⟩⟩
      · rw [if_neg (of_decide_eq_false h)] at n
        rw [show q_sum Y.2.1 t f + (-(0 : Int32)) = q_sum Y.2.1 t f by simp]
        exact n
      · rw [if_neg (of_decide_eq_false h)] at n
        rw [show q_sum Y.2.1 t f + (0 : Int32) = q_sum Y.2.1 t f by simp]
        exact n
      · rw [if_pos (of_decide_eq_true ((Bool.not_eq_false _).mp h)), if_neg h2] at n
        exact n
      · rw [if_pos (of_decide_eq_true ((Bool.not_eq_false _).mp h)), if_pos h2] at n
        exact n
  exact loop Y.1.1 0 (by omega)
def aS (a : Nat) : Nat → Nat → Prop := fun c k => c = a ∧ (k = 0 ∨ k = 1)
theorem q_arr {a : Nat} (ha : mSh[a]? = some (.inl (0, 32, []))) : ¬ a = 60 ∧ ¬ a = 61 ∧ ¬ a = 62 ∧ ¬ a = 63 := by
  refine ⟨?_, ?_, ?_, ?_⟩ <;> (rintro rfl; revert ha; first | rw [sh60] | rw [sh61] | rw [sh62] | rw [sh63]) <;> simp
theorem k_X9_pass {a : Nat} (ha : mSh[a]? = some (.inl (0, 32, []))) (hY : cyM Y w) (hk : cyOK Y) {t d : Int32} {M : Int64} (hs : snM (w.1 a) t d M) : mMv E MX9_pass [.ref 60, .ref a] w (fun u => mFr (aS a) w u ∧ u.1 a 0 = q_dawn Y (q_dd Y M) t ∧ u.1 a 1 = d + 1) := by
  have h5 := hk.2.1
  have h6 := hk.1
  have hc6 := hk.2.2.1
  have hn := q_arr ha
  have aC : ∀ c k, aS a c k → ¬ mCy c k := fun c k h => by unfold aS at h; unfold mCy; omega
  unfold mMv
  refine mM_start rfl (Nat.le_of_ble_eq_true rfl) rfl (fun X C F => vX9_pass_0 C F ha ?_)
  have loop2 : ∀ k f : Nat, f + k = Y.1.2.2 → ∀ u, mFr (aS a) w u → u.1 a 0 = q_cs Y.2.2.2 (q_pp Y.2.2.1 (q_dd Y M) t Y.1.2.1) f → u.1 a 1 = d → mG X E MX9_pass 78 [.ref 60, .ref a, .int (nI f)] [] u := by
    intro k
    induction k with
    | zero =>
      intro f hf u hfr h0 h1
      have hYu := hY.fr hfr aC
      refine vX9_pass_78 C F ha _ ?_
      rw [hYu.2.2.1]
      refine ⟨fun _ w1 e1 => ⟨rfl, ?_, ?_, ?_⟩, fun h => absurd (nI_le (by omega) (by omega)) h⟩
      · rw [e1]; exact hfr.tr (mFr.pi (S := aS a) ⟨rfl, Or.inr rfl⟩)
      · rw [e1, mPI_col (by omega), h0, show f = Y.1.2.2 by omega]; rfl
      · rw [e1, mPI_at, h1]
    | succ k ih =>
      intro f hf u hfr h0 h1
      have hYu := hY.fr hfr aC
      have e : ∀ j, j < 4 → u.1 63 (4 * f + j) = Y.2.2.2 f j := fun j hj => hYu.2.2.2.2.2 f j (by omega) hj
      have e0 : u.1 63 (4 * f) = Y.2.2.2 f 0 := e 0 (by omega)
      refine vX9_pass_78 C F ha _ ?_
      rw [hYu.2.2.1, q_4p, show nI (4 * f) + 1 = nI (4 * f + 1) from q_k _ 1, show nI (4 * f) + 2 = nI (4 * f + 2) from q_k _ 2, show nI (4 * f) + 3 = nI (4 * f + 3) from q_k _ 3, nI_clamp (by omega), nI_clamp (by omega), nI_clamp (by omega), nI_clamp (by omega), e0, e 1 (by omega), e 2 (by omega), e 3 (by omega), h0]
      have vi : ∀ j, j < 4 → vp_in (nI (4 * f + j)) 24 := fun j hj => vp_in_nI (by omega) (by omega)
      refine ⟨fun h => absurd h (nI_ge (by omega) (by omega)), fun _ => ⟨vi 0 (by omega), vi 1 (by omega), fun hc => ?_, fun hc => ⟨vi 2 (by omega), vi 3 (by omega), (k_X9_become ha _ _).mono ?_⟩⟩⟩
      · have hc : ¬ q_bt (q_cs Y.2.2.2 (q_pp Y.2.2.1 (q_dd Y M) t Y.1.2.1) f) (Y.2.2.2 f 0) = Y.2.2.2 f 1 := hc
        rw [nI_1]
        refine ih (f + 1) (by omega) u hfr ?_ h1
        rw [h0, q_cs, if_neg hc]
      · have hc : q_bt (q_cs Y.2.2.2 (q_pp Y.2.2.1 (q_dd Y M) t Y.1.2.1) f) (Y.2.2.2 f 0) = Y.2.2.2 f 1 := hc
        rintro u2 rfl
        rw [nI_1]
        refine ih (f + 1) (by omega) _ (hfr.tr (mFr.pi (S := aS a) ⟨rfl, Or.inl rfl⟩)) ?_ ?_
        · rw [mPI_at, h0, q_cs, if_pos hc]
        · rw [mPI_col (by omega)]; exact h1
  have loop : ∀ k f : Nat, f + k = Y.1.2.1 → ∀ u, mFr (fun c k => c = a ∧ k = 0) w u → u.1 a 0 = q_pp Y.2.2.1 (q_dd Y M) t f → mG X E MX9_pass 2 [.ref 60, .ref a, .int (nI f)] [] u := by
    intro k
    induction k with
    | zero =>
      intro f hf u hfr h0
      have hfr2 : mFr (aS a) w u := hfr.mono (fun c k h => ⟨h.1, Or.inl h.2⟩)
      have hYu := hY.fr hfr2 aC
      refine vX9_pass_2 C F ha _ ?_
      rw [hYu.2.1]
      refine ⟨fun _ => ?_, fun h => absurd (nI_le (by omega) (by omega)) h⟩
      refine loop2 Y.1.2.2 0 (by omega) u hfr2 ?_ ?_
      · rw [h0, show f = Y.1.2.1 by omega]; rfl
      · rw [(hfr a 1 (by omega)).1]; exact hs.2.1
    | succ k ih =>
      intro f hf u hfr h0
      have hfr2 : mFr (aS a) w u := hfr.mono (fun c k h => ⟨h.1, Or.inl h.2⟩)
      have hYu := hY.fr hfr2 aC
      have e : ∀ j, j < 6 → u.1 62 (6 * f + j) = Y.2.2.1 f j := fun j hj => hYu.2.2.2.2.1 f j (by omega) hj
      obtain ⟨-, ⟨x, hx, ex⟩, hb, -⟩ := hk.2.2.2.2.1 f (by omega)
      have eb : u.1 a (2 + 6 * f + x) = q_bel (q_mo M (nI f)) x := by rw [(hfr a _ (by omega)).1]; exact hs.2.2 f x (by omega) (by omega)
      refine vX9_pass_2 C F ha _ ?_
      rw [hYu.2.1, q_6p, show nI (6 * f) + 1 = nI (6 * f + 1) from q_k _ 1, show nI (6 * f) + 2 = nI (6 * f + 2) from q_k _ 2, show nI (6 * f) + 3 = nI (6 * f + 3) from q_k _ 3, show nI (6 * f) + 4 = nI (6 * f + 4) from q_k _ 4, nI_clamp (by omega), nI_clamp (by omega), nI_clamp (by omega), nI_clamp (by omega), e 1 (by omega), e 2 (by omega), e 3 (by omega), e 4 (by omega), ex, show (2 : Int32) + nI (6 * f) = nI (2 + 6 * f) from q_k 2 _, nI_add, nI_clamp (by omega), eb]
      have vi : ∀ j, j < 6 → vp_in (nI (6 * f + j)) 30 := fun j hj => vp_in_nI (by omega) (by omega)
      have hq : q_dd Y M f = true ↔ q_bel (q_mo M (nI f)) x = Y.2.2.1 f 2 := by
        unfold q_dd
        rw [decide_eq_true_iff, ex]
        exact q_hs_iff _ hb (by omega)
      refine ⟨fun h => absurd h (nI_ge (by omega) (by omega)), fun _ => ⟨vi 1 (by omega), vp_in_nI (by omega) (by omega), vi 2 (by omega), fun hc => ?_, fun hc => ⟨vi 3 (by omega), vi 4 (by omega), (k_X9_become ha _ _).mono ?_⟩⟩⟩
      · rw [nI_1]
        refine ih (f + 1) (by omega) u hfr ?_
        rw [h0, q_pp, if_neg (fun q => hc (hq.mp q))]
      · rintro u2 rfl
        rw [nI_1]
        refine ih (f + 1) (by omega) _ (hfr.tr (mFr.pi (S := fun c k => c = a ∧ k = 0) ⟨rfl, rfl⟩)) ?_
        rw [mPI_at, h0, q_pp, if_pos (hq.mpr hc)]
  exact loop Y.1.2.1 0 (by omega) w mFr.rf hs.1
end K9
