/-! ===== CONTRACTS: the reference: hearAll, isSo ===== -/
theorem q_can_al {m : Int32} (h : q_can m) {f g x y : Nat} (hf : f < 6) (hg : g < 6) (hx : x < 2) (hy : y < 2) : q_can (q_al m (nI f) (nI g) (nI x) (nI y)) := by
  unfold q_al
  split
  · exact q_can_hd h (q_01n hy) hg
  · split
    · exact q_can_hd h (q_01n hx) hf
    · exact h
theorem q_can_bv {m : Int32} (h : q_can m) {n : mN5} (hn : q_sok n) : q_can (q_bv (q_toS n) m) := by
  obtain ⟨k, f, b, g, c⟩ := n
  obtain ⟨-, h2, h3, h4, h5, -⟩ := hn
  dsimp only at h2 h3 h4 h5
  unfold q_bv q_toS
  dsimp only
  rw [q_1m h3]
  split
  · exact q_can_hd (q_can_hd h (q_01n h3) h2) (q_01n h5) h4
  · split
    · exact q_can_al h h2 h4 h3 h5
    · split
      · exact q_can_al h h2 h4 (by omega) h5
      · exact q_can_hd h (q_01n h3) h2
theorem q_can_db {m : Int32} (h : q_can m) {n : mN5} (hn : q_sok n) : q_can (q_db (q_toS n) m) := by
  obtain ⟨k, f, b, g, c⟩ := n
  obtain ⟨-, h2, h3, h4, h5, -⟩ := hn
  dsimp only at h2 h3 h4 h5
  unfold q_db q_toS
  dsimp only
  rw [q_1m h3, q_1m h5]
  split
  · exact q_can_al h h2 h4 (by omega) (by omega)
  · split
    · exact q_can_hd (q_can_hd h (q_01n (by omega)) h2) (q_01n (by omega)) h4
    · split
      · exact q_can_hd (q_can_hd h (q_01n h3) h2) (q_01n (by omega)) h4
      · exact q_can_hd h (q_01n (by omega)) h2
/-- one's mind behind a sentence said to a set -/
def q_am (Y : mY) (S : mS) (M : Int64) (set : Int32) (p : Nat) : Int32 := if q_bt set (nI p) = 1 then q_tm Y S M p else if q_sp Y set = true then q_bv S (q_mo M (nI p)) else q_mo M (nI p)
theorem q_can_am {Y : mY} {M : Int64} (hM : q_ok M) {n : mN5} (hn : q_sok n) (set : Int32) {p : Nat} (hp : p < 5) : q_can (q_am Y (q_toS n) M set p) := by
  unfold q_am q_tm
  split
  · split
    · exact q_can_bv (hM.2 p hp) hn
    · exact q_can_db (hM.2 p hp) hn
  · split
    · exact q_can_bv (hM.2 p hp) hn
    · exact hM.2 p hp
theorem q_Ms_ok {Y : mY} {M : Int64} (hM : q_ok M) {n : mN5} (hn : q_sok n) (set : Int32) : ∀ i, i ≤ 5 → q_ok (q_Ms Y (q_toS n) M set i) ∧ ∀ q, q < 5 → q_mo (q_Ms Y (q_toS n) M set i) (nI q) = if q < i then q_am Y (q_toS n) M set q else q_mo M (nI q) := by
  intro i
  induction i with
  | zero => intro _; exact ⟨hM, fun q _ => by rw [if_neg (by omega)]; rfl⟩
  | succ i ih =>
    intro hi
    obtain ⟨h1, h2⟩ := ih (by omega)
    have hc := q_can_am (Y := Y) hM hn set (p := i) (by omega)
    have key : ∀ x : Int32, x = q_am Y (q_toS n) M set i → q_ok (q_wm (q_Ms Y (q_toS n) M set i) (nI i) x) ∧ ∀ q, q < 5 → q_mo (q_wm (q_Ms Y (q_toS n) M set i) (nI i) x) (nI q) = if q < i + 1 then q_am Y (q_toS n) M set q else q_mo M (nI q) := by
      rintro x rfl
      refine ⟨q_ok_wm h1 hc (by omega), fun q hq => ?_⟩
      rw [q_mo_wm _ hc.1 (by omega) hq]
      by_cases e : q = i
      · subst e; rw [if_pos rfl, if_pos (by omega)]
      · rw [if_neg e, h2 q hq]
        by_cases l : q < i
        · rw [if_pos l, if_pos (by omega)]
        · rw [if_neg l, if_neg (by omega)]
    rw [q_Ms]
    by_cases a1 : q_bt set (nI i) = 1
    · rw [if_pos a1]
      exact key _ (by rw [q_am, if_pos a1])
    · rw [if_neg a1]
      by_cases a2 : q_sp Y set = true
      · rw [if_pos a2]
        exact key _ (by rw [q_am, if_neg a1, if_pos a2])
      · rw [if_neg a2]
        refine ⟨h1, fun q hq => ?_⟩
        rw [h2 q hq]
        by_cases l : q < i
        · rw [if_pos l, if_pos (by omega)]
        · rw [if_neg l]
          by_cases e : q = i
          · subst e; rw [if_pos (by omega), q_am, if_neg a1, if_neg a2]
          · rw [if_neg (by omega)]
theorem q_dd_Ms {Y : mY} (hk : cyOK Y) {M : Int64} (hM : q_ok M) {n : mN5} (hn : q_sok n) (set : Int32) {p : Nat} (hp : p < Y.1.2.1) : q_dd Y (q_Ms Y (q_toS n) M set Y.1.2.1) p = q_ad Y (q_toS n) M set p := by
  have h5 := hk.2.1
  have := (q_Ms_ok (Y := Y) hM hn set Y.1.2.1 h5).2 p (by omega)
  rw [if_pos hp] at this
  unfold q_dd
  rw [this, q_ad, q_am]
  split
  · rfl
  · split
    · rfl
    · rfl
/-- an interpreter has been told, ahead of p -/
def q_tl (Y : mY) (set : Int32) : Nat → Bool
  | 0 => false
  | p + 1 => q_tl Y set p || (decide (q_bt set (nI p) = 1) && decide (Y.2.2.1 p 0 = 3))
theorem q_tl_iff (Y : mY) (set : Int32) : ∀ n, q_tl Y set n = true ↔ ∃ p, p < n ∧ q_bt set (nI p) = 1 ∧ Y.2.2.1 p 0 = 3 := by
  intro n
  induction n with
  | zero => simp [q_tl]
  | succ n ih =>
    rw [q_tl, Bool.or_eq_true, ih, Bool.and_eq_true, decide_eq_true_iff, decide_eq_true_iff]
    constructor
    · rintro (⟨p, h1, h2⟩ | h)
      · exact ⟨p, by omega, h2⟩
      · exact ⟨n, by omega, h⟩
    · rintro ⟨p, h1, h2⟩
      by_cases e : p = n
      · subst e; exact Or.inr h2
      · exact Or.inl ⟨p, by omega, h2⟩
theorem q_sp_tl {Y : mY} (hk : cyOK Y) (set : Int32) : q_tl Y set Y.1.2.1 = q_sp Y set := by
  have h5 := hk.2.1
  rw [Bool.eq_iff_iff, q_tl_iff]
  unfold q_sp
  rw [Bool.not_eq_true', decide_eq_false_iff_not]
  constructor
  · rintro ⟨p, h1, h2, h3⟩ h
    have := congrArg (fun x => q_g x p) h
    simp only [q_g_and, q_g_zero] at this
    rw [q_bt1 _ (by omega)] at h2
    unfold q_it at this
    rw [h2, q_g_ds _ _ (by omega) p (by omega)] at this
    simp [h1, h3] at this
  · intro h
    apply Classical.byContradiction
    intro hn
    apply h
    apply q_ext
    intro j hj
    rw [q_g_zero, q_g_and]
    unfold q_it
    rw [q_g_ds _ _ (by omega) j hj]
    by_cases a1 : j < Y.1.2.1
    · by_cases a2 : q_g set j = true
      · by_cases a3 : Y.2.2.1 j 0 = 3
        · exact absurd ⟨j, a1, (q_bt1 _ (by omega)).mpr a2, a3⟩ hn
        · simp [a3]
      · simp [(Bool.not_eq_true _).mp a2]
    · simp [a1]
def bS (a : Nat) : Nat → Nat → Prop := fun c k => c = a ∧ 2 ≤ k ∧ k < 32
def cS (a : Nat) : Nat → Nat → Prop := fun c k => c = a ∧ k < 32
section K9i
variable {E : mEnv} {w : mW} {Y : mY} {t d : Int32} {M : Int64}
theorem q_Sm_fr {u : mW} {T : Nat → Nat → Prop} (f : mFr T w u) (hT : ∀ c k, T c k → ¬ s60 c k) : q_Sm u = q_Sm w := by
  have e : ∀ k, 29 ≤ k → k ≤ 33 → u.1 60 k = w.1 60 k := fun k h1 h2 => (f 60 k (fun q => hT _ _ q ⟨rfl, h1, h2⟩)).1
  unfold q_Sm
  rw [e 29 (by omega) (by omega), e 30 (by omega) (by omega), e 31 (by omega) (by omega), e 32 (by omega) (by omega), e 33 (by omega) (by omega)]
theorem k_X9_hearAll {a : Nat} (ha : mSh[a]? = some (.inl (0, 32, []))) (hY : cyM Y w) (hk : cyOK Y) (hM : q_ok M) (hs : snM (w.1 a) t d M) {n : mN5} (hn : q_sok n) (hS : q_Sm w = q_toS n) (set : Int32) :
    mMv E MX9_hearAll [.ref 60, .ref a, .int set] w (fun u => mFr (bS a) w u ∧ snM (u.1 a) t d (q_Ms Y (q_toS n) M set Y.1.2.1)) := by
  have h5 := hk.2.1
  have hna := q_arr ha
  have bC : ∀ c k, bS a c k → ¬ mCy c k := fun c k h => by unfold bS at h; unfold mCy; omega
  have bZ : ∀ c k, bS a c k → ¬ s60 c k := fun c k h => by unfold bS at h; unfold s60; omega
  unfold mMv
  refine mM_start rfl (Nat.le_of_ble_eq_true rfl) rfl (fun X C F => vX9_hearAll_0 C F ha _ ?_)
  have loop2 : ∀ k p : Nat, p + k = Y.1.2.1 → ∀ u, mFr (bS a) w u → snM (u.1 a) t d (q_Ms Y (q_toS n) M set p) → mG X E MX9_hearAll 52 [.ref 60, .ref a, .int set, .int (q_b (q_sp Y set)), .int (nI p)] [] u := by
    intro k
    induction k with
    | zero =>
      intro p hp u hf hsn
      have hYu := hY.fr hf bC
      refine vX9_hearAll_52 C F ha _ _ _ ?_
      rw [hYu.2.1]
      refine ⟨fun _ => ⟨rfl, hf, ?_⟩, fun h => absurd (nI_le (by omega) (by omega)) h⟩
      rw [show p = Y.1.2.1 by omega] at hsn
      exact hsn
    | succ k ih =>
      intro p hp u hf hsn
      have hYu := hY.fr hf bC
      have hSu : q_Sm u = q_toS n := (q_Sm_fr hf bZ).trans hS
      obtain ⟨hok, hmo⟩ := q_Ms_ok (Y := Y) hM hn set p (by omega)
      obtain ⟨-, hmo2⟩ := q_Ms_ok (Y := Y) hM hn set (p + 1) (by omega)
      have hrow : ∀ j, j < 6 → u.1 a (2 + 6 * p + j) = q_bel (q_mo M (nI p)) j := fun j hj => by
        rw [hsn.2.2 p j (by omega) hj, hmo p (by omega), if_neg (by omega)]
      have go : ∀ u2 : mW, mFr (fun c k => c = a ∧ 2 + 6 * p ≤ k ∧ k < 2 + 6 * p + 6) u u2 → (∀ j, j < 6 → u2.1 a (2 + 6 * p + j) = q_bel (q_am Y (q_toS n) M set p) j) → mG X E MX9_hearAll 52 [.ref 60, .ref a, .int set, .int (q_b (q_sp Y set)), .int (nI (p + 1))] [] u2 := by
        intro u2 f2 r2
        refine ih (p + 1) (by omega) u2 (hf.tr (f2.mono (fun c k h => by unfold bS; omega))) ⟨?_, ?_, fun q f hq hf6 => ?_⟩
        · rw [(f2 a 0 (by omega)).1]; exact hsn.1
        · rw [(f2 a 1 (by omega)).1]; exact hsn.2.1
        · by_cases e : q = p
          · subst e; rw [r2 f hf6, hmo2 q hq, if_pos (by omega)]
          · rw [(f2 a _ (by omega)).1, hsn.2.2 q f hq hf6, hmo q hq, hmo2 q hq]
            by_cases l : q < p
            · rw [if_pos l, if_pos (by omega)]
            · rw [if_neg l, if_neg (by omega)]
      have stay : q_am Y (q_toS n) M set p = q_mo M (nI p) → mG X E MX9_hearAll 52 [.ref 60, .ref a, .int set, .int (q_b (q_sp Y set)), .int (nI (p + 1))] [] u := fun e => go u mFr.rf (fun j hj => by rw [hrow j hj, e])
      -- the hearing of one
      have bel : q_am Y (q_toS n) M set p = q_bv (q_toS n) (q_mo M (nI p)) → mMv E MX9_hears [.ref 60, .ref a, .int (nI p), .int 1] u (fun u2 => mG X E MX9_hearAll 52 [.ref 60, .ref a, .int set, .int (q_b (q_sp Y set)), .int (nI (p + 1))] [] u2) := fun e => (k_X9_hears ha (by omega) hrow hn hSu 1 (Or.inr rfl)).mono (fun u2 h2 => go u2 h2.1 (fun j hj => by rw [h2.2 j hj, e, if_neg (by decide)]))
      have dou : q_am Y (q_toS n) M set p = q_db (q_toS n) (q_mo M (nI p)) → mMv E MX9_hears [.ref 60, .ref a, .int (nI p), .int 0] u (fun u2 => mG X E MX9_hearAll 52 [.ref 60, .ref a, .int set, .int (q_b (q_sp Y set)), .int (nI (p + 1))] [] u2) := fun e => (k_X9_hears ha (by omega) hrow hn hSu 0 (Or.inl rfl)).mono (fun u2 h2 => go u2 h2.1 (fun j hj => by rw [h2.2 j hj, e, if_pos rfl]))
      refine vX9_hearAll_52 C F ha _ _ _ ?_
      rw [hYu.2.1, q_b0, nI_1]
      have told : ∀ (hb : q_bt set (nI p) = 1), mMi E MX9_trusts [.ref 60, .int (nI p)] u (fun v2 u3 => (v2 = 0 → mMv E MX9_hears [.ref 60, .ref a, .int (nI p), .int 0] u3 (fun u2 => mG X E MX9_hearAll 52 [.ref 60, .ref a, .int set, .int (q_b (q_sp Y set)), .int (nI (p + 1))] [] u2)) ∧ (¬ v2 = 0 → mMv E MX9_hears [.ref 60, .ref a, .int (nI p), .int 1] u3 (fun u2 => mG X E MX9_hearAll 52 [.ref 60, .ref a, .int set, .int (q_b (q_sp Y set)), .int (nI (p + 1))] [] u2))) := by
        intro hb
        refine (k_X9_trusts hYu hk (by omega)).mono ?_
        rintro v u3 ⟨rfl, rfl⟩
        rw [q_b0]
        refine ⟨fun a1 => dou ?_, fun a1 => bel ?_⟩
        · rw [q_am, if_pos hb, q_tm, if_neg (by rw [a1]; decide)]
        · rw [q_am, if_pos hb, q_tm, if_pos ((Bool.not_eq_false _).mp a1)]
      refine ⟨fun h => absurd h (nI_ge (by omega) (by omega)), fun _ => ⟨fun hsp => (k_X9_has _ _).mono ?_, fun hsp => (k_X9_has _ _).mono ?_⟩⟩
      · rintro v u2 ⟨rfl, rfl⟩
        rw [q_b0]
        refine ⟨fun a1 => bel ?_, fun a1 => told (of_decide_eq_true ((Bool.not_eq_false _).mp a1))⟩
        rw [q_am, if_neg (of_decide_eq_false a1), if_pos ((Bool.not_eq_false _).mp hsp)]
      · rintro v u2 ⟨rfl, rfl⟩
        rw [q_b0]
        refine ⟨fun a1 => stay ?_, fun a1 => (k_X9_has _ _).mono ?_⟩
        · rw [q_am, if_neg (of_decide_eq_false a1), if_neg (by rw [hsp]; decide)]
        · rintro v u3 ⟨rfl, rfl⟩
          rw [q_b0]
          exact ⟨fun a2 => absurd a2 a1, fun _ => told (of_decide_eq_true ((Bool.not_eq_false _).mp a1))⟩
  have loop : ∀ k p : Nat, p + k = Y.1.2.1 → mG X E MX9_hearAll 5 [.ref 60, .ref a, .int set, .int (q_b (q_tl Y set p)), .int (nI p)] [] w := by
    intro k
    induction k with
    | zero =>
      intro p hp
      refine vX9_hearAll_5 C F ha _ _ _ ?_
      rw [hY.2.1]
      refine ⟨fun _ => ?_, fun h => absurd (nI_le (by omega) (by omega)) h⟩
      rw [show p = Y.1.2.1 by omega, q_sp_tl hk]
      exact loop2 Y.1.2.1 0 (by omega) w mFr.rf hs
    | succ k ih =>
      intro p hp
      have nx := ih (p + 1) (by omega)
      rw [← nI_1, q_tl] at nx
      refine vX9_hearAll_5 C F ha _ _ _ ?_
      rw [hY.2.1, q_b0]
      refine ⟨fun h => absurd h (nI_ge (by omega) (by omega)), fun _ => ⟨fun a1 => ?_, fun a1 => (k_X9_has _ _).mono ?_⟩⟩
      · rw [(Bool.not_eq_false _).mp a1, Bool.true_or] at nx
        exact nx
      · rintro v u2 ⟨rfl, rfl⟩
        rw [q_b0]
        rw [a1, Bool.false_or] at nx
        refine ⟨fun a2 => ?_, fun a2 => (k_X9_kindOf (by omega)).mono ?_⟩
        · rw [a2, Bool.false_and] at nx
          exact nx
        · rintro v u3 ⟨rfl, rfl⟩
          have e0 : u3.1 62 (6 * p) = Y.2.2.1 p 0 := hY.2.2.2.2.1 p 0 (by omega) (by omega)
          rw [(Bool.not_eq_false _).mp a2, Bool.true_and] at nx
          rw [e0]
          refine ⟨fun a3 => ?_, fun a3 => ?_⟩
          · rw [decide_eq_false a3] at nx; exact nx
          · rw [decide_eq_true a3] at nx; exact nx
  exact loop Y.1.2.1 0 (by omega)
end K9i
