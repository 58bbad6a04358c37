/-! ===== CONTRACTS: Foresight ===== -/
/-- nothing changed but at S -/
def mFr (S : Nat → Nat → Prop) (w u : mW) : Prop := ∀ c k, ¬ S c k → u.1 c k = w.1 c k ∧ u.2 c k = w.2 c k
theorem mFr.rf {S : Nat → Nat → Prop} {w : mW} : mFr S w w := fun _ _ _ => ⟨rfl, rfl⟩
theorem mFr.tr {S : Nat → Nat → Prop} {w u v : mW} (h1 : mFr S w u) (h2 : mFr S u v) : mFr S w v := fun c k h => ⟨(h2 c k h).1.trans (h1 c k h).1, (h2 c k h).2.trans (h1 c k h).2⟩
theorem mFr.mono {S T : Nat → Nat → Prop} {w u : mW} (h : mFr S w u) (hS : ∀ c k, S c k → T c k) : mFr T w u := fun c k hc => h c k (fun q => hc (hS c k q))
theorem mFr.pi {S : Nat → Nat → Prop} {w : mW} {i j : Nat} {v : Int32} (h : S i j) : mFr S w (mPI w i j v) := fun c k hc => ⟨if_neg (fun q => hc (by rw [q.1, q.2]; exact h)), rfl⟩
theorem mFr.pl {S : Nat → Nat → Prop} {w : mW} {i j : Nat} {v : Int64} (h : S i j) : mFr S w (mPL w i j v) := fun c k hc => ⟨rfl, if_neg (fun q => hc (by rw [q.1, q.2]; exact h))⟩
theorem cyX.fr {Y : mY} {S : Nat → Nat → Prop} {w u : mW} (h : cyX Y w) (hk : cyOK Y) (f : mFr S w u) (hS : ∀ c k, S c k → 22 ≤ c) : cyX Y u := by
  have e : ∀ c k, c < 22 → u.1 c k = w.1 c k := fun c k hc => (f c k (fun q => by have := hS c k q; omega)).1
  obtain ⟨h1, h2, h3, h4, h5, h6, h7⟩ := h
  have k1 := hk.1
  have k2 := hk.2.1
  have k3 := hk.2.2.1
  exact ⟨by rw [e _ _ (by omega)]; exact h1, by rw [e _ _ (by omega)]; exact h2, by rw [e _ _ (by omega)]; exact h3, fun a k ha hk => by rw [e _ _ (by omega)]; exact h4 a k ha hk, fun a k ha hk => by rw [e _ _ (by omega)]; exact h5 a k ha hk, fun a k ha hk => by rw [e _ _ (by omega)]; exact h6 a k ha hk, by rw [e _ _ (by omega)]; exact h7⟩
def q_bits (d : Int32) : Nat → Bool := fun p => decide (q_bt d (nI p) = 1)
/-- a Foresight that has looked -/
def fLook (Y : mY) (b : Nat) (t : Int32) (M : Int64) (w : mW) : Prop := w.1 b 2 = t ∧ w.2 b 3 = M ∧ w.1 b 10 = q_ds (q_dd Y M) Y.1.2.1 ∧ ∀ d, d < 2 ^ Y.1.2.1 → w.1 (b + 2) d = q_dawn Y (q_bits (nI d)) t ∧ w.1 (b + 3) d = q_sum Y.2.1 (q_dawn Y (q_bits (nI d)) t) Y.1.1
def fS (b : Nat) : Nat → Nat → Prop := fun c _ => b ≤ c ∧ c ≤ b + 5
def gS (b : Nat) : Nat → Nat → Prop := fun c k => c = b + 1 ∨ (c = b ∧ (k = 8 ∨ k = 9)) ∨ c = b + 4 ∨ c = b + 5
def hS (b : Nat) : Nat → Nat → Prop := fun c k => (c = b ∧ (k = 8 ∨ k = 9)) ∨ c = b + 4 ∨ c = b + 5
theorem hgS {b c k : Nat} (h : hS b c k) : gS b c k := Or.inr h
theorem gfS {b c k : Nat} (h : gS b c k) : fS b c k := by unfold gS at h; unfold fS; omega
theorem fS22 {b : Nat} (hb : b = 46 ∨ b = 52) : ∀ c k, fS b c k → 22 ≤ c := fun c k h => by unfold fS at h; omega
theorem gS22 {b : Nat} (hb : b = 46 ∨ b = 52) : ∀ c k, gS b c k → 22 ≤ c := fun c k h => fS22 hb c k (gfS h)
theorem hS22 {b : Nat} (hb : b = 46 ∨ b = 52) : ∀ c k, hS b c k → 22 ≤ c := fun c k h => gS22 hb c k (hgS h)
theorem fLook.fr {Y : mY} {b : Nat} {t : Int32} {M : Int64} {w u : mW} (h : fLook Y b t M w) (f : mFr (gS b) w u) : fLook Y b t M u := by
  obtain ⟨h1, h2, h3, h4⟩ := h
  refine ⟨?_, ?_, ?_, fun d hd => ?_⟩
  · rw [(f b 2 (by unfold gS; omega)).1]; exact h1
  · rw [(f b 3 (by unfold gS; omega)).2]; exact h2
  · rw [(f b 10 (by unfold gS; omega)).1]; exact h3
  · rw [(f (b + 2) d (by unfold gS; omega)).1, (f (b + 3) d (by unfold gS; omega)).1]; exact h4 d hd
section K3
variable {E : mEnv} {w : mW} {Y : mY} {b : Nat}
theorem q_pow : ∀ n : Nat, n ≤ 5 → (1 : Int32) <<< (nI n &&& 31) = nI (2 ^ n) := by decide
theorem q_pow32 {n : Nat} (h : n ≤ 5) : 2 ^ n ≤ 32 := by
  have : 2 ^ n ≤ 2 ^ 5 := Nat.pow_le_pow_right (by omega) h
  omega
theorem l_X3_look {X : mX} {Qm : Option Value → mW → Prop} (C : mCtx X E MX3_look) (F : mFin X E MX3_look Qm) (hb : b = 46 ∨ b = 52) (hk : cyOK Y) (t : Int32) (M : Int64) (w0 : mW)
    (hQ : ∀ u, mFr (fS b) w0 u → fLook Y b t M u → Qm none u) :
    ∀ k d : Nat, d + k = 2 ^ Y.1.2.1 → ∀ w, cyX Y w → mFr (fS b) w0 w → w.1 b 2 = t → w.2 b 3 = M → w.1 b 10 = q_ds (q_dd Y M) Y.1.2.1 → (∀ j, j < d → w.1 (b + 2) j = q_dawn Y (q_bits (nI j)) t ∧ w.1 (b + 3) j = q_sum Y.2.1 (q_dawn Y (q_bits (nI j)) t) Y.1.1) →
      mG X E MX3_look 36 [.ref b, .int t, .retAddr 0, .retAddr 0, .int (nI (2 ^ Y.1.2.1)), .int (nI d)] [] w := by
  have h32 := q_pow32 hk.2.1
  intro k
  induction k with
  | zero =>
    intro d hd w hY hf h1 h2 h3 h4
    refine vX3_look_36 C F hb _ _ _ ?_
    refine ⟨fun _ => hQ w hf ⟨h1, h2, h3, fun j hj => h4 j (by omega)⟩, fun h => absurd (nI_le (by omega) (by omega)) h⟩
  | succ k ih =>
    intro d hd w hY hf h1 h2 h3 h4
    have hin : vp_in (nI d) 32 := vp_in_nI (by omega) (by omega)
    refine vX3_look_36 C F hb _ _ _ ?_
    refine ⟨fun h => absurd h (nI_ge (by omega) (by omega)), fun _ => ⟨fun h => absurd h (nI_ge (b := 32) (by omega) (by omega)), fun _ => (k_X1_dawn hY hk _ _).mono ?_⟩⟩
    rintro v u ⟨rfl, rfl⟩
    rw [nI_clamp (show d < 2 ^ 31 by omega)]
    refine ⟨hin, fun w1 e1 => ⟨hin, ?_⟩⟩
    have f1 : mFr (fS b) u w1 := by rw [e1]; exact mFr.pi (by unfold fS; omega)
    have r1 : w1.1 (b + 2) d = q_dawn Y (q_bits (nI d)) t := by rw [e1, mPI_at]; rfl
    have hY1 := hY.fr hk f1 (fS22 hb)
    refine (k_X1_sumOf hY1 hk _).mono ?_
    rintro v u2 ⟨rfl, rfl⟩
    refine ⟨hin, fun w2 e2 => ?_⟩
    have f2 : mFr (fS b) u2 w2 := by rw [e2]; exact mFr.pi (by unfold fS; omega)
    rw [nI_1]
    have o1 : ∀ c j, ¬ (c = b + 2 ∧ j = d) → u2.1 c j = u.1 c j := fun c j h => by rw [e1]; exact if_neg h
    have o2 : ∀ c j, ¬ (c = b + 3 ∧ j = d) → w2.1 c j = u2.1 c j := fun c j h => by rw [e2]; exact if_neg h
    have o3 : w2.2 = u.2 := by rw [e2, e1]; rfl
    refine ih (d + 1) (by omega) w2 (hY1.fr hk f2 (fS22 hb)) ((hf.tr f1).tr f2) ?_ ?_ ?_ (fun j hj => ?_)
    · rw [o2 _ _ (by omega), o1 _ _ (by omega)]; exact h1
    · rw [o3]; exact h2
    · rw [o2 _ _ (by omega), o1 _ _ (by omega)]; exact h3
    · by_cases e : j = d
      · subst e
        refine ⟨by rw [o2 _ _ (by omega)]; exact r1, ?_⟩
        rw [e2, mPI_at, r1]
      · rw [o2 _ _ (by omega), o1 _ _ (by omega), o2 _ _ (by omega), o1 _ _ (by omega)]
        exact h4 j (by omega)
theorem k_X3_look (hb : b = 46 ∨ b = 52) (hY : cyX Y w) (hk : cyOK Y) (t : Int32) (M : Int64) : mMv E MX3_look [.ref b, .int t, .long M] w (fun u => mFr (fS b) w u ∧ fLook Y b t M u) := by
  unfold mMv
  refine mM_start rfl (Nat.le_of_ble_eq_true rfl) rfl (fun X C F => vX3_look_0 C F hb t M ?_)
  have f1 : mFr (fS b) w (mPL (mPI w b 2 t) b 3 M) := (mFr.pi (by unfold fS; omega)).tr (mFr.pl (by unfold fS; omega))
  have hY1 := hY.fr hk f1 (fS22 hb)
  refine (k_X1_doers hY1 hk M).mono ?_
  rintro v u ⟨rfl, rfl⟩
  have f2 : mFr (fS b) (mPL (mPI w b 2 t) b 3 M) (mPI (mPL (mPI w b 2 t) b 3 M) b 10 (q_ds (q_dd Y M) Y.1.2.1)) := mFr.pi (by unfold fS; omega)
  have hY2 := hY1.fr hk f2 (fS22 hb)
  rw [hY2.2.1, q_pow _ hk.2.1]
  refine l_X3_look C F hb hk t M w (fun u h1 h2 => ⟨rfl, h1, h2⟩) (2 ^ Y.1.2.1) 0 (by omega) _ hY2 (f1.tr f2) ?_ ?_ ?_ (fun j hj => absurd hj (by omega))
  · rw [mPI_col (by omega)]
    show (mPI w b 2 t).1 b 2 = t
    rw [mPI_at]
  · show (mPL (mPI w b 2 t) b 3 M).2 b 3 = M
    rw [mPL_at]
  · rw [mPI_at]
/-- what one holds if the sentence is said to him -/
def q_tm (Y : mY) (S : mS) (M : Int64) (p : Nat) : Int32 := if q_tr (Y.2.2.1 p) = true then q_bv S (q_mo M (nI p)) else q_db S (q_mo M (nI p))
def q_dt (Y : mY) (S : mS) (M : Int64) : Nat → Bool := fun p => decide (q_hs (q_tm Y S M p) (Y.2.2.1 p 1) (Y.2.2.1 p 2))
def q_dh (Y : mY) (S : mS) (M : Int64) : Nat → Bool := fun p => decide (q_hs (q_bv S (q_mo M (nI p))) (Y.2.2.1 p 1) (Y.2.2.1 p 2))
def fHear (Y : mY) (b : Nat) (S : mS) (M : Int64) (w : mW) : Prop := q_S w (b + 1) = S ∧ (∀ p, p < Y.1.2.1 → w.1 (b + 5) p = q_bv S (q_mo M (nI p)) ∧ w.1 (b + 4) p = q_tm Y S M p) ∧ w.1 b 8 = q_ds (q_dt Y S M) Y.1.2.1 ∧ w.1 b 9 = q_ds (q_dh Y S M) Y.1.2.1
theorem q_tr_congr {r s : Nat → Int32} (h0 : r 0 = s 0) (h5 : r 5 = s 5) : q_tr r = q_tr s := by unfold q_tr; rw [h0, h5]
theorem q_S_fr {w u : mW} (f : mFr (hS b) w u) : q_S u (b + 1) = q_S w (b + 1) := by
  have e : ∀ k, u.1 (b + 1) k = w.1 (b + 1) k := fun k => (f _ _ (by unfold hS; omega)).1
  unfold q_S
  rw [e, e, e, e, e]
theorem l_X3_listen {X : mX} {Qm : Option Value → mW → Prop} (C : mCtx X E MX3_listen) (F : mFin X E MX3_listen Qm) (hb : b = 46 ∨ b = 52) (hk : cyOK Y) (M : Int64) (S : mS) (w0 : mW)
    (hQ : ∀ u, mFr (hS b) w0 u → fHear Y b S M u → Qm none u) :
    ∀ k d : Nat, d + k = Y.1.2.1 → ∀ w, cyX Y w → mFr (hS b) w0 w → w.2 b 3 = M → q_S w (b + 1) = S → (∀ p, p < d → w.1 (b + 5) p = q_bv S (q_mo M (nI p)) ∧ w.1 (b + 4) p = q_tm Y S M p) → w.1 b 8 = q_ds (q_dt Y S M) d → w.1 b 9 = q_ds (q_dh Y S M) d →
      mG X E MX3_listen 12 [.ref b, .int (nI d), .retAddr 0] [] w := by
  have h5 := hk.2.1
  have hc : b + 1 = 47 ∨ b + 1 = 53 := by omega
  intro k
  induction k with
  | zero =>
    intro d hd w hY hf hM hS0 h1 h2 h3
    refine vX3_listen_12 C F hb _ ?_
    rw [hY.2.1]
    have e : d = Y.1.2.1 := by omega
    subst e
    refine ⟨fun _ => hQ w hf ⟨hS0, h1, h2, h3⟩, fun h => absurd (nI_le (by omega) (by omega)) h⟩
  | succ k ih =>
    intro d hd w hY hf hM hS0 h1 h2 h3
    have hin : vp_in (nI d) 5 := vp_in_nI (by omega) (by omega)
    have ec : (nI d).toNatClampNeg = d := nI_clamp (by omega)
    have step : ∀ u : mW, (∀ c k, ¬ ((c = b + 5 ∧ k = d) ∨ (c = b + 4 ∧ k = d) ∨ (c = b ∧ (k = 8 ∨ k = 9))) → u.1 c k = w.1 c k) → u.2 = w.2 → u.1 (b + 5) d = q_bv S (q_mo M (nI d)) → u.1 (b + 4) d = q_tm Y S M d → u.1 b 8 = q_ds (q_dt Y S M) (d + 1) → u.1 b 9 = q_ds (q_dh Y S M) (d + 1) → mG X E MX3_listen 12 [.ref b, .int (nI d + 1), .retAddr 0] [] u := by
      intro u o1 o2 r1 r2 r3 r4
      have fu : mFr (hS b) w u := fun c k h => ⟨o1 c k (fun q => h (by unfold hS; omega)), by rw [o2]⟩
      rw [nI_1]
      refine ih (d + 1) (by omega) u (hY.fr hk fu (hS22 hb)) (hf.tr fu) (by rw [o2]; exact hM) (by rw [q_S_fr fu]; exact hS0) (fun p hp => ?_) r3 r4
      by_cases e : p = d
      · subst e; exact ⟨r1, r2⟩
      · rw [o1 _ _ (by omega), o1 _ _ (by omega)]
        exact h1 p (by omega)
    refine vX3_listen_12 C F hb _ ?_
    rw [hY.2.1, hM, ec]
    refine ⟨fun h => absurd h (nI_ge (by omega) (by omega)), fun _ => (k_X4_mindOf _ _).mono ?_⟩
    rintro v u ⟨rfl, rfl⟩
    refine (k_X7_believed hc _).mono ?_
    rintro v u ⟨rfl, rfl⟩
    rw [hS0]
    refine ⟨hin, fun w1 e1 => ?_⟩
    have f1 : mFr (hS b) u w1 := by rw [e1]; exact mFr.pi (by unfold hS; omega)
    have hY1 := hY.fr hk f1 (hS22 hb)
    refine (k_X1_believesHer _ hin).mono ?_
    rintro v u1 ⟨rfl, rfl⟩
    have et : q_tr (u1.1 (10 + (nI d).toNatClampNeg)) = q_tr (Y.2.2.1 d) := by
      rw [ec]
      exact q_tr_congr (hY1.2.2.2.2.1 d 0 (by omega) (by omega)) (hY1.2.2.2.2.1 d 5 (by omega) (by omega))
    have dd : ∀ (u : mW), cyX Y u → ∀ m : Int32, mMi E MX1_doesDeed [.ref 1, .int (nI d), .int m] u (fun v u' => v = q_b (decide (q_hs m (Y.2.2.1 d 1) (Y.2.2.1 d 2))) ∧ u' = u) := by
      intro u hu m
      have := k_X1_doesDeed (E := E) (w := u) (nI d) m hin
      rw [ec, hu.2.2.2.2.1 d 1 (by omega) (by omega), hu.2.2.2.2.1 d 2 (by omega) (by omega)] at this
      exact this
    -- what is done behind told and heard are laid
    have fin : ∀ w2 : mW, w2 = mPI u1 (b + 4) d (q_tm Y S M d) → mMi E MX1_doesDeed [.ref 1, .int (nI d), .int (w2.1 (b + 5) d)] w2 (fun v5 u5 => (v5 = 0 → vp_in (nI d) 5 ∧ mMi E MX1_doesDeed [.ref 1, .int (nI d), .int (u5.1 (b + 4) d)] u5 (fun v6 u6 => (v6 = 0 → mG X E MX3_listen 12 [.ref b, .int (nI d + 1), .retAddr 0] [] u6) ∧ (¬ v6 = 0 → mG X E MX3_listen 12 [.ref b, .int (nI d + 1), .retAddr 0] [] (mPI u6 b 8 (u6.1 b 8 ||| (1 : Int32) <<< (nI d &&& 31)))))) ∧ (¬ v5 = 0 → vp_in (nI d) 5 ∧ mMi E MX1_doesDeed [.ref 1, .int (nI d), .int ((mPI u5 b 9 (u5.1 b 9 ||| (1 : Int32) <<< (nI d &&& 31))).1 (b + 4) d)] (mPI u5 b 9 (u5.1 b 9 ||| (1 : Int32) <<< (nI d &&& 31))) (fun v7 u7 => (v7 = 0 → mG X E MX3_listen 12 [.ref b, .int (nI d + 1), .retAddr 0] [] u7) ∧ (¬ v7 = 0 → mG X E MX3_listen 12 [.ref b, .int (nI d + 1), .retAddr 0] [] (mPI u7 b 8 (u7.1 b 8 ||| (1 : Int32) <<< (nI d &&& 31))))))) := by
      intro w2 e2
      have f2 : mFr (hS b) u1 w2 := by rw [e2]; exact mFr.pi (by unfold hS; omega)
      have hY2 := hY1.fr hk f2 (hS22 hb)
      have g5 : w2.1 (b + 5) d = q_bv S (q_mo M (nI d)) := by rw [e2, mPI_row (by omega), e1, mPI_at]
      have g4 : w2.1 (b + 4) d = q_tm Y S M d := by rw [e2, mPI_at]
      have g8 : ∀ k, w2.1 b k = u.1 b k := fun k => by rw [e2, mPI_row (by omega), e1, mPI_row (by omega)]
      have go : ∀ c k, ¬ ((c = b + 5 ∧ k = d) ∨ (c = b + 4 ∧ k = d) ∨ (c = b ∧ (k = 8 ∨ k = 9))) → w2.1 c k = u.1 c k := fun c k h => by
        rw [e2]
        show (if c = b + 4 ∧ k = d then _ else u1.1 c k) = _
        rw [if_neg (by omega), e1]
        show (if c = b + 5 ∧ k = d then _ else u.1 c k) = _
        rw [if_neg (by omega)]
      have g2 : w2.2 = u.2 := by rw [e2, e1]; rfl
      rw [g5]
      refine (dd w2 hY2 _).mono ?_
      rintro v u5 ⟨rfl, rfl⟩
      rw [q_b0]
      refine ⟨fun z => ⟨hin, ?_⟩, fun z => ⟨hin, ?_⟩⟩
      · have z9 : u5.1 b 9 = q_ds (q_dh Y S M) (d + 1) := by rw [g8, h3, q_ds, if_neg (by rw [q_dh, z]; decide)]
        rw [g4]
        refine (dd u5 hY2 _).mono ?_
        rintro v u6 ⟨rfl, rfl⟩
        rw [q_b0]
        refine ⟨fun y => step _ go g2 g5 g4 ?_ z9, fun y => step _ (fun c k h => ?_) g2 ?_ ?_ ?_ ?_⟩
        · rw [g8, h2, q_ds, if_neg (by rw [q_dt, y]; decide)]
        · show (if c = b ∧ k = 8 then _ else u6.1 c k) = _
          rw [if_neg (by omega)]; exact go c k h
        · rw [mPI_row (by omega)]; exact g5
        · rw [mPI_row (by omega)]; exact g4
        · rw [mPI_at, g8, h2, q_ds, if_pos (by rw [q_dt]; exact (Bool.not_eq_false _).mp y)]
        · rw [mPI_col (by omega)]; exact z9
      · have z9 : (mPI u5 b 9 (u5.1 b 9 ||| (1 : Int32) <<< (nI d &&& 31))).1 b 9 = q_ds (q_dh Y S M) (d + 1) := by rw [mPI_at, g8, h3, q_ds, if_pos (by rw [q_dh]; exact (Bool.not_eq_false _).mp z)]
        have f3 : mFr (hS b) u5 (mPI u5 b 9 (u5.1 b 9 ||| (1 : Int32) <<< (nI d &&& 31))) := mFr.pi (by unfold hS; omega)
        have hY3 := hY2.fr hk f3 (hS22 hb)
        rw [mPI_row (by omega), g4]
        refine (dd _ hY3 _).mono ?_
        rintro v u7 ⟨rfl, rfl⟩
        rw [q_b0]
        have go3 : ∀ c k, ¬ ((c = b + 5 ∧ k = d) ∨ (c = b + 4 ∧ k = d) ∨ (c = b ∧ (k = 8 ∨ k = 9))) → (mPI u5 b 9 (u5.1 b 9 ||| (1 : Int32) <<< (nI d &&& 31))).1 c k = u.1 c k := fun c k h => by
          show (if c = b ∧ k = 9 then _ else u5.1 c k) = _
          rw [if_neg (by omega)]; exact go c k h
        refine ⟨fun y => step _ go3 g2 (by rw [mPI_row (by omega)]; exact g5) (by rw [mPI_row (by omega)]; exact g4) ?_ z9, fun y => step _ (fun c k h => ?_) g2 ?_ ?_ ?_ ?_⟩
        · rw [mPI_col (by omega), g8, h2, q_ds, if_neg (by rw [q_dt, y]; decide)]
        · show (if c = b ∧ k = 8 then _ else (mPI u5 b 9 _).1 c k) = _
          rw [if_neg (by omega)]; exact go3 c k h
        · rw [mPI_row (by omega), mPI_row (by omega)]; exact g5
        · rw [mPI_row (by omega), mPI_row (by omega)]; exact g4
        · rw [mPI_at, mPI_col (by omega), g8, h2, q_ds, if_pos (by rw [q_dt]; exact (Bool.not_eq_false _).mp y)]
        · rw [mPI_col (by omega)]; exact z9
    rw [et, q_b0]
    refine ⟨fun ht => (k_X7_doubted hc _).mono ?_, fun ht => ⟨hin, hin, fun w3 e3 => ⟨hin, ?_⟩⟩⟩
    · rintro v u4 ⟨rfl, rfl⟩
      refine ⟨hin, fun w2 e2 => ⟨hin, fin w2 ?_⟩⟩
      rw [e2, q_S_fr f1, hS0, q_tm, if_neg (by rw [ht]; decide)]
    · refine fin w3 ?_
      rw [e3, e1, mPI_at, q_tm, if_pos ((Bool.not_eq_false _).mp ht)]
theorem k_X3_listen (hb : b = 46 ∨ b = 52) (hY : cyX Y w) (hk : cyOK Y) (M : Int64) (hM : w.2 b 3 = M) : mMv E MX3_listen [.ref b] w (fun u => mFr (hS b) w u ∧ fHear Y b (q_S w (b + 1)) M u) := by
  unfold mMv
  refine mM_start rfl (Nat.le_of_ble_eq_true rfl) rfl (fun X C F => vX3_listen_0 C F hb ?_)
  have f1 : mFr (hS b) w (mPI (mPI w b 8 0) b 9 0) := (mFr.pi (by unfold hS; omega)).tr (mFr.pi (by unfold hS; omega))
  refine l_X3_listen C F hb hk M (q_S w (b + 1)) w (fun u h1 h2 => ⟨rfl, h1, h2⟩) Y.1.2.1 0 (by omega) _ (hY.fr hk f1 (hS22 hb)) f1 hM (q_S_fr f1) (fun p hp => absurd hp (by omega)) ?_ ?_
  · rw [mPI_col (by omega), mPI_at]; rfl
  · rw [mPI_at]; rfl
end K3
