/-! ===== CONTRACTS: the Seer: sieges, rests ===== -/
def q_gu (M : Int64) (f b : Int32) : Nat → Int64
  | 0 => M
  | p + 1 => q_sn (q_gu M f b p) (nI p) f b
def q_tn (n draw t : Int32) : Int32 := t ^^^ ((1 : Int32) <<< ((draw - draw / n * n) &&& 31))
def q_sg (Y : mY) (M : Int64) (t draw how : Int32) : Int32 := if how = 1 then (q_best Y M (q_tn (nI Y.1.1) draw t)).1 else q_s0 Y (if how = 2 then q_gu M (draw / 8 - draw / 8 / nI Y.1.1 * nI Y.1.1) (draw / 64 - draw / 64 / 2 * 2) Y.1.2.1 else M) (q_tn (nI Y.1.1) draw t)
section K6e
variable {E : mEnv} {w : mW} {Y : mY} {t : Int32} {M : Int64}
theorem q_dawn_dd (hk : cyOK Y) (N : Int64) (t : Int32) : q_dawn Y (fun p => decide (q_bt (q_ds (q_dd Y N) Y.1.2.1) (nI p) = 1)) t = q_dawn Y (q_dd Y N) t := q_dawn_congr (fun _ hp => q_bits_ds (q_dd Y N) hk.2.1 hp)
theorem f_night (hY : cyX Y w) (hk : cyOK Y) (N : Int64) (t : Int32) {Q : Int32 → mW → Prop} (hQ : Q (q_s0 Y N t) w) : mMi E MX1_doers [.ref 1, .long N] w (fun v1 u1 => mMi E MX1_dawn [.ref 1, .int t, .int v1] u1 (fun v2 u2 => mMi E MX1_sumOf [.ref 1, .int v2] u2 Q)) := by
  refine (k_X1_doers hY hk N).mono ?_
  rintro v u ⟨rfl, rfl⟩
  refine (k_X1_dawn hY hk _ _).mono ?_
  rintro v u ⟨rfl, rfl⟩
  rw [q_dawn_dd hk]
  refine (k_X1_sumOf hY hk _).mono ?_
  rintro v u ⟨rfl, rfl⟩
  exact hQ
theorem k_X6_sumOfSiege (hY : cyX Y w) (hk : cyOK Y) (hn : 0 < Y.1.1) (draw how t : Int32) (M : Int64) : mMi E MX6_sumOfSiege [.ref 58, .int draw, .int how, .int t, .long M] w (fun v u => v = q_sg Y M t draw how ∧ mFr sS w u) := by
  have h6 := hk.1
  have h5 := hk.2.1
  have h0 : ¬ nI Y.1.1 = 0 := nI_ne0 hn (by omega)
  unfold mMi
  refine mM_start rfl (Nat.le_of_ble_eq_true rfl) rfl (fun X C F => vX6_sumOfSiege_0 C F draw how t M ?_)
  rw [hY.1]
  refine ⟨fun _ => ⟨h0, fun h1 => ?_, fun h1 => (k_X6_seekBest hY hk _ _).mono ?_⟩, fun h => absurd h h0⟩
  · by_cases h2 : how = 2
    · have loop : ∀ k p : Nat, p + k = Y.1.2.1 → mG X E MX6_sumOfSiege 52 [.ref 58, .int draw, .int how, .retAddr 0, .retAddr 0, .retAddr 0, .int (q_tn (nI Y.1.1) draw t), .long (q_gu M (draw / 8 - draw / 8 / nI Y.1.1 * nI Y.1.1) (draw / 64 - draw / 64 / 2 * 2) p), .retAddr 0, .int (nI p)] [] w := by
        intro k
        induction k with
        | zero =>
          intro p hp
          refine vX6_sumOfSiege_52 C F _ _ _ _ _ ?_
          rw [hY.2.1]
          refine ⟨fun _ => f_night hY hk _ _ ⟨_, rfl, ?_, mFr.rf⟩, fun h => absurd (nI_le (by omega) (by omega)) h⟩
          rw [q_sg, if_neg h1, if_pos h2, show p = Y.1.2.1 by omega]
        | succ k ih =>
          intro p hp
          refine vX6_sumOfSiege_52 C F _ _ _ _ _ ?_
          rw [hY.2.1, hY.1]
          refine ⟨fun h => absurd h (nI_ge (by omega) (by omega)), fun _ => ⟨fun h => absurd h2 h, fun _ => ⟨h0, (k_X6_stance _ _ _ _).mono ?_⟩⟩⟩
          rintro v u ⟨rfl, rfl⟩
          rw [nI_1]
          exact ih (p + 1) (by omega)
      exact loop Y.1.2.1 0 (by omega)
    · refine vX6_sumOfSiege_52 C F _ _ _ _ _ ?_
      have r : q_sg Y M t draw how = q_s0 Y M (q_tn (nI Y.1.1) draw t) := by rw [q_sg, if_neg h1, if_neg h2]
      exact ⟨fun _ => f_night hY hk _ _ ⟨_, rfl, r.symm, mFr.rf⟩, fun _ => ⟨fun _ => f_night hY hk _ _ ⟨_, rfl, r.symm, mFr.rf⟩, fun h => absurd h h2⟩⟩
  · rintro u ⟨f1, h3⟩
    refine ⟨_, rfl, ?_, f1⟩
    rw [q_sg, if_pos h1]
    show (q_3 u).1 = _
    rw [h3]
    rfl
/-! rests -/
def q_rs (Y : mY) (M : Int64) (t one other f b : Int32) (j : Nat) : Int32 := q_s0 Y (q_sn (q_sn M one f (if j / 2 = 1 then b else 1 - b)) other f (if j % 2 = 1 then b else 1 - b)) t
def q_rP (s : Nat → Int32) (j : Nat) : Bool := !decide (s j < s (j ^^^ 2)) && !decide (s j < s (j ^^^ 1))
def q_rc (s : Nat → Int32) : Nat → mT2
  | 0 => (0, -1)
  | j + 1 => if q_rP s j = true then q_ci (q_rc s j) (nI j) else q_rc s j
theorem r_sh : ∀ j : Nat, j < 4 → (nI j >>> ((1 : Int32) &&& 31) = 1 ↔ j / 2 = 1) := by decide
theorem r_an : ∀ j : Nat, j < 4 → (nI j &&& 1 = 1 ↔ j % 2 = 1) := by decide
theorem r_x2 : ∀ j : Nat, j < 4 → nI j ^^^ 2 = nI (j ^^^ 2) ∧ j ^^^ 2 < 4 := by decide
theorem r_x1 : ∀ j : Nat, j < 4 → nI j ^^^ 1 = nI (j ^^^ 1) ∧ j ^^^ 1 < 4 := by decide
theorem q4 {a : Nat} (h : a < 2 ^ 31) : ((4 : Int32) ≤ nI a) = (4 ≤ a) := by rw [show (4 : Int32) = nI 4 from rfl, nI_leI (by omega) h]
theorem l_X6_rests2 {X : mX} {Qm : Option Value → mW → Prop} (C : mCtx X E MX6_countRests) (F : mFin X E MX6_countRests Qm) (s : Nat → Int32) (w0 : mW)
    (hQ : ∀ u, mFr sS w0 u → q_2 u = q_rc s 4 → Qm none u) :
    ∀ k j : Nat, j + k = 4 → ∀ w, (∀ i, i < 4 → w.1 59 i = s i) → mFr sS w0 w → q_2 w = q_rc s j →
      mG X E MX6_countRests 92 [.ref 58, .retAddr 0, .retAddr 0, .retAddr 0, .retAddr 0, .retAddr 0, .retAddr 0, .int (nI j), .retAddr 0, .retAddr 0] [] w := by
  intro k
  induction k with
  | zero =>
    intro j hj w hs hf h2
    refine vX6_countRests_92 C F _ ?_
    rw [q4 (by omega)]
    exact ⟨fun _ => hQ w hf (by rw [h2, show j = 4 by omega]), fun h => absurd (by omega) h⟩
  | succ k ih =>
    intro j hj w hs hf h2
    have x2 := r_x2 j (by omega)
    have x1 := r_x1 j (by omega)
    have hin : ∀ i, i < 4 → vp_in (nI i) 4 := fun i hi => vp_in_nI hi (by omega)
    refine vX6_countRests_92 C F _ ?_
    rw [q4 (by omega), x2.1, x1.1, nI_clamp (by omega), nI_clamp (by omega), nI_clamp (by omega), hs j (by omega), hs _ x2.2, hs _ x1.2, nI_1]
    refine ⟨fun h => absurd h (by omega), fun _ => ⟨hin _ x2.2, hin _ (by omega), fun a1 => ih (j + 1) (by omega) w hs hf ?_, fun a1 => ⟨hin _ x1.2, hin _ (by omega), fun a2 => ih (j + 1) (by omega) w hs hf ?_, fun a2 => (k_X6_countIn _).mono ?_⟩⟩⟩
    · rw [h2, q_rc, if_neg (by simp [q_rP, a1])]
    · rw [h2, q_rc, if_neg (by simp [q_rP, a2])]
    · rintro u ⟨f1, h3⟩
      refine ih (j + 1) (by omega) u (fun i hi => by rw [(f1 59 i (by unfold s58; omega)).1]; exact hs i hi) (hf.tr (f1.mono s58s)) ?_
      rw [h3, h2, q_rc, if_pos (by rw [q_rP, decide_eq_false a1, decide_eq_false a2]; rfl)]
theorem l_X6_rests {X : mX} {Qm : Option Value → mW → Prop} (C : mCtx X E MX6_countRests) (F : mFin X E MX6_countRests Qm) (hk : cyOK Y) (one other f b : Int32) (w0 : mW)
    (hQ : ∀ u, mFr sS w0 u → q_2 u = q_rc (q_rs Y M t one other f b) 4 → Qm none u) :
    ∀ k j : Nat, j + k = 4 → ∀ w, cyX Y w → fLook Y 46 t M w → (∀ i, i < j → w.1 59 i = q_rs Y M t one other f b i) → mFr sS w0 w →
      mG X E MX6_countRests 3 [.ref 58, .long M, .retAddr 0, .int one, .int other, .int f, .int b, .int (nI j), .retAddr 0, .retAddr 0] [] w := by
  intro k
  induction k with
  | zero =>
    intro j hj w hY hl hs hf
    refine vX6_countRests_3 C F _ _ _ _ _ _ ?_
    rw [q4 (by omega)]
    refine ⟨fun _ => k_X6_startCounting.mono ?_, fun h => absurd (by omega) h⟩
    rintro u ⟨f1, h1⟩
    exact l_X6_rests2 C F _ w0 hQ 4 0 (by omega) u (fun i hi => by rw [(f1 59 i (by unfold s58; omega)).1]; exact hs i (by omega)) (hf.tr (f1.mono s58s)) h1
  | succ k ih =>
    intro j hj w hY hl hs hf
    have hin : vp_in (nI j) 4 := vp_in_nI (by omega) (by omega)
    refine vX6_countRests_3 C F _ _ _ _ _ _ ?_
    rw [q4 (by omega), r_sh j (by omega), r_an j (by omega), nI_clamp (by omega), nI_1]
    have fin : ∀ x y : Int32, x = (if j / 2 = 1 then b else 1 - b) → y = (if j % 2 = 1 then b else 1 - b) → mMl E MX6_stance [.long (q_sn M one f x), .int other, .int f, .int y] w (fun v2 u3 => mMi E MX3_sumIfHeld [.ref 46, .long v2] u3 (fun v3 u4 => vp_in (nI j) 4 ∧ ∀ w1 : mW, w1 = mPI u4 59 j v3 → mG X E MX6_countRests 3 [.ref 58, .long M, .retAddr 0, .int one, .int other, .int f, .int b, .int (nI (j + 1)), .retAddr 0, .retAddr 0] [] w1)) := by
      rintro x y rfl rfl
      refine (k_X6_stance _ _ _ _).mono ?_
      rintro v u ⟨rfl, rfl⟩
      refine (k_X3_sumIfHeld h46 hY hk hl _).mono ?_
      rintro v u ⟨rfl, rfl⟩
      refine ⟨hin, fun w1 e1 => ?_⟩
      have f1 : mFr (fun c _ => c = 59) u w1 := by rw [e1]; exact mFr.pi (S := fun c _ => c = 59) rfl
      refine ih (j + 1) (by omega) w1 (hY.fr hk f1 (fun c k h => by omega)) (hl.out f1 (fun c k h => by unfold fS; omega)) (fun i hi => ?_) (hf.tr (f1.mono (fun c k h => by unfold sS; omega)))
      by_cases e : i = j
      · subst e; rw [e1, mPI_at]; rfl
      · rw [e1, mPI_col e]; exact hs i (by omega)
    refine ⟨fun h => absurd h (by omega), fun _ => ⟨fun a1 => (k_X6_stance _ _ _ _).mono ?_, fun a1 => (k_X6_stance _ _ _ _).mono ?_⟩⟩
    · rintro v u ⟨rfl, rfl⟩
      exact ⟨fun a2 => fin _ _ (if_neg a1).symm (if_neg a2).symm, fun a2 => fin _ _ (if_neg a1).symm (if_pos a2).symm⟩
    · rintro v u ⟨rfl, rfl⟩
      exact ⟨fun a2 => fin _ _ (if_pos a1).symm (if_neg a2).symm, fun a2 => fin _ _ (if_pos a1).symm (if_pos a2).symm⟩
theorem k_X6_countRests (hY : cyX Y w) (hk : cyOK Y) (hl : fLook Y 46 t M w) (one other f b : Int32) : mMv E MX6_countRests [.ref 58, .long M, .int one, .int other, .int f, .int b] w (fun u => mFr sS w u ∧ q_2 u = q_rc (q_rs Y M t one other f b) 4) := by
  unfold mMv
  refine mM_start rfl (Nat.le_of_ble_eq_true rfl) rfl (fun X C F => vX6_countRests_0 C F M one other f b ?_)
  exact l_X6_rests C F hk one other f b w (fun u a1 a2 => ⟨rfl, a1, a2⟩) 4 0 (by omega) w hY hl (fun i hi => absurd hi (by omega)) mFr.rf
end K6e
