/-! ===== CONTRACTS: sentences one by one ===== -/
abbrev mN5 : Type := Nat × Nat × Nat × Nat × Nat
def q_toS (n : mN5) : mS := (nI n.1, nI n.2.1, nI n.2.2.1, nI n.2.2.2.1, nI n.2.2.2.2)
/-- the sentence at a place, and whether one stands there -/
def q_dc (a : Nat) : mN5 := (a / 144, a / 24 % 6, a / 12 % 2, a / 2 % 6, a % 2)
def q_vs (n : Nat) (s : mN5) : Bool := decide (s.2.1 < n) && (if s.1 = 1 ∨ s.1 = 2 ∨ s.1 = 3 then decide (s.2.2.2.1 < n) && !decide (s.2.2.2.1 = s.2.1) else decide (s.2.2.2.1 = 0) && decide (s.2.2.2.2 = 0))
theorem q_vs_p {n : Nat} {s : mN5} (h : s.1 = 1 ∨ s.1 = 2 ∨ s.1 = 3) : q_vs n s = (decide (s.2.1 < n) && (decide (s.2.2.2.1 < n) && !decide (s.2.2.2.1 = s.2.1))) := by unfold q_vs; rw [if_pos h]
theorem q_vs_s {n : Nat} {s : mN5} (h : ¬ (s.1 = 1 ∨ s.1 = 2 ∨ s.1 = 3)) : q_vs n s = (decide (s.2.1 < n) && (decide (s.2.2.2.1 = 0) && decide (s.2.2.2.2 = 0))) := by unfold q_vs; rw [if_neg h]
theorem q_vs_f {n : Nat} {s : mN5} (h : ¬ s.2.1 < n) : q_vs n s = false := by unfold q_vs; rw [decide_eq_false h, Bool.false_and]
theorem q_fr5 (w : mW) (c : Nat) (a1 a2 a3 a4 a5 : Int32) : mFr (fun i _ => i = c) w (mPI (mPI (mPI (mPI (mPI w c 0 a1) c 1 a2) c 2 a3) c 3 a4) c 4 a5) := by
  have p1 : ∀ (w : mW) (j : Nat) (v : Int32), mFr (fun i _ => i = c) w (mPI w c j v) := fun w j v => mFr.pi (S := fun i _ => i = c) rfl
  exact ((((p1 _ _ _).tr (p1 _ _ _)).tr (p1 _ _ _)).tr (p1 _ _ _)).tr (p1 _ _ _)
section K7
variable {E : mEnv} {w : mW} {Y : mY} {b : Nat} {t : Int32} {M : Int64}
theorem k_X7_put {c : Nat} (hc : c = 47 ∨ c = 53) (k f x g y : Int32) : mMv E MX7_put [.ref c, .int k, .int f, .int x, .int g, .int y] w (fun u => mFr (fun i _ => i = c) w u ∧ q_S u c = (if k = 1 ∨ k = 2 ∨ k = 3 then (k, f, x, g, y) else (k, f, x, 0, 0))) := by
  unfold mMv
  refine mM_start rfl (Nat.le_of_ble_eq_true rfl) rfl (fun X C F => vX7_put_0 C F hc k f x g y ?_)
  refine (k_X7_isPair k).mono ?_
  rintro v u ⟨rfl, rfl⟩
  rw [q_b0]
  have fr : ∀ a1 a2 a3 a4 a5 : Int32, mFr (fun i _ => i = c) u (mPI (mPI (mPI (mPI (mPI u c 0 a1) c 1 a2) c 2 a3) c 3 a4) c 4 a5) := q_fr5 u c
  have sv : ∀ a1 a2 a3 a4 a5 : Int32, q_S (mPI (mPI (mPI (mPI (mPI u c 0 a1) c 1 a2) c 2 a3) c 3 a4) c 4 a5) c = (a1, a2, a3, a4, a5) := fun a1 a2 a3 a4 a5 => by simp [q_S, mPI]
  refine ⟨fun h => ⟨fun _ => ⟨rfl, fr _ _ _ _ _, ?_⟩, fun h2 => absurd h h2⟩, fun h => ⟨fun h2 => absurd h2 h, fun _ => ⟨rfl, fr _ _ _ _ _, ?_⟩⟩⟩
  · rw [sv, if_neg (of_decide_eq_false h)]
  · rw [sv, if_pos (of_decide_eq_true ((Bool.not_eq_false _).mp h))]
theorem q_nI2 {a n : Nat} (ha : a < 2 ^ 31) (hn : n < 2 ^ 31) : (nI a < nI n) = (a < n) := by rw [nI_ltI ha hn]
theorem k_X7_comeTo {c : Nat} (hc : c = 47 ∨ c = 53) {a n : Nat} (ha : a < 720) (hn : n ≤ 6) : mMi E MX7_comeTo [.ref c, .int (nI a), .int (nI n)] w (fun v u => v = q_b (q_vs n (q_dc a)) ∧ mFr (fun i _ => i = c) w u ∧ q_S u c = q_toS (q_dc a)) := by
  have e1 : nI a / 144 = nI (a / 144) := pk_div (d := 144) (by omega) (by omega) (by omega)
  have e24 : nI a / 24 = nI (a / 24) := pk_div (d := 24) (by omega) (by omega) (by omega)
  have e12 : nI a / 12 = nI (a / 12) := pk_div (d := 12) (by omega) (by omega) (by omega)
  have e2 : nI a / 2 = nI (a / 2) := pk_div (d := 2) (by omega) (by omega) (by omega)
  have r6 : nI (a / 24) - nI (a / 24) / 6 * 6 = nI (a / 24 % 6) := pk_rem (d := 6) (by omega) (by omega) (by omega)
  have r2 : nI (a / 12) - nI (a / 12) / 2 * 2 = nI (a / 12 % 2) := pk_rem (d := 2) (by omega) (by omega) (by omega)
  have r62 : nI (a / 2) - nI (a / 2) / 6 * 6 = nI (a / 2 % 6) := pk_rem (d := 6) (by omega) (by omega) (by omega)
  have ra : nI a - nI (a / 2) * 2 = nI (a % 2) := by rw [← e2]; exact pk_rem (d := 2) (by omega) (by omega) (by omega)
  unfold mMi
  refine mM_start rfl (Nat.le_of_ble_eq_true rfl) rfl (fun X C F => vX7_comeTo_0 C F hc _ _ ?_)
  intro w1 ew
  rw [e1, e24, e12, r6, r2] at ew
  rw [e2, r62, ra]
  generalize eu : mPI (mPI w1 c 3 (nI (a / 2 % 6))) c 4 (nI (a % 2)) = u
  have fr : mFr (fun i _ => i = c) w u := by
    rw [← eu, ew]
    exact q_fr5 _ _ _ _ _ _ _
  have c0 : u.1 c 0 = nI (a / 144) := by rw [← eu, ew]; simp [mPI]
  have c1 : u.1 c 1 = nI (a / 24 % 6) := by rw [← eu, ew]; simp [mPI]
  have c2 : u.1 c 2 = nI (a / 12 % 2) := by rw [← eu, ew]; simp [mPI]
  have c3 : u.1 c 3 = nI (a / 2 % 6) := by rw [← eu, ew]; simp [mPI]
  have c4 : u.1 c 4 = nI (a % 2) := by rw [← eu, ew]; simp [mPI]
  have sv : q_S u c = q_toS (q_dc a) := by unfold q_S q_toS q_dc; rw [c0, c1, c2, c3, c4]
  rw [c1, c0, nI_ltI (by omega) (by omega)]
  have ek : ∀ j : Nat, j < 5 → (nI (a / 144) = nI j ↔ a / 144 = j) := fun j hj => nI_eq (by omega) (by omega)
  refine ⟨fun h => (k_X7_isPair _).mono ?_, fun h => ⟨_, rfl, ?_, fr, sv⟩⟩
  · rintro v u2 ⟨rfl, rfl⟩
    rw [c1, c3, c4, q_b0]
    have e1' : (nI (a / 144) = 1 ∨ nI (a / 144) = 2 ∨ nI (a / 144) = 3) ↔ (a / 144 = 1 ∨ a / 144 = 2 ∨ a / 144 = 3) := by
      rw [← ek 1 (by omega), ← ek 2 (by omega), ← ek 3 (by omega)]; exact Iff.rfl
    have z3 : nI (a / 2 % 6) = 0 ↔ a / 2 % 6 = 0 := nI_eq (b := 0) (by omega) (by omega)
    have z4 : nI (a % 2) = 0 ↔ a % 2 = 0 := nI_eq (b := 0) (by omega) (by omega)
    rw [z3, z4, nI_leI (by omega) (by omega), nI_eq (by omega) (by omega)]
    refine ⟨fun hp => ?_, fun hp => ?_⟩
    · have hp := of_decide_eq_false hp
      rw [e1'] at hp
      refine ⟨fun h3 => ⟨_, rfl, ?_, fr, sv⟩, fun h3 => ⟨fun h4 => ⟨_, rfl, ?_, fr, sv⟩, fun h4 => ⟨_, rfl, ?_, fr, sv⟩⟩⟩
      · rw [show q_vs n (q_dc a) = false by rw [q_vs_s hp]; simp [q_dc, h3]]; rfl
      · rw [show q_vs n (q_dc a) = false by rw [q_vs_s hp]; simp [q_dc, h4]]; rfl
      · rw [show q_vs n (q_dc a) = true by rw [q_vs_s hp]; simp [q_dc, h, h3, h4]]; rfl
    · have hp := of_decide_eq_true ((Bool.not_eq_false _).mp hp)
      rw [e1'] at hp
      refine ⟨fun h3 => ⟨_, rfl, ?_, fr, sv⟩, fun h3 => ⟨fun h4 => ⟨_, rfl, ?_, fr, sv⟩, fun h4 => ⟨_, rfl, ?_, fr, sv⟩⟩⟩
      · rw [q_vs_p (n := n) (s := q_dc a) hp, decide_eq_false (show ¬ (q_dc a).2.2.2.1 < n from Nat.not_lt.mpr h3)]; simp [q_b]
      · rw [q_vs_p (n := n) (s := q_dc a) hp, decide_eq_true (show (q_dc a).2.2.2.1 = (q_dc a).2.1 from h4)]; simp [q_b]
      · rw [q_vs_p (n := n) (s := q_dc a) hp, decide_eq_true (show (q_dc a).2.1 < n from h), decide_eq_true (show (q_dc a).2.2.2.1 < n from Nat.lt_of_not_le h3), decide_eq_false (show ¬ (q_dc a).2.2.2.1 = (q_dc a).2.1 from h4)]; rfl
  · rw [q_vs_f (n := n) (s := q_dc a) h]; rfl
theorem k_X3_comeTo (hb : b = 46 ∨ b = 52) (hY : cyX Y w) (hk : cyOK Y) (hl : fLook Y b t M w) {a : Nat} (ha : a < 720) : mMi E MX3_comeTo [.ref b, .int (nI a)] w (fun v u => v = q_b (q_vs Y.1.1 (q_dc a) && (decide (a / 144 = 4) || q_st (q_toS (q_dc a)) t)) ∧ mFr (gS b) w u ∧ q_S u (b + 1) = q_toS (q_dc a)) := by
  have hc : b + 1 = 47 ∨ b + 1 = 53 := by omega
  unfold mMi
  refine mM_start rfl (Nat.le_of_ble_eq_true rfl) rfl (fun X C F => vX3_comeTo_0 C F hb _ ?_)
  rw [hY.1]
  refine (k_X7_comeTo hc ha hk.1).mono ?_
  rintro v u ⟨rfl, fr, sv⟩
  have fg : mFr (gS b) w u := fr.mono (fun c k h => by unfold gS; omega)
  have hl1 := hl.fr fg
  have e0 : u.1 (b + 1) 0 = nI (a / 144) := by
    have : (q_S u (b + 1)).1 = nI (a / 144) := by rw [sv]; rfl
    exact this
  have e4 : nI (a / 144) = 4 ↔ a / 144 = 4 := nI_eq (b := 4) (by omega) (by omega)
  rw [q_b0, e0, e4]
  refine ⟨fun hv => ?_, fun hv => ⟨_, rfl, ?_, fg, sv⟩⟩
  · have hv := (Bool.not_eq_false _).mp hv
    refine ⟨fun h4 => ⟨_, rfl, by simp [hv, h4, q_b], fg, sv⟩, fun h4 => (k_X7_stands hc _).mono ?_⟩
    rintro v u3 ⟨rfl, rfl⟩
    rw [q_b0, sv, hl1.1]
    refine ⟨fun hs => ⟨_, rfl, ?_, fg, sv⟩, fun hs => ⟨_, rfl, ?_, fg, sv⟩⟩
    · simp [hv, h4, hs, q_b]
    · simp [hv, (Bool.not_eq_false _).mp hs, q_b]
  · simp [hv, q_b]
/-- what is come to is listened to -/
theorem k_X3_heard (hb : b = 46 ∨ b = 52) (hY : cyX Y w) (hk : cyOK Y) (hl : fLook Y b t M w) {S : mS} (hS : q_S w (b + 1) = S) : mMv E MX3_listen [.ref b] w (fun u => mFr (gS b) w u ∧ fHear Y b S M u) := by
  subst hS
  refine (k_X3_listen hb hY hk M hl.2.1).mono ?_
  rintro u ⟨f2, hh⟩
  exact ⟨f2.mono (fun c k h => hgS h), hh⟩
theorem k_X3_minds0 (hb : b = 46 ∨ b = 52) (hY : cyX Y w) (hk : cyOK Y) (hl : fLook Y b t M w) : mMl E MX3_mindsIfSaidTo [.ref b, .int 0] w (fun v u => v = M ∧ u = w) := by
  have h5 := hk.2.1
  have z : ∀ p, p < 5 → ¬ q_bt 0 (nI p) = 1 := fun p hp => by rw [q_bt1 _ (by omega), q_g_zero]; decide
  unfold mMl
  refine mM_start rfl (Nat.le_of_ble_eq_true rfl) rfl (fun X C F => vX3_mindsIfSaidTo_0 C F hb 0 ?_)
  refine ⟨fun _ => ?_, fun h => absurd (q_and0 _) h⟩
  rw [hl.2.1]
  have loop : ∀ k d : Nat, d + k = Y.1.2.1 → mG X E MX3_mindsIfSaidTo 26 [.ref b, .int 0, .int 0, .long M, .retAddr 0, .int (nI d)] [] w := by
    intro k
    induction k with
    | zero =>
      intro d hd
      refine vX3_mindsIfSaidTo_26 C F hb _ _ _ _ ?_
      rw [hY.2.1]
      exact ⟨fun _ => ⟨_, rfl, rfl, rfl⟩, fun h => absurd (nI_le (by omega) (by omega)) h⟩
    | succ k ih =>
      intro d hd
      refine vX3_mindsIfSaidTo_26 C F hb _ _ _ _ ?_
      rw [hY.2.1]
      refine ⟨fun h => absurd h (nI_ge (by omega) (by omega)), fun _ => ⟨fun _ => ⟨fun _ => ?_, fun h => absurd rfl h⟩, fun h => absurd h (z d (by omega))⟩⟩
      have n := ih (d + 1) (by omega)
      rw [← nI_1] at n
      exact n
  exact loop Y.1.2.1 0 (by omega)
end K7
