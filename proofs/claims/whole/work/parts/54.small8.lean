/-! ===== THE CLASS'S CALLS: small methods ===== -/
def q_un (f : Nat → Int32) (n : Nat) (other : Int32) : Nat → Int32 → Bool
  | 0, _ => false
  | k + 1, x => if x < 0 then false else if nI n ≤ x then false else if x = other then true else q_un f n other k (f x.toNatClampNeg)
theorem q_un_as : ∀ own : Nat, own < 4 → ∀ k : Nat, k < 5 → q_un (fun j => ([-1, 0, 0, 1, 1] : List Int32).getD j 0) 5 (nI k) 5 (nI own + 1) = q_as (nI own) (nI k) := by decide +kernel
theorem q_un_sa : ∀ s : Nat, s < 5 → ∀ k : Nat, k < 7 → q_un (fun j => ([-1, 0, 1, 0, 3, 3, 5] : List Int32).getD j 0) 7 (nI k) 7 ((fun j => ([1, 4, 5, 6, 2] : List Int32).getD j 0) s) = q_sa (nI s) (nI k) := by decide +kernel
def q_pc (x : Int32) : Nat → Int32
  | 0 => 0
  | j + 1 => if q_g x j = true then q_pc x j + 1 else q_pc x j
theorem q_bar_0 {n : Nat} {k f b g c : Int32} : q_bar n k f b g c = 0 ↔ 0 ≤ q_bar n k f b g c := by
  have m2 : ¬ (-2 : Int32) = 0 := by decide
  have m3 : ¬ (-3 : Int32) = 0 := by decide
  have n2 : ¬ (0 : Int32) ≤ -2 := by decide
  have n3 : ¬ (0 : Int32) ≤ -3 := by decide
  have z0 : (0 : Int32) ≤ 0 := by decide
  unfold q_bar
  repeat' split
  all_goals simp only [m2, m3, n2, n3, z0]
theorem q_54 (k : Int32) : (5 ≤ k) = (4 < k) := by
  apply propext
  rw [Int32.le_iff_toInt_le, Int32.lt_iff_toInt_lt, show (5 : Int32).toInt = 5 by decide, show (4 : Int32).toInt = 4 by decide]
  omega
theorem q_5n {i : Nat} (hi : i < 2 ^ 31) : ((5 : Int32) ≤ nI i) = (5 ≤ i) := by rw [show (5 : Int32) = nI 5 from rfl, nI_leI (by omega) hi]
section X8a
variable {E : mEnv} {w : mW} {Y : mY} {t : Int32} {M : Int64}
theorem k_X8_isBit (b : Int32) : mMi E MX8_isBit [.int b] w (fun v u => v = q_b (decide (i_bit b)) ∧ u = w) := by
  unfold mMi
  refine mM_start rfl (Nat.le_of_ble_eq_true rfl) rfl (fun X C F => vX8_isBit_0 C F _ ?_)
  refine ⟨fun z => ⟨_, rfl, ?_, rfl⟩, fun z => ⟨fun z2 => ⟨_, rfl, ?_, rfl⟩, fun z2 => ⟨_, rfl, ?_, rfl⟩⟩⟩
  · rw [decide_eq_true (Or.inl z)]; rfl
  · rw [decide_eq_false (fun q => q.elim z z2)]; rfl
  · rw [decide_eq_true (Or.inr z2)]; rfl
theorem k_X8_isUnder {a n : Nat} {f : Nat → Int32} (hz : ∀ (A : Nat → Prop) (U : State) (H : Heap), mRO E A U H → va_T .int (E.1 a) n (fun j => .int (f j)) A U H) (hn : n ≤ 100) (x other : Int32) : mMi E MX8_isUnder [.ref a, .int x, .int other] w (fun v u => v = q_b (q_un f n other n x) ∧ u = w) := by
  unfold mMi
  refine mM_start rfl (Nat.le_of_ble_eq_true rfl) rfl (fun X C F => vX8_isUnder_0 C F hz _ _ ?_)
  have loop : ∀ k i : Nat, i + k = n → ∀ y, q_un f n other k y = q_un f n other n x → mG X E MX8_isUnder 5 [.ref a, .retAddr 0, .int other, .int y, .int (nI i)] [] w := by
    intro k
    induction k with
    | zero =>
      intro i hi y hy
      refine vX8_isUnder_5 C F hz _ _ _ ?_
      rw [show Int32.ofNat n = nI n from rfl]
      exact ⟨fun _ => ⟨_, rfl, by rw [← hy]; rfl, rfl⟩, fun q => absurd (nI_le (by omega) (by omega)) q⟩
    | succ k ih =>
      intro i hi y hy
      refine vX8_isUnder_5 C F hz _ _ _ ?_
      rw [show Int32.ofNat n = nI n from rfl, nI_1]
      rw [q_un] at hy
      refine ⟨fun q => absurd q (nI_ge (by omega) (by omega)), fun _ => ⟨fun z => ⟨_, rfl, by rw [← hy, if_pos z]; rfl, rfl⟩, fun z => ⟨fun z2 => ⟨_, rfl, by rw [← hy, if_neg z, if_pos z2]; rfl, rfl⟩, fun z2 => ⟨fun z3 => ⟨?_, ih (i + 1) (by omega) _ ?_⟩, fun z3 => ⟨_, rfl, by rw [← hy, if_neg z, if_neg z2, if_pos z3]; rfl, rfl⟩⟩⟩⟩⟩
      · obtain ⟨j, hj, rfl⟩ := nI_of z
        exact vp_in_nI (Nat.lt_of_not_le (fun q => z2 (nI_le q (by omega)))) (by omega)
      · rw [← hy, if_neg z, if_neg z2, if_neg z3]
  exact loop n 0 (by omega) x rfl
theorem k_X8_refusalOf (hY : cyX Y w) (k f b g c : Int32) : mMi E MX8_refusalOf [.ref 0, .int k, .int f, .int b, .int g, .int c] w (fun v u => v = q_bar Y.1.1 k f b g c ∧ u = w) := by
  unfold mMi
  refine mM_start rfl (Nat.le_of_ble_eq_true rfl) rfl (fun X C F => vX8_refusalOf_0 C F _ _ _ _ _ ?_)
  refine (k_X7_isKind _).mono ?_
  rintro v u ⟨rfl, rfl⟩
  rw [q_b0]
  refine ⟨fun h1 => (k_X7_isPair _).mono ?_, fun h1 => ⟨_, rfl, ?_, rfl⟩⟩
  · have h1 := b_t h1
    rw [q_54] at h1
    rintro v u ⟨rfl, rfl⟩
    refine (k_X1_hasFact _).mono ?_
    rintro v u ⟨rfl, rfl⟩
    rw [q_b0, q_b0, hY.1]
    refine ⟨fun h2 => ⟨_, rfl, by rw [q_bar, if_neg (nn0 h1), if_pos (of_decide_eq_false h2)], rfl⟩, fun h2 => ?_⟩
    have h2 := b_t h2
    have hp : (k = 0 ∨ k = 4) ↔ ¬ (k = 1 ∨ k = 2 ∨ k = 3) := by
      obtain ⟨kk, hkk, rfl⟩ := i_in (m := 4) (by omega) h1
      rw [show nI kk = 0 ↔ kk = 0 from nI_eq (b := 0) (by omega) (by omega), show nI kk = 1 ↔ kk = 1 from nI_eq (b := 1) (by omega) (by omega), show nI kk = 2 ↔ kk = 2 from nI_eq (b := 2) (by omega) (by omega), show nI kk = 3 ↔ kk = 3 from nI_eq (b := 3) (by omega) (by omega), show nI kk = 4 ↔ kk = 4 from nI_eq (b := 4) (by omega) (by omega)]
      omega
    refine ⟨fun h3 => (k_X8_isBit _).mono ?_, fun h3 => (k_X1_hasFact _).mono ?_⟩
    · have h3 := hp.mpr (of_decide_eq_false h3)
      rintro v u ⟨rfl, rfl⟩
      rw [q_b0]
      refine ⟨fun h4 => ⟨_, rfl, by rw [q_bar, if_neg (nn0 h1), if_neg (nn0 h2), if_pos h3, if_neg (of_decide_eq_false h4)], rfl⟩, fun h4 => ⟨fun _ => ⟨_, rfl, by rw [q_bar, if_neg (nn0 h1), if_neg (nn0 h2), if_pos h3, if_pos (b_t h4)], rfl⟩, fun q => absurd (decide_eq_false (hp.mp h3)) q⟩⟩
    · have h3 := b_t h3
      have h3' : ¬ (k = 0 ∨ k = 4) := fun q => hp.mp q h3
      rintro v u ⟨rfl, rfl⟩
      rw [q_b0, hY.1]
      refine ⟨fun h4 => ⟨_, rfl, by rw [q_bar, if_neg (nn0 h1), if_neg (nn0 h2), if_neg h3', if_pos (of_decide_eq_false h4)], rfl⟩, fun h4 => ⟨fun h5 => (k_X8_isBit _).mono ?_, fun h5 => ⟨_, rfl, by rw [q_bar, if_neg (nn0 h1), if_neg (nn0 h2), if_neg h3', if_neg (nn0 (b_t h4)), if_pos h5], rfl⟩⟩⟩
      have h4 := b_t h4
      rintro v u ⟨rfl, rfl⟩
      rw [q_b0]
      refine ⟨fun h6 => ⟨_, rfl, by rw [q_bar, if_neg (nn0 h1), if_neg (nn0 h2), if_neg h3', if_neg (nn0 h4), if_neg h5, if_pos (of_decide_eq_false h6)], rfl⟩, fun h6 => ⟨fun q => absurd h3 (of_decide_eq_false q), fun _ => (k_X8_isBit _).mono ?_⟩⟩
      have h6 := b_t h6
      rintro v u ⟨rfl, rfl⟩
      rw [q_b0]
      exact ⟨fun h7 => ⟨_, rfl, by rw [q_bar, if_neg (nn0 h1), if_neg (nn0 h2), if_neg h3', if_neg (nn0 h4), if_neg h5, if_neg (nn0 h6), if_neg (of_decide_eq_false h7)], rfl⟩, fun h7 => ⟨_, rfl, by rw [q_bar, if_neg (nn0 h1), if_neg (nn0 h2), if_neg h3', if_neg (nn0 h4), if_neg h5, if_neg (nn0 h6), if_pos (b_t h7)], rfl⟩⟩
  · have h1 := of_decide_eq_false h1
    rw [q_54] at h1
    rw [q_bar, if_pos h1]
theorem k_X4_whoDiffer (M N : Int64) : mMi E MX4_whoDiffer [.long M, .long N] w (fun v u => v = q_who M N ∧ u = w) := by
  unfold mMi
  refine mM_start rfl (Nat.le_of_ble_eq_true rfl) rfl (fun X C F => vX4_whoDiffer_0 C F _ _ ?_)
  have loop : ∀ k i : Nat, i + k = 5 → mG X E MX4_whoDiffer 6 [.long M, .retAddr 0, .long N, .retAddr 0, .int (q_ds (fun p => !decide (q_mo N (nI p) = q_mo M (nI p))) i), .int (nI i)] [] w := by
    intro k
    induction k with
    | zero =>
      intro i hi
      refine vX4_whoDiffer_6 C F _ _ _ _ ?_
      rw [q_5n (by omega)]
      exact ⟨fun _ => ⟨_, rfl, by rw [show i = 5 by omega]; rfl, rfl⟩, fun q => absurd (by omega) q⟩
    | succ k ih =>
      intro i hi
      have nx := ih (i + 1) (by omega)
      rw [q_ds] at nx
      refine vX4_whoDiffer_6 C F _ _ _ _ ?_
      rw [q_5n (by omega)]
      refine ⟨fun q => absurd q (by omega), fun _ => (k_X4_mindOf _ _).mono ?_⟩
      rintro v u ⟨rfl, rfl⟩
      refine (k_X4_mindOf _ _).mono ?_
      rintro v u ⟨rfl, rfl⟩
      rw [nI_1]
      refine ⟨fun z => ?_, fun z => ?_⟩
      · rw [decide_eq_true z.symm, if_neg (by decide)] at nx; exact nx
      · rw [decide_eq_false (fun q => z q.symm), if_pos (by decide)] at nx; exact nx
  exact loop 5 0 (by omega)
theorem k_J6_bitCount {m : Nat} (hm : m < 64) : mMi E MJ6_bitCount_0f7a4 [.int (nI m)] w (fun v u => v = q_pc (nI m) 6 ∧ u = w) := by
  unfold mMi
  refine mM_start rfl (Nat.le_of_ble_eq_true rfl) rfl (fun X C F => vJ6_bitCount_0f7a4_0 C F _ ?_)
  refine ⟨_, rfl, ?_, rfl⟩
  clear F C X
  revert m
  decide +kernel
theorem q_pc_congr {x y : Int32} : ∀ n, (∀ j, j < n → q_g x j = q_g y j) → q_pc x n = q_pc y n := by
  intro n
  induction n with
  | zero => intro _; rfl
  | succ n ih => intro h; rw [q_pc, q_pc, ih (fun j hj => h j (by omega)), h n (by omega)]
theorem q_hl_pc (M : Int64) (p : Nat) : ∀ n, n ≤ 6 → q_hl M (6 * p + n) = q_hl M (6 * p) + q_pc (q_mo M (nI p)) n := by
  intro n
  induction n with
  | zero => intro _; rw [q_pc]; simp
  | succ n ih =>
    intro hn
    have i := ih (by omega)
    rw [show 6 * p + (n + 1) = (6 * p + n) + 1 by omega, q_hl, q_pc, show (6 * p + n) / 6 = p by omega, show (6 * p + n) % 6 = n by omega, i]
    unfold q_bel
    by_cases z : q_g (q_mo M (nI p)) n = true
    · rw [if_pos z, if_pos z, if_neg]
      · rw [Int32.add_assoc]
      · split <;> decide
    · rw [if_neg z, if_neg z, if_pos rfl]
theorem q_63 : ∀ j : Nat, j < 32 → q_g 63 j = decide (j < 6) := by decide
theorem k_X4_thingsBelieved (M : Int64) : mMi E MX4_thingsBelieved [.long M] w (fun v u => v = q_hl M 30 ∧ u = w) := by
  unfold mMi
  refine mM_start rfl (Nat.le_of_ble_eq_true rfl) rfl (fun X C F => vX4_thingsBelieved_0 C F _ ?_)
  have loop : ∀ k i : Nat, i + k = 5 → mG X E MX4_thingsBelieved 4 [.long M, .retAddr 0, .int (q_hl M (6 * i)), .int (nI i)] [] w := by
    intro k
    induction k with
    | zero =>
      intro i hi
      refine vX4_thingsBelieved_4 C F _ _ _ ?_
      rw [q_5n (by omega)]
      exact ⟨fun _ => ⟨_, rfl, by rw [show i = 5 by omega], rfl⟩, fun q => absurd (by omega) q⟩
    | succ k ih =>
      intro i hi
      have nx := ih (i + 1) (by omega)
      refine vX4_thingsBelieved_4 C F _ _ _ ?_
      rw [q_5n (by omega)]
      refine ⟨fun q => absurd q (by omega), fun _ => (k_X4_mindOf _ _).mono ?_⟩
      rintro v u ⟨rfl, rfl⟩
      obtain ⟨m, hm, em⟩ : ∃ m : Nat, m < 64 ∧ q_mo M (nI i) &&& 63 = nI m := q_toNat (n := 6) (by omega) (fun j h1 h2 => by rw [q_g_and, q_63 j h2, decide_eq_false (by omega), Bool.and_false])
      rw [em]
      refine (k_J6_bitCount hm).mono ?_
      rintro v u ⟨rfl, rfl⟩
      rw [nI_1, ← em, q_pc_congr (y := q_mo M (nI i)) 6 (fun j hj => by rw [q_g_and, q_63 j (by omega), decide_eq_true hj, Bool.and_true]), ← q_hl_pc M i 6 (by omega)]
      exact nx
  exact loop 5 0 (by omega)
theorem k_X5_append {L : Nat} (hL : L ≤ 160) (h1 : w.1 22 1 = nI L) (l : Int32) : mMi E MX5_append [.ref 22, .int l] w (fun v u => (L = 160 ∧ v = 0 ∧ u = w) ∨ (L < 160 ∧ v = 1 ∧ u = mPI (mPI w 23 L l) 22 1 (nI (L + 1)))) := by
  unfold mMi
  refine mM_start rfl (Nat.le_of_ble_eq_true rfl) rfl (fun X C F => vX5_append_0 C F _ ?_)
  rw [h1, show (160 : Int32) = nI 160 from rfl, nI_ltI (by omega) (by omega), nI_clamp (by omega)]
  refine ⟨fun z => ⟨vp_in_nI z (by omega), ?_⟩, fun z => ⟨_, rfl, Or.inl ⟨by omega, rfl, rfl⟩⟩⟩
  rintro w1 rfl
  exact ⟨_, rfl, Or.inr ⟨z, rfl, by rw [mPI_row (by omega), h1, nI_1]⟩⟩
end X8a
