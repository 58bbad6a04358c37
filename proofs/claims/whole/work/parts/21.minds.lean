/-! ===== MINDS IN ONE LONG ===== -/
theorem q_s1 : ∀ p : Nat, p < 5 → (((12 : Int32) * nI p).toInt64.toUInt64 &&& Int64.toUInt64 63).toBitVec.toNat % 64 = 12 * p := by decide
theorem q_s2 : ∀ p : Nat, p < 5 → ((((12 : Int32) * nI p).toInt64 &&& 63).toBitVec.smod 64).toNat = 12 * p := by decide
theorem q_4095 : ∀ j : Nat, j < 32 → q_g 4095 j = decide (j < 12) := by decide
theorem q_G4095 : ∀ p : Nat, p < 5 → ∀ k : Nat, k < 64 → q_G ((4095 : Int64) <<< (((12 : Int32) * nI p).toInt64 &&& 63)) k = (decide (12 * p ≤ k) && decide (k < 12 * p + 12)) := by decide
theorem q_Gm1 : ∀ k : Nat, k < 64 → q_G (-1) k = true := by decide
theorem q_g_mo (M : Int64) {p j : Nat} (hp : p < 5) (hj : j < 32) : q_g (q_mo M (nI p)) j = (decide (j < 12) && q_G M (12 * p + j)) := by
  unfold q_mo
  rw [q_g_and, q_4095 j hj, Bool.and_comm]
  congr 1
  unfold q_g q_G
  rw [Int64.toBitVec_toInt32, UInt64.toBitVec_toInt64, UInt64.toBitVec_shiftRight, BitVec.getLsbD_signExtend]
  rw [show Int64.toBitVec M = (Int64.toUInt64 M).toBitVec from rfl]
  have h := q_s1 p hp
  simp only [hj, decide_true, Bool.true_and, if_pos (show j < 64 by omega)]
  rw [BitVec.ushiftRight_eq', BitVec.getLsbD_ushiftRight, BitVec.toNat_umod]
  rw [show BitVec.toNat (64 : BitVec 64) = 64 from rfl, h]
theorem q_mo_hi (M : Int64) {p j : Nat} (hp : p < 5) (hj : 12 ≤ j) : q_g (q_mo M (nI p)) j = false := by
  by_cases h : j < 32
  · rw [q_g_mo M hp h]; simp; omega
  · exact q_g_hi _ (by omega)
theorem q_G_ext {m : Int32} (hm : ∀ j, 12 ≤ j → q_g m j = false) (k : Nat) : q_G m.toInt64 k = q_g m k := by
  unfold q_G
  rw [Int32.toBitVec_toInt64, BitVec.getLsbD_signExtend]
  by_cases h : k < 32
  · simp only [if_pos h]
    rw [decide_eq_true (show k < 64 by omega), Bool.true_and]
    rfl
  · rw [if_neg h]
    have h2 : m.toBitVec.msb = false := by
      rw [BitVec.msb_eq_getLsbD_last]
      exact hm 31 (by omega)
    rw [h2, Bool.and_false, q_g_hi m (by omega)]
theorem q_G_wm (M : Int64) {m : Int32} (hm : ∀ j, 12 ≤ j → q_g m j = false) {p k : Nat} (hp : p < 5) (hk : k < 64) : q_G (q_wm M (nI p) m) k = if 12 * p ≤ k ∧ k < 12 * p + 12 then q_g m (k - 12 * p) else q_G M k := by
  unfold q_wm
  have hs : q_G (m.toInt64 <<< (((12 : Int32) * nI p).toInt64 &&& 63)) k = (decide (12 * p ≤ k) && q_g m (k - 12 * p)) := by
    rw [← q_G_ext hm]
    unfold q_G
    rw [Int64.toBitVec_shiftLeft, BitVec.shiftLeft_eq', q_s2 p hp, BitVec.getLsbD_shiftLeft]
    simp only [hk, decide_true, Bool.true_and]
    by_cases h : k < 12 * p
    · simp [h, show ¬ 12 * p ≤ k by omega]
    · simp [h, show 12 * p ≤ k by omega]
  rw [q_G_or, q_G_and, q_G_xor, q_G4095 p hp k hk, q_Gm1 k hk, hs]
  by_cases h1 : 12 * p ≤ k
  · by_cases h2 : k < 12 * p + 12
    · simp [h1, h2]
    · rw [hm (k - 12 * p) (by omega)]
      simp [h1, h2]
  · simp [h1]
theorem q_mo_wm (M : Int64) {m : Int32} (hm : ∀ j, 12 ≤ j → q_g m j = false) {p q : Nat} (hp : p < 5) (hq : q < 5) : q_mo (q_wm M (nI p) m) (nI q) = if q = p then m else q_mo M (nI q) := by
  apply q_ext
  intro j hj
  rw [q_g_mo _ hq hj]
  by_cases h12 : j < 12
  · rw [q_G_wm M hm hp (by omega)]
    by_cases e : q = p
    · subst e
      rw [if_pos (by omega), if_pos rfl, show 12 * q + j - 12 * q = j by omega]
      simp [h12]
    · rw [if_neg (by omega), if_neg e, q_g_mo M hq hj]
  · rw [decide_eq_false h12, Bool.false_and]
    by_cases e : q = p
    · rw [if_pos e, hm j (by omega)]
    · rw [if_neg e, q_mo_hi M hq (by omega)]
/-- minds in their one form -/
def q_ok (M : Int64) : Prop := (∀ k, 60 ≤ k → k < 64 → q_G M k = false) ∧ ∀ p, p < 5 → q_can (q_mo M (nI p))
theorem q_ok_ext {M N : Int64} (hM : q_ok M) (hN : q_ok N) (h : ∀ p, p < 5 → q_mo M (nI p) = q_mo N (nI p)) : M = N := by
  apply q_Ext
  intro k hk
  by_cases h60 : k < 60
  · have hp : k / 12 < 5 := by omega
    have h1 : q_g (q_mo M (nI (k / 12))) (k % 12) = q_g (q_mo N (nI (k / 12))) (k % 12) := by rw [h (k / 12) hp]
    rw [q_g_mo M hp (by omega), q_g_mo N hp (by omega)] at h1
    rw [decide_eq_true (show k % 12 < 12 by omega), Bool.true_and, Bool.true_and, show 12 * (k / 12) + k % 12 = k by omega] at h1
    exact h1
  · rw [hM.1 k (by omega) hk, hN.1 k (by omega) hk]
theorem q_ok_wm {M : Int64} (h : q_ok M) {m : Int32} (hm : q_can m) {p : Nat} (hp : p < 5) : q_ok (q_wm M (nI p) m) := by
  refine ⟨fun k h1 h2 => ?_, fun q hq => ?_⟩
  · rw [q_G_wm M hm.1 hp h2, if_neg (by omega)]
    exact h.1 k h1 h2
  · rw [q_mo_wm M hm.1 hp hq]
    by_cases e : q = p
    · rw [if_pos e]; exact hm
    · rw [if_neg e]; exact h.2 q hq
theorem q_mo_0 : ∀ p : Nat, p < 5 → q_mo 0 (nI p) = 0 := by decide
theorem q_ok_0 : q_ok 0 := ⟨fun k _ h => by unfold q_G; exact BitVec.getLsbD_zero, fun p hp => by rw [q_mo_0 p hp]; exact q_can_0⟩
