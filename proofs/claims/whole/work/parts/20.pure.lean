/-! ===== PURE WORDS: bits, minds ===== -/
def q_bt (t f : Int32) : Int32 := (t >>> (f &&& 31)) &&& 1
def q_bc (t f b : Int32) : Int32 := (t &&& (((1 : Int32) <<< (f &&& 31)) ^^^ (-1 : Int32))) ||| (b <<< (f &&& 31))
def q_hd (m f b : Int32) : Int32 := ((m &&& (((1 : Int32) <<< (((6 : Int32) + f) &&& 31)) ^^^ (-1 : Int32))) ||| ((1 : Int32) <<< (f &&& 31))) ||| (b <<< (((6 : Int32) + f) &&& 31))
abbrev q_hs (m f b : Int32) : Prop := q_bt m f = 1 ∧ q_bt m (6 + f) = b
def q_mo (M : Int64) (p : Int32) : Int32 := ((M.toUInt64 >>> (((12 : Int32) * p).toInt64.toUInt64 &&& Int64.toUInt64 63)).toInt64).toInt32 &&& 4095
def q_wm (M : Int64) (p m : Int32) : Int64 := (M &&& (((4095 : Int64) <<< (((12 : Int32) * p).toInt64 &&& 63)) ^^^ (-1 : Int64))) ||| ((m.toInt64) <<< (((12 : Int32) * p).toInt64 &&& 63))
/-- the k-th bit -/
def q_g (x : Int32) (k : Nat) : Bool := x.toBitVec.getLsbD k
def q_G (x : Int64) (k : Nat) : Bool := x.toBitVec.getLsbD k
theorem q_ext {x y : Int32} (h : ∀ k, k < 32 → q_g x k = q_g y k) : x = y := Int32.toBitVec_inj.mp (BitVec.eq_of_getLsbD_eq h)
theorem q_Ext {x y : Int64} (h : ∀ k, k < 64 → q_G x k = q_G y k) : x = y := Int64.toBitVec_inj.mp (BitVec.eq_of_getLsbD_eq h)
theorem q_g_and (x y : Int32) (k : Nat) : q_g (x &&& y) k = (q_g x k && q_g y k) := by unfold q_g; rw [Int32.toBitVec_and, BitVec.getLsbD_and]
theorem q_g_or (x y : Int32) (k : Nat) : q_g (x ||| y) k = (q_g x k || q_g y k) := by unfold q_g; rw [Int32.toBitVec_or, BitVec.getLsbD_or]
theorem q_g_xor (x y : Int32) (k : Nat) : q_g (x ^^^ y) k = (q_g x k ^^ q_g y k) := by unfold q_g; rw [Int32.toBitVec_xor, BitVec.getLsbD_xor]
theorem q_G_and (x y : Int64) (k : Nat) : q_G (x &&& y) k = (q_G x k && q_G y k) := by unfold q_G; rw [Int64.toBitVec_and, BitVec.getLsbD_and]
theorem q_G_or (x y : Int64) (k : Nat) : q_G (x ||| y) k = (q_G x k || q_G y k) := by unfold q_G; rw [Int64.toBitVec_or, BitVec.getLsbD_or]
theorem q_G_xor (x y : Int64) (k : Nat) : q_G (x ^^^ y) k = (q_G x k ^^ q_G y k) := by unfold q_G; rw [Int64.toBitVec_xor, BitVec.getLsbD_xor]
theorem q_sm : ∀ k : Nat, k < 32 → ((nI k &&& 31).toBitVec.smod 32).toNat = k := by decide
theorem q_g_one : ∀ j : Nat, j < 32 → q_g 1 j = decide (j = 0) := by decide
theorem q_g_zero : ∀ j : Nat, q_g 0 j = false := fun j => by unfold q_g; exact BitVec.getLsbD_zero
theorem q_g_m1 : ∀ j : Nat, j < 32 → q_g (-1) j = true := by decide
theorem q_g_sh1 : ∀ k : Nat, k < 32 → ∀ j : Nat, j < 32 → q_g ((1 : Int32) <<< (nI k &&& 31)) j = decide (j = k) := by decide
theorem q_g_sh0 : ∀ k : Nat, k < 32 → (0 : Int32) <<< (nI k &&& 31) = 0 := by decide
theorem q_g_hi (x : Int32) {k : Nat} (h : 32 ≤ k) : q_g x k = false := by unfold q_g; exact BitVec.getLsbD_of_ge _ _ h
theorem q_g_shr (x : Int32) {k j : Nat} (hk : k < 32) (h : k + j < 32) : q_g (x >>> (nI k &&& 31)) j = q_g x (k + j) := by
  unfold q_g
  rw [Int32.toBitVec_shiftRight, BitVec.getLsbD_sshiftRight', q_sm k hk, if_pos h]
  simp; omega
theorem q_bt_eq (x : Int32) {k : Nat} (hk : k < 32) : q_bt x (nI k) = if q_g x k = true then 1 else 0 := by
  apply q_ext
  intro j hj
  unfold q_bt
  rw [q_g_and, q_g_one j hj]
  by_cases h0 : j = 0
  · subst h0
    rw [q_g_shr x hk (by omega)]
    simp only [decide_true, Bool.and_true, Nat.add_zero]
    cases h : q_g x k <;> simp [q_g_zero, q_g_one]
  · cases h : q_g x k
    · simp [h0, q_g_zero]
    · simp [h0, q_g_one j hj]
theorem q_bt1 (x : Int32) {k : Nat} (hk : k < 32) : q_bt x (nI k) = 1 ↔ q_g x k = true := by
  rw [q_bt_eq x hk]
  cases q_g x k <;> decide
theorem q_bt01 (x : Int32) {k : Nat} (hk : k < 32) : q_bt x (nI k) = 0 ∨ q_bt x (nI k) = 1 := by
  rw [q_bt_eq x hk]
  cases q_g x k
  · exact Or.inl rfl
  · exact Or.inr rfl
theorem q_g_shb {b : Int32} (hb : b = 0 ∨ b = 1) {k j : Nat} (hk : k < 32) (hj : j < 32) : q_g (b <<< (nI k &&& 31)) j = (decide (j = k) && decide (b = 1)) := by
  rcases hb with rfl | rfl
  · rw [q_g_sh0 k hk, q_g_zero]; simp
  · rw [q_g_sh1 k hk j hj]; simp
theorem q_g_bc (t : Int32) {b : Int32} (hb : b = 0 ∨ b = 1) {f j : Nat} (hf : f < 32) (hj : j < 32) : q_g (q_bc t (nI f) b) j = if j = f then decide (b = 1) else q_g t j := by
  unfold q_bc
  rw [q_g_or, q_g_and, q_g_xor, q_g_sh1 f hf j hj, q_g_m1 j hj, q_g_shb hb hf hj]
  by_cases h : j = f <;> simp [h]
theorem q_6 (f : Nat) : (6 : Int32) + nI f = nI (6 + f) := by rw [← nI_add]; rfl
theorem q_g_hd (m : Int32) {b : Int32} (hb : b = 0 ∨ b = 1) {f j : Nat} (hf : f < 6) (hj : j < 32) : q_g (q_hd m (nI f) b) j = if j = 6 + f then decide (b = 1) else if j = f then true else q_g m j := by
  unfold q_hd
  rw [q_6, q_g_or, q_g_or, q_g_and, q_g_xor, q_g_sh1 (6 + f) (by omega) j hj, q_g_m1 j hj, q_g_shb hb (by omega) hj, q_g_sh1 f (by omega) j hj]
  by_cases h : j = 6 + f
  · have : ¬ j = f := by omega
    simp [h]
  · by_cases h2 : j = f
    · have : ¬ f = 6 + f := by omega
      simp [h2, this]
    · simp [h, h2]
/-- what a mind holds of a fact: 0, 1, or -1 -/
def q_bel (m : Int32) (f : Nat) : Int32 := if q_g m f = true then (if q_g m (6 + f) = true then 1 else 0) else -1
theorem q_hs_iff (m : Int32) {b : Int32} (hb : b = 0 ∨ b = 1) {f : Nat} (hf : f < 6) : q_hs m (nI f) b ↔ q_bel m f = b := by
  unfold q_hs q_bel
  rw [q_6, q_bt_eq m (by omega), q_bt_eq m (by omega)]
  rcases hb with rfl | rfl <;> cases q_g m f <;> cases q_g m (6 + f) <;> decide
theorem q_bel_hd (m : Int32) {b : Int32} (hb : b = 0 ∨ b = 1) {f j : Nat} (hf : f < 6) (hj : j < 6) : q_bel (q_hd m (nI f) b) j = if j = f then b else q_bel m j := by
  unfold q_bel
  rw [q_g_hd m hb hf (by omega), q_g_hd m hb hf (by omega)]
  have h1 : ¬ j = 6 + f := by omega
  have h2 : ¬ 6 + j = f := by omega
  have h3 : (6 + j = 6 + f) = (j = f) := by simp
  simp only [h1, h2, h3, if_false]
  by_cases h : j = f
  · rcases hb with rfl | rfl <;> simp [h]
  · simp [h]
theorem q_bel_in (m : Int32) (f : Nat) : q_bel m f = -1 ∨ q_bel m f = 0 ∨ q_bel m f = 1 := by
  unfold q_bel
  cases q_g m f <;> cases q_g m (6 + f) <;> decide
/-- a mind in its one form: nothing but the twelve bits, and no second bit without the first -/
def q_can (m : Int32) : Prop := (∀ j, 12 ≤ j → q_g m j = false) ∧ ∀ f, f < 6 → q_g m f = false → q_g m (6 + f) = false
theorem q_can_hd {m : Int32} (h : q_can m) {b : Int32} (hb : b = 0 ∨ b = 1) {f : Nat} (hf : f < 6) : q_can (q_hd m (nI f) b) := by
  refine ⟨fun j hj => ?_, fun k hk hz => ?_⟩
  · by_cases h32 : j < 32
    · rw [q_g_hd m hb hf h32, if_neg (by omega), if_neg (by omega)]
      exact h.1 j hj
    · exact q_g_hi _ (by omega)
  · rw [q_g_hd m hb hf (by omega)] at hz ⊢
    rw [if_neg (by omega)] at hz
    by_cases e : k = f
    · rw [if_pos e] at hz; cases hz
    · rw [if_neg e] at hz
      rw [if_neg (by omega), if_neg (by omega)]
      exact h.2 k hk hz
theorem q_can_ext {m n : Int32} (hm : q_can m) (hn : q_can n) (h : ∀ f, f < 6 → q_bel m f = q_bel n f) : m = n := by
  have key : ∀ f, f < 6 → q_g m f = q_g n f ∧ q_g m (6 + f) = q_g n (6 + f) := by
    intro f hf
    have h1 := h f hf
    have h2 := hm.2 f hf
    have h3 := hn.2 f hf
    unfold q_bel at h1
    revert h1 h2 h3
    cases q_g m f <;> cases q_g m (6 + f) <;> cases q_g n f <;> cases q_g n (6 + f) <;> decide
  apply q_ext
  intro k _
  by_cases h6 : k < 6
  · exact (key k h6).1
  · by_cases h12 : k < 12
    · have := (key (k - 6) (by omega)).2
      rwa [show 6 + (k - 6) = k by omega] at this
    · rw [hm.1 k (by omega), hn.1 k (by omega)]
theorem q_can_0 : q_can 0 := ⟨fun j _ => q_g_zero j, fun f _ _ => q_g_zero _⟩
