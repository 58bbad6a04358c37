/-! ===== BOTH SIDES: city, clause by clause ===== -/
def s22b : Nat → Nat → Prop := fun c _ => 1 ≤ c ∧ c ≤ 21
theorem q_it_congr {Y Y' : mY} (h1 : Y'.1.2.1 = Y.1.2.1) (h2 : ∀ p, p < Y.1.2.1 → Y'.2.2.1 p 0 = Y.2.2.1 p 0) : q_it Y' = q_it Y := by
  unfold q_it
  rw [h1]
  exact q_ds_congr _ (fun p hp => by rw [h2 p hp])
theorem y_put_ne {F : Nat → Nat → Int32} {n a k : Nat} {r : Nat → Int32} (h : ¬ a = n) : y_put F n r a k = F a k := if_neg h
section CX
variable {E : mEnv} {w : mW} {Y : mY}
theorem k_X1_add (hk : yOK Y) (h : yX Y w) {cl : mCl} (hc : clOK Y.1 cl) {a : Nat} (ha : mSh[a]? = some (.inl (0, 6, []))) (ha2 : 25 ≤ a ∧ a ≤ 38) (hr : rowX cl a w) : mMv E MX1_add [.ref 1, .ref a] w (fun u => yX (y_add Y cl) u ∧ mFr s22b w u) := by
  obtain ⟨⟨x1, x2, x3, x4, x5, x6, x7⟩, x8⟩ := h
  obtain ⟨⟨a1, a2, a3, a4, a5, a6⟩, a7⟩ := hk
  unfold mMv
  refine mM_start rfl (Nat.le_of_ble_eq_true rfl) rfl (fun X C F => vX1_add_0 C F ha ?_)
  rw [hr.1]
  rcases cl_cases hc with e | e | ⟨e, l⟩ | ⟨e, l⟩ | ⟨e, l⟩
  · -- city
    rw [e, y_add_0 Y e]
    refine ⟨fun q => absurd rfl q, fun _ => ?_⟩
    have cl : mMv E MX1_clear [.ref 1] w (fun u => u = mPI (mPI (mPI (mPI (mPI w 1 0 0) 1 1 0) 1 2 0) 1 3 0) 1 4 0) := by
      unfold mMv
      refine mM_start rfl (Nat.le_of_ble_eq_true rfl) rfl (fun X C F => vX1_clear_0 C F ?_)
      exact ⟨rfl, rfl⟩
    refine cl.mono ?_
    rintro u rfl
    have p : ∀ (w : mW) (k : Nat) (v : Int32), mFr s22b w (mPI w 1 k v) := fun w k v => mFr.pi (S := s22b) ⟨by omega, by omega⟩
    refine ⟨rfl, ⟨⟨?_, ?_, ?_, fun f k hf => absurd hf (Nat.not_lt_zero _), fun f k hf => absurd hf (Nat.not_lt_zero _), fun f k hf => absurd hf (Nat.not_lt_zero _), mPI_at _ _ _ _⟩, ?_⟩, ((((p _ _ _).tr (p _ _ _)).tr (p _ _ _)).tr (p _ _ _)).tr (p _ _ _)⟩
    · rw [mPI_col (by omega), mPI_col (by omega), mPI_col (by omega), mPI_col (by omega), mPI_at]; rfl
    · rw [mPI_col (by omega), mPI_col (by omega), mPI_col (by omega), mPI_at]; rfl
    · rw [mPI_col (by omega), mPI_col (by omega), mPI_at]; rfl
    · rw [mPI_col (by omega), mPI_at]; rfl
  · -- still
    rw [e, y_add_8 Y e]
    refine ⟨fun _ => ⟨fun q => absurd rfl q, fun _ => ?_⟩, fun q => absurd q (by decide)⟩
    have f : mFr (fun c k => c = 1 ∧ k = 2) w (mPI w 1 2 0) := mFr.pi (S := fun c k => c = 1 ∧ k = 2) ⟨rfl, rfl⟩
    have ef : ∀ c k, ¬ (c = 1 ∧ k = 2) → (mPI w 1 2 0).1 c k = w.1 c k := fun c k q => (f c k q).1
    refine ⟨rfl, ⟨⟨(ef _ _ (by omega)).trans x1, (ef _ _ (by omega)).trans x2, mPI_at _ _ _ _, fun f k hf hk => (ef _ _ (by omega)).trans (x4 f k hf hk), fun f k hf hk => (ef _ _ (by omega)).trans (x5 f k hf hk), fun f k hf => absurd hf (Nat.not_lt_zero _), (ef _ _ (by omega)).trans x7⟩, (ef _ _ (by omega)).trans x8⟩, f.mono (fun c k q => by unfold s22b; omega)⟩
  · -- cause
    obtain ⟨d0, -⟩ := cl_deed a1 hc (Or.inr (Or.inr (Or.inr (Or.inr e))))
    rw [e, y_add_7 Y e]
    refine ⟨fun _ => ⟨fun _ => ⟨fun q => absurd rfl q, fun _ => ?_⟩, fun q => absurd q (by decide)⟩, fun q => absurd q (by decide)⟩
    have cc : mMv E MX1_addCause [.ref 1, .ref a] w (fun u => u = mPI (mCp w a (16 + Y.1.2.2) 1 0 4) 1 2 (nI (Y.1.2.2 + 1))) := by
      unfold mMv
      refine mM_start rfl (Nat.le_of_ble_eq_true rfl) rfl (fun X C F => vX1_addCause_0 C F ha ?_)
      rw [x3, show (6 : Int32) = nI 6 from rfl, nI_ltI (by omega) (by omega), nI_clamp (by omega)]
      refine ⟨fun _ => ⟨vp_in_nI (by omega) (by omega), by decide, ?_⟩, fun q => absurd l q⟩
      rintro w1 rfl
      refine ⟨rfl, ?_⟩
      have : (mCp w a (16 + Y.1.2.2) (1 : Int32).toNatClampNeg (0 : Int32).toNatClampNeg (4 : Int32).toNatClampNeg).1 1 2 = nI Y.1.2.2 := by rw [mCp_row (by omega)]; exact x3
      rw [this, nI_1]; rfl
    refine cc.mono ?_
    rintro u rfl
    have ef : ∀ c k, ¬ (c = 1 ∧ k = 2) → ¬ c = 16 + Y.1.2.2 → (mPI (mCp w a (16 + Y.1.2.2) 1 0 4) 1 2 (nI (Y.1.2.2 + 1))).1 c k = w.1 c k := fun c k q1 q2 => by
      rw [(mFr.pi (S := fun c k => c = 1 ∧ k = 2) (w := mCp w a (16 + Y.1.2.2) 1 0 4) (v := nI (Y.1.2.2 + 1)) ⟨rfl, rfl⟩ c k q1).1, mCp_row q2]
    refine ⟨rfl, ⟨⟨(ef _ _ (by omega) (by omega)).trans x1, (ef _ _ (by omega) (by omega)).trans x2, mPI_at _ _ _ _, fun f k (hf : f < Y.1.1) hk => (ef _ _ (by omega) (by omega)).trans (x4 f k hf hk), fun f k (hf : f < Y.1.2.1) hk => (ef _ _ (by omega) (by omega)).trans (x5 f k hf hk), fun f k hf hk => ?_, (ef _ _ (by omega) (by omega)).trans x7⟩, (ef _ _ (by omega) (by omega)).trans x8⟩, fun c k q => ⟨ef c k (fun z => q (by unfold s22b; omega)) (fun z => q (by unfold s22b; omega)), rfl⟩⟩
    have hf : f < Y.1.2.2 + 1 := hf
    dsimp only [y_put]
    by_cases z : f = Y.1.2.2
    · rw [if_pos z, z, mPI_row (by omega), mCp_at, pk_cpy_in (by omega) (by omega), show 1 + (k - 0) = k + 1 by omega]
      exact hr.2 k (by omega)
    · rw [if_neg z]
      exact (ef _ _ (by omega) (by omega)).trans (x6 f k (by omega) hk)
  · -- a fact
    obtain ⟨d0, d1, d2⟩ := cl_fact hc e
    have n0 : ¬ cl.1 = 0 := by rcases e with e | e <;> (rw [e]; decide)
    have n8 : ¬ cl.1 = 8 := by rcases e with e | e <;> (rw [e]; decide)
    have n7 : ¬ cl.1 = 7 := by rcases e with e | e <;> (rw [e]; decide)
    rw [y_add_f Y e]
    refine ⟨fun _ => ⟨fun _ => ⟨fun _ => (k_X5_isOfFact _).mono ?_, fun q => absurd q n7⟩, fun q => absurd q n8⟩, fun q => absurd q n0⟩
    rintro v u ⟨rfl, rfl⟩
    rw [q_b0]
    refine ⟨fun q => absurd e (of_decide_eq_false q), fun _ => ?_⟩
    rw [show u.1 a 1 = cl.2.getD 0 0 from hr.2 0 (by omega), show u.1 a 2 = cl.2.getD 1 0 from hr.2 1 (by omega)]
    have cc : mMv E MX1_addFact [.ref 1, .int (cl.1 - 1), .int (cl.2.getD 0 0), .int (cl.2.getD 1 0)] u (fun u2 => u2 = mPI (mPI (mPI (mPI u (3 + Y.1.1) 0 (cl.1 - 1)) (3 + Y.1.1) 1 (cl.2.getD 0 0)) 1 3 (u.1 1 3 ||| (cl.2.getD 1 0 <<< (nI Y.1.1 &&& 31)))) 1 0 (nI (Y.1.1 + 1))) := by
      unfold mMv
      refine mM_start rfl (Nat.le_of_ble_eq_true rfl) rfl (fun X C F => vX1_addFact_0 C F _ _ _ ?_)
      rw [x1, show (6 : Int32) = nI 6 from rfl, nI_ltI (by omega) (by omega), nI_clamp (by omega)]
      refine ⟨fun _ => ⟨vp_in_nI (by omega) (by omega), ?_⟩, fun q => absurd l q⟩
      rintro w1 rfl
      rw [mPI_row (by omega), x1, nI_clamp (by omega)]
      refine ⟨vp_in_nI (by omega) (by omega), ?_⟩
      rintro w2 rfl
      rw [mPI_row (by omega), mPI_row (by omega), x1, nI_1]
      exact ⟨rfl, rfl⟩
    refine cc.mono ?_
    rintro u2 rfl
    have ef : ∀ c k, ¬ (c = 1 ∧ (k = 3 ∨ k = 0)) → ¬ c = 3 + Y.1.1 → (mPI (mPI (mPI (mPI u (3 + Y.1.1) 0 (cl.1 - 1)) (3 + Y.1.1) 1 (cl.2.getD 0 0)) 1 3 (u.1 1 3 ||| (cl.2.getD 1 0 <<< (nI Y.1.1 &&& 31)))) 1 0 (nI (Y.1.1 + 1))).1 c k = u.1 c k := fun c k q1 q2 => by
      simp only [mPI]
      rw [if_neg (by omega), if_neg (by omega), if_neg (by omega), if_neg (by omega)]
    refine ⟨rfl, ⟨⟨mPI_at _ _ _ _, (ef _ _ (by omega) (by omega)).trans x2, (ef _ _ (by omega) (by omega)).trans x3, fun f k hf hk => ?_, fun f k hf hk => (ef _ _ (by omega) (by omega)).trans (x5 f k hf hk), fun f k hf hk => (ef _ _ (by omega) (by omega)).trans (x6 f k hf hk), ?_⟩, ?_⟩, fun c k q => ⟨ef c k (fun z => q (by unfold s22b; omega)) (fun z => q (by unfold s22b; omega)), rfl⟩⟩
    · have hf : f < Y.1.1 + 1 := hf
      dsimp only [y_put]
      by_cases z : f = Y.1.1
      · rw [if_pos z, z, mPI_row (by omega), mPI_row (by omega)]
        rcases (show k = 0 ∨ k = 1 by omega) with rfl | rfl
        · rw [mPI_col (by omega), mPI_at, if_pos rfl]
        · rw [mPI_at, if_neg (by omega)]
      · rw [if_neg z]
        exact (ef _ _ (by omega) (by omega)).trans (x4 f k (by omega) hk)
    · exact ((ef _ _ (by omega) (by omega)).trans x7).trans (q_it_congr rfl (fun _ _ => rfl)).symm
    · rw [mPI_col (by omega), mPI_at, x8]
      show _ = q_ds (fun f => decide (y_put Y.2.1 Y.1.1 (fun k => if k = 0 then cl.1 - 1 else cl.2.getD (k - 1) 0) f 2 = 1)) (Y.1.1 + 1)
      have hd : q_ds (fun f => decide (y_put Y.2.1 Y.1.1 (fun k => if k = 0 then cl.1 - 1 else cl.2.getD (k - 1) 0) f 2 = 1)) Y.1.1 = q_ds (fun f => decide (Y.2.1 f 2 = 1)) Y.1.1 := q_ds_congr _ (fun f hf => congrArg (fun x : Int32 => decide (x = 1)) (y_put_ne (by omega)))
      rw [q_ds, hd]
      have ev : y_put Y.2.1 Y.1.1 (fun k => if k = 0 then cl.1 - 1 else cl.2.getD (k - 1) 0) Y.1.1 2 = cl.2.getD 1 0 := by unfold y_put; rw [if_pos rfl]; rfl
      rw [ev]
      rcases d2 with z | z
      · rw [z, q_g_sh0 Y.1.1 (by omega), q_or0, if_neg (by decide)]
      · rw [z, if_pos (by decide)]
  · -- one
    obtain ⟨d0, d1, d2, d3, d4, d5⟩ := cl_deed a1 hc (e.elim Or.inl (fun e => Or.inr (e.elim Or.inl (fun e => Or.inr (e.elim Or.inl (fun e => Or.inr (Or.inl e)))))))
    have n0 : ¬ cl.1 = 0 := by rcases e with e | e | e | e <;> (rw [e]; decide)
    have n8 : ¬ cl.1 = 8 := by rcases e with e | e | e | e <;> (rw [e]; decide)
    have n7 : ¬ cl.1 = 7 := by rcases e with e | e | e | e <;> (rw [e]; decide)
    have nf : ¬ (cl.1 = 1 ∨ cl.1 = 2) := by rcases e with e | e | e | e <;> (rw [e]; decide)
    have k5 : cl.1 - 3 = 2 ↔ cl.1 = 5 := by rcases e with e | e | e | e <;> (rw [e]; decide)
    rw [y_add_p Y e]
    refine ⟨fun _ => ⟨fun _ => ⟨fun _ => (k_X5_isOfFact _).mono ?_, fun q => absurd q n7⟩, fun q => absurd q n8⟩, fun q => absurd q n0⟩
    rintro v u ⟨rfl, rfl⟩
    rw [q_b0]
    refine ⟨fun _ => ?_, fun q => absurd (b_t q) nf⟩
    have cc : mMv E MX1_addOne [.ref 1, .int (cl.1 - 3), .ref a] u (fun u2 => (∀ c k, ¬ (c = 1 ∧ (k = 4 ∨ k = 1)) → ¬ c = 10 + Y.1.2.1 → u2.1 c k = u.1 c k) ∧ u2.2 = u.2 ∧ u2.1 1 1 = nI (Y.1.2.1 + 1) ∧ u2.1 1 4 = (if cl.1 - 3 = 3 then u.1 1 4 ||| ((1 : Int32) <<< (nI Y.1.2.1 &&& 31)) else u.1 1 4) ∧ ∀ k, k < 6 → u2.1 (10 + Y.1.2.1) k = (if k = 0 then cl.1 - 3 else if k = 5 then (if cl.1 = 5 then cl.2.getD 4 0 else 0) else cl.2.getD (k - 1) 0)) := by
      unfold mMv
      refine mM_start rfl (Nat.le_of_ble_eq_true rfl) rfl (fun X C F => vX1_addOne_0 C F ha _ ?_)
      rw [x2, show (5 : Int32) = nI 5 from rfl, nI_ltI (by omega) (by omega), nI_clamp (by omega)]
      refine ⟨fun _ => ⟨vp_in_nI (by omega) (by omega), ?_⟩, fun q => absurd l q⟩
      rintro w1 rfl
      refine ⟨by decide, ?_⟩
      rw [show (1 : Int32).toNatClampNeg = 1 from rfl, show (4 : Int32).toNatClampNeg = 4 from rfl]
      rintro w2 ew2
      have eo : ∀ c k, ¬ c = 10 + Y.1.2.1 → w2.1 c k = u.1 c k := fun c k q => by rw [ew2, mCp_row q, mPI_row q]
      have eb : w2.2 = u.2 := by rw [ew2]; rfl
      have er : ∀ k, k < 5 → w2.1 (10 + Y.1.2.1) k = if k = 0 then cl.1 - 3 else cl.2.getD (k - 1) 0 := fun k hk => by
        rw [ew2, mCp_at]
        by_cases z : k = 0
        · rw [if_pos z, z, pk_cpy_out (by omega), mPI_at]
        · rw [if_neg z, pk_cpy_in (by omega) (by omega), mPI_row (by omega), show 1 + (k - 1) = (k - 1) + 1 by omega]
          exact hr.2 (k - 1) (by omega)
      clear ew2
      have fin : ∀ (w3 : mW) (v : Int32), w3 = mPI w2 (10 + Y.1.2.1) 5 v → v = (if cl.1 = 5 then cl.2.getD 4 0 else 0) → (∀ c k, ¬ c = 10 + Y.1.2.1 → w3.1 c k = u.1 c k) ∧ w3.2 = u.2 ∧ ∀ k, k < 6 → w3.1 (10 + Y.1.2.1) k = (if k = 0 then cl.1 - 3 else if k = 5 then (if cl.1 = 5 then cl.2.getD 4 0 else 0) else cl.2.getD (k - 1) 0) := by
        rintro w3 v rfl hv
        refine ⟨fun c k q => by rw [mPI_row q]; exact eo c k q, eb, fun k hk => ?_⟩
        by_cases z : k = 5
        · rw [z, mPI_at, if_neg (by omega), if_pos rfl]; exact hv
        · rw [mPI_col z, if_neg z]
          exact er k (by omega)
      have out : ∀ (w3 : mW), ((∀ c k, ¬ c = 10 + Y.1.2.1 → w3.1 c k = u.1 c k) ∧ w3.2 = u.2 ∧ ∀ k, k < 6 → w3.1 (10 + Y.1.2.1) k = (if k = 0 then cl.1 - 3 else if k = 5 then (if cl.1 = 5 then cl.2.getD 4 0 else 0) else cl.2.getD (k - 1) 0)) → ((¬ cl.1 - 3 = 3 → (none : Option Value) = none ∧ (∀ c k, ¬ (c = 1 ∧ (k = 4 ∨ k = 1)) → ¬ c = 10 + Y.1.2.1 → (mPI w3 1 1 (w3.1 1 1 + 1)).1 c k = u.1 c k) ∧ (mPI w3 1 1 (w3.1 1 1 + 1)).2 = u.2 ∧ (mPI w3 1 1 (w3.1 1 1 + 1)).1 1 1 = nI (Y.1.2.1 + 1) ∧ (mPI w3 1 1 (w3.1 1 1 + 1)).1 1 4 = (if cl.1 - 3 = 3 then u.1 1 4 ||| ((1 : Int32) <<< (nI Y.1.2.1 &&& 31)) else u.1 1 4) ∧ ∀ k, k < 6 → (mPI w3 1 1 (w3.1 1 1 + 1)).1 (10 + Y.1.2.1) k = (if k = 0 then cl.1 - 3 else if k = 5 then (if cl.1 = 5 then cl.2.getD 4 0 else 0) else cl.2.getD (k - 1) 0)) ∧ (cl.1 - 3 = 3 → (none : Option Value) = none ∧ (∀ c k, ¬ (c = 1 ∧ (k = 4 ∨ k = 1)) → ¬ c = 10 + Y.1.2.1 → (mPI (mPI w3 1 4 (w3.1 1 4 ||| ((1 : Int32) <<< (w3.1 1 1 &&& 31)))) 1 1 (w3.1 1 1 + 1)).1 c k = u.1 c k) ∧ (mPI (mPI w3 1 4 (w3.1 1 4 ||| ((1 : Int32) <<< (w3.1 1 1 &&& 31)))) 1 1 (w3.1 1 1 + 1)).2 = u.2 ∧ (mPI (mPI w3 1 4 (w3.1 1 4 ||| ((1 : Int32) <<< (w3.1 1 1 &&& 31)))) 1 1 (w3.1 1 1 + 1)).1 1 1 = nI (Y.1.2.1 + 1) ∧ (mPI (mPI w3 1 4 (w3.1 1 4 ||| ((1 : Int32) <<< (w3.1 1 1 &&& 31)))) 1 1 (w3.1 1 1 + 1)).1 1 4 = (if cl.1 - 3 = 3 then u.1 1 4 ||| ((1 : Int32) <<< (nI Y.1.2.1 &&& 31)) else u.1 1 4) ∧ ∀ k, k < 6 → (mPI (mPI w3 1 4 (w3.1 1 4 ||| ((1 : Int32) <<< (w3.1 1 1 &&& 31)))) 1 1 (w3.1 1 1 + 1)).1 (10 + Y.1.2.1) k = (if k = 0 then cl.1 - 3 else if k = 5 then (if cl.1 = 5 then cl.2.getD 4 0 else 0) else cl.2.getD (k - 1) 0))) := by
        rintro w3 ⟨o1, o2, o3⟩
        have e11 : w3.1 1 1 = nI Y.1.2.1 := (o1 1 1 (by omega)).trans x2
        have e14 : w3.1 1 4 = u.1 1 4 := o1 1 4 (by omega)
        rw [e11, nI_1, e14]
        refine ⟨fun z => ⟨rfl, fun c k q1 q2 => ?_, o2, mPI_at _ _ _ _, ?_, fun k hk => ?_⟩, fun z => ⟨rfl, fun c k q1 q2 => ?_, o2, mPI_at _ _ _ _, ?_, fun k hk => ?_⟩⟩
        · rw [(mFr.pi (S := fun c k => c = 1 ∧ k = 1) (w := w3) ⟨rfl, rfl⟩ c k (by omega)).1]; exact o1 c k q2
        · rw [mPI_col (by omega), if_neg z]; exact e14
        · rw [mPI_row (by omega)]; exact o3 k hk
        · rw [(mFr.pi (S := fun c k => c = 1 ∧ k = 1) ⟨rfl, rfl⟩ c k (by omega)).1, (mFr.pi (S := fun c k => c = 1 ∧ k = 4) ⟨rfl, rfl⟩ c k (by omega)).1]; exact o1 c k q2
        · rw [mPI_col (by omega), mPI_at, if_pos z]
        · rw [mPI_row (by omega), mPI_row (by omega)]; exact o3 k hk
      refine ⟨fun z => ?_, fun z => ?_⟩
      · rintro w3 ew3
        exact out w3 (fin w3 0 ew3 (by rw [if_neg (fun q => z (k5.mpr q))]))
      · rintro w3 ew3
        rw [show w2.1 a 5 = u.1 a 5 from eo a 5 (by omega)] at ew3
        exact out w3 (fin w3 _ ew3 (by rw [if_pos (k5.mp z)]; exact hr.2 4 (by have := (d5 (k5.mp z)).1; omega)))
    refine cc.mono ?_
    rintro u2 ⟨ef, e2, e11, e14, er⟩
    refine ⟨rfl, ⟨⟨(ef _ _ (by omega) (by omega)).trans x1, e11, (ef _ _ (by omega) (by omega)).trans x3, fun f k (hf : f < Y.1.1) hk => (ef _ _ (by omega) (by omega)).trans (x4 f k hf hk), fun p k hp hk => ?_, fun f k hf hk => (ef _ _ (by omega) (by omega)).trans (x6 f k hf hk), ?_⟩, (ef _ _ (by omega) (by omega)).trans x8⟩, fun c k q => ⟨ef c k (fun z => q (by unfold s22b; omega)) (fun z => q (by unfold s22b; omega)), by rw [e2]⟩⟩
    · have hp : p < Y.1.2.1 + 1 := hp
      dsimp only [y_put]
      by_cases z : p = Y.1.2.1
      · rw [if_pos z, z]; exact er k hk
      · rw [if_neg z]; exact (ef _ _ (by omega) (by omega)).trans (x5 p k (by omega) hk)
    · rw [e14, x7]
      unfold q_it
      show _ = q_ds (fun p => decide (y_put Y.2.2.1 Y.1.2.1 (fun k => if k = 0 then cl.1 - 3 else if k = 5 then (if cl.1 = 5 then cl.2.getD 4 0 else 0) else cl.2.getD (k - 1) 0) p 0 = 3)) (Y.1.2.1 + 1)
      have hd : q_ds (fun p => decide (y_put Y.2.2.1 Y.1.2.1 (fun k => if k = 0 then cl.1 - 3 else if k = 5 then (if cl.1 = 5 then cl.2.getD 4 0 else 0) else cl.2.getD (k - 1) 0) p 0 = 3)) Y.1.2.1 = q_ds (fun p => decide (Y.2.2.1 p 0 = 3)) Y.1.2.1 := q_ds_congr _ (fun f hf => congrArg (fun x : Int32 => decide (x = 3)) (y_put_ne (by omega)))
      rw [q_ds, hd]
      have ev : y_put Y.2.2.1 Y.1.2.1 (fun k => if k = 0 then cl.1 - 3 else if k = 5 then (if cl.1 = 5 then cl.2.getD 4 0 else 0) else cl.2.getD (k - 1) 0) Y.1.2.1 0 = cl.1 - 3 := by unfold y_put; rw [if_pos rfl]; rfl
      rw [ev]
      by_cases z : cl.1 - 3 = 3
      · rw [if_pos z, if_pos (decide_eq_true z)]
      · rw [if_neg z, if_neg (by rw [decide_eq_false z]; decide)]
end CX
