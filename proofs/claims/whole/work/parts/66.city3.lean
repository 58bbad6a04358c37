/-! ===== BOTH SIDES: city ===== -/
def mCs : Nat → Nat → Prop := fun c k => (c = 60 ∧ (k = 0 ∨ k = 2 ∨ k = 4)) ∨ c = 61 ∨ c = 62 ∨ c = 63
section CM
variable {E : mEnv} {w : mW} {Y : mY}
theorem k_X9_doLine (hk : yOK Y) (h : cyM Y w) {cl : mCl} (hc : clOK Y.1 cl) {x : Nat} (hx : x + 6 ≤ 84) (hr : rowM cl x w) : mMv E MX9_doLine [.ref 60, .int (nI x)] w (fun u => cyM (y_add Y cl) u ∧ mFr mCs w u) := by
  obtain ⟨x1, x2, x3, x4, x5, x6⟩ := h
  obtain ⟨⟨a1, a2, a3, a4, a5, a6⟩, a7⟩ := hk
  unfold mMv
  refine mM_start rfl (Nat.le_of_ble_eq_true rfl) rfl (fun X C F => vX9_doLine_0 C F _ ?_)
  rw [nI_clamp (by omega), hr.1]
  refine ⟨vp_in_nI (by omega) (by omega), ?_⟩
  rcases cl_cases hc with e | e | ⟨e, l⟩ | ⟨e, l⟩ | ⟨e, l⟩
  · -- city
    rw [e, y_add_0 Y e]
    have p : ∀ (w : mW) (k : Nat) (v : Int32), (k = 0 ∨ k = 2 ∨ k = 4) → mFr mCs w (mPI w 60 k v) := fun w k v q => mFr.pi (S := mCs) (Or.inl ⟨rfl, q⟩)
    refine ⟨fun _ => ⟨fun _ => ⟨fun _ => ⟨fun q => absurd rfl q, fun _ => ⟨fun q => absurd rfl q, fun _ => ?_⟩⟩, fun q => absurd q (by decide)⟩, fun q => absurd (by decide) q⟩, fun q => absurd (by decide) q⟩
    refine ⟨rfl, ⟨?_, mPI_at _ _ _ _, ?_, fun f k hf => absurd hf (Nat.not_lt_zero _), fun f k hf => absurd hf (Nat.not_lt_zero _), fun f k hf => absurd hf (Nat.not_lt_zero _)⟩, ((p _ _ _ (by omega)).tr (p _ _ _ (by omega))).tr (p _ _ _ (by omega))⟩
    · rw [mPI_col (by omega), mPI_at]; rfl
    · rw [mPI_col (by omega), mPI_col (by omega), mPI_at]; rfl
  · -- still
    rw [e, y_add_8 Y e]
    have p : ∀ (w : mW) (k : Nat) (v : Int32), (k = 0 ∨ k = 2 ∨ k = 4) → mFr mCs w (mPI w 60 k v) := fun w k v q => mFr.pi (S := mCs) (Or.inl ⟨rfl, q⟩)
    refine ⟨fun _ => ⟨fun _ => ⟨fun _ => ⟨fun _ => ⟨fun _ => ?_, fun q => absurd q (by decide)⟩, fun q => absurd q (by decide)⟩, fun q => absurd q (by decide)⟩, fun q => absurd (by decide) q⟩, fun q => absurd (by decide) q⟩
    have ef : ∀ c k, ¬ c = 60 → (mPI (mPI (mPI w 60 4 0) 60 0 (w.1 60 0)) 60 2 (w.1 60 2)).1 c k = w.1 c k := fun c k q => by rw [mPI_row q, mPI_row q, mPI_row q]
    refine ⟨rfl, ⟨?_, ?_, ?_, fun f k hf hk => (ef _ _ (by omega)).trans (x4 f k hf hk), fun f k hf hk => (ef _ _ (by omega)).trans (x5 f k hf hk), fun f k hf => absurd hf (Nat.not_lt_zero _)⟩, ((p _ _ _ (by omega)).tr (p _ _ _ (by omega))).tr (p _ _ _ (by omega))⟩
    · rw [mPI_col (by omega), mPI_at]; exact x1
    · rw [mPI_at]; exact x2
    · rw [mPI_col (by omega), mPI_col (by omega), mPI_at]; rfl
  · -- a cause
    obtain ⟨d0, -⟩ := cl_deed a1 hc (Or.inr (Or.inr (Or.inr (Or.inr e))))
    rw [e, y_add_7 Y e]
    refine ⟨fun _ => ⟨fun _ => ⟨fun q => absurd rfl q, fun _ => ?_⟩, fun q => absurd (by decide) q⟩, fun q => absurd (by decide) q⟩
    have loop : ∀ k j : Nat, j + k = 4 → ∀ u, mFr (fun c k => c = 63 ∧ 4 * Y.1.2.2 ≤ k ∧ k < 4 * Y.1.2.2 + 4) w u → (∀ q, q < j → u.1 63 (4 * Y.1.2.2 + q) = cl.2.getD q 0) → mG X E MX9_doLine 157 [.ref 60, .int (nI x), .retAddr 0, .int (nI j)] [] u := by
      intro k
      induction k with
      | zero =>
        intro j hj u fu hq
        refine vX9_doLine_157 C F _ _ ?_
        rw [show (4 : Int32) = nI 4 from rfl]
        refine ⟨fun _ => ?_, fun q => absurd (nI_le (by omega) (by omega)) q⟩
        have e4 : u.1 60 4 = nI Y.1.2.2 := by rw [(fu 60 4 (by omega)).1]; exact x3
        rw [e4, nI_1]
        have ef : ∀ c k, ¬ (c = 60 ∧ k = 4) → ¬ (c = 63 ∧ 4 * Y.1.2.2 ≤ k ∧ k < 4 * Y.1.2.2 + 4) → (mPI u 60 4 (nI (Y.1.2.2 + 1))).1 c k = w.1 c k := fun c k q1 q2 => by rw [(mFr.pi (S := fun c k => c = 60 ∧ k = 4) (w := u) ⟨rfl, rfl⟩ c k q1).1]; exact (fu c k q2).1
        refine ⟨rfl, ?_, (fu.mono (fun c k q => Or.inr (Or.inr (Or.inr q.1)))).tr (mFr.pi (S := mCs) (Or.inl ⟨rfl, by omega⟩))⟩
        rw [y_add_7 Y e]
        refine ⟨(ef _ _ (by omega) (by omega)).trans x1, (ef _ _ (by omega) (by omega)).trans x2, mPI_at _ _ _ _, fun f k hf hk => (ef _ _ (by omega) (by omega)).trans (x4 f k hf hk), fun f k hf hk => (ef _ _ (by omega) (by omega)).trans (x5 f k hf hk), fun f k hf hk => ?_⟩
        have hf : f < Y.1.2.2 + 1 := hf
        dsimp only [y_put]
        by_cases z : f = Y.1.2.2
        · rw [if_pos z, z, mPI_row (by omega)]; exact hq k (by omega)
        · rw [if_neg z]; exact (ef _ _ (by omega) (by omega)).trans (x6 f k (by omega) hk)
      | succ k ih =>
        intro j hj u fu hq
        refine vX9_doLine_157 C F _ _ ?_
        have e4 : u.1 60 4 = nI Y.1.2.2 := by rw [(fu 60 4 (by omega)).1]; exact x3
        rw [e4, show nI x + 1 = nI (x + 1) from q_k x 1, nI_add, q_4p, nI_add, nI_clamp (by omega), nI_clamp (by omega), nI_1 j]
        refine ⟨fun q => absurd q (show ¬ nI 4 ≤ nI j from nI_ge (by omega) (by omega)), fun _ => ⟨vp_in_nI (by omega) (by omega), vp_in_nI (by omega) (by omega), ?_⟩⟩
        rintro w1 rfl
        have fr : ∀ v : Int32, mFr (fun c k => c = 63 ∧ 4 * Y.1.2.2 ≤ k ∧ k < 4 * Y.1.2.2 + 4) u (mPI u 63 (4 * Y.1.2.2 + j) v) := fun v => mFr.pi (S := fun c k => c = 63 ∧ 4 * Y.1.2.2 ≤ k ∧ k < 4 * Y.1.2.2 + 4) ⟨rfl, by omega, by omega⟩
        refine ih (j + 1) (by omega) _ (fu.tr (fr _)) (fun q hq2 => ?_)
        by_cases z : q = j
        · rw [z, mPI_at, (fu 65 _ (by omega)).1]; exact hr.2.1 j (by omega)
        · rw [mPI_col (by omega)]; exact hq q (by omega)
    exact loop 4 0 (by omega) w mFr.rf (fun q hq => absurd hq (by omega))
  · -- a fact
    obtain ⟨d0, d1, d2⟩ := cl_fact hc e
    have s2 : ¬ (2 : Int32) ≤ p_rs cl.1 := by rcases e with e | e <;> (rw [e]; decide)
    have er : p_rs cl.1 = cl.1 - 1 := by rcases e with e | e <;> (rw [e]; decide)
    rw [y_add_f Y e]
    refine ⟨fun q => absurd q s2, fun _ => ?_⟩
    rw [x1, q_3p, nI_clamp (by omega), show nI x + 1 = nI (x + 1) from q_k x 1, show nI x + 2 = nI (x + 2) from q_k x 2]
    refine ⟨vp_in_nI (by omega) (by omega), ?_⟩
    rintro w2 rfl
    rw [mPI_row (show (60 : Nat) ≠ 61 by omega), x1, q_3p, show nI (3 * Y.1.1) + 1 = nI (3 * Y.1.1 + 1) from q_k _ 1, nI_clamp (by omega), nI_clamp (by omega), mPI_row (show (65 : Nat) ≠ 61 by omega)]
    refine ⟨vp_in_nI (by omega) (by omega), vp_in_nI (by omega) (by omega), ?_⟩
    rintro w3 rfl
    rw [mPI_row (show (60 : Nat) ≠ 61 by omega), mPI_row (show (60 : Nat) ≠ 61 by omega), x1, q_3p, show nI (3 * Y.1.1) + 2 = nI (3 * Y.1.1 + 2) from q_k _ 2, nI_clamp (by omega), nI_clamp (by omega), mPI_row (show (65 : Nat) ≠ 61 by omega), mPI_row (show (65 : Nat) ≠ 61 by omega)]
    refine ⟨vp_in_nI (by omega) (by omega), vp_in_nI (by omega) (by omega), ?_⟩
    rintro w4 rfl
    rw [mPI_row (show (60 : Nat) ≠ 61 by omega), mPI_row (show (60 : Nat) ≠ 61 by omega), mPI_row (show (60 : Nat) ≠ 61 by omega), x1, nI_1, show w.1 65 (x + 1) = cl.2.getD 0 0 from hr.2.1 0 (by omega), show w.1 65 (x + 2) = cl.2.getD 1 0 from hr.2.1 1 (by omega), er]
    have ef : ∀ c k, ¬ (c = 60 ∧ k = 0) → ¬ (c = 61 ∧ 3 * Y.1.1 ≤ k ∧ k < 3 * Y.1.1 + 3) → (mPI (mPI (mPI (mPI w 61 (3 * Y.1.1) (cl.1 - 1)) 61 (3 * Y.1.1 + 1) (cl.2.getD 0 0)) 61 (3 * Y.1.1 + 2) (cl.2.getD 1 0)) 60 0 (nI (Y.1.1 + 1))).1 c k = w.1 c k := fun c k q1 q2 => by
      simp only [mPI]
      rw [if_neg (by omega), if_neg (by omega), if_neg (by omega), if_neg (by omega)]
    refine ⟨rfl, ⟨mPI_at _ _ _ _, (ef _ _ (by omega) (by omega)).trans x2, (ef _ _ (by omega) (by omega)).trans x3, fun f k hf hk => ?_, fun f k hf hk => (ef _ _ (by omega) (by omega)).trans (x5 f k hf hk), fun f k hf hk => (ef _ _ (by omega) (by omega)).trans (x6 f k hf hk)⟩, fun c k q => ⟨ef c k (fun z => q (Or.inl ⟨z.1, by omega⟩)) (fun z => q (Or.inr (Or.inl z.1))), rfl⟩⟩
    have hf : f < Y.1.1 + 1 := hf
    dsimp only [y_put]
    by_cases z : f = Y.1.1
    · rw [if_pos z, z, mPI_row (by omega)]
      rcases (show k = 0 ∨ k = 1 ∨ k = 2 by omega) with rfl | rfl | rfl
      · rw [mPI_col (by omega), mPI_col (by omega), Nat.add_zero, mPI_at, if_pos rfl]
      · rw [mPI_col (by omega), mPI_at, if_neg (by omega)]
      · rw [mPI_at, if_neg (by omega)]
    · rw [if_neg z]; exact (ef _ _ (by omega) (by omega)).trans (x4 f k (by omega) hk)
  · -- one
    obtain ⟨d0, d1, d2, d3, d4, d5⟩ := cl_deed a1 hc (e.elim Or.inl (fun e => Or.inr (e.elim Or.inl (fun e => Or.inr (e.elim Or.inl (fun e => Or.inr (Or.inl e)))))))
    have s2 : (2 : Int32) ≤ p_rs cl.1 := by rcases e with e | e | e | e <;> (rw [e]; decide)
    have s6 : ¬ (6 : Int32) ≤ p_rs cl.1 := by rcases e with e | e | e | e <;> (rw [e]; decide)
    have er : p_rs cl.1 - 2 = cl.1 - 3 := by rcases e with e | e | e | e <;> (rw [e]; decide)
    have e5 : w.1 65 (x + 5) = (if cl.1 = 5 then cl.2.getD 4 0 else 0) := by
      by_cases z : cl.1 = 5
      · rw [if_pos z]; exact hr.2.1 4 (by have := (d5 z).1; omega)
      · rw [if_neg z]
        refine hr.2.2 ?_
        rcases e with e | e | e | e
        · exact Or.inl e
        · exact Or.inr (Or.inl e)
        · exact absurd e z
        · exact Or.inr (Or.inr e)
    rw [y_add_p Y e]
    refine ⟨fun _ => ⟨fun q => absurd q s6, fun _ => ?_⟩, fun q => absurd s2 q⟩
    rw [x2, q_6p, nI_clamp (by omega), er]
    refine ⟨vp_in_nI (by omega) (by omega), ?_⟩
    rintro w1 rfl
    have loop : ∀ k j : Nat, j + k = 6 → 1 ≤ j → ∀ u, mFr (fun c k => c = 62 ∧ 6 * Y.1.2.1 ≤ k ∧ k < 6 * Y.1.2.1 + 6) w u → u.1 62 (6 * Y.1.2.1) = cl.1 - 3 → (∀ q, 1 ≤ q → q < j → u.1 62 (6 * Y.1.2.1 + q) = w.1 65 (x + q)) → mG X E MX9_doLine 102 [.ref 60, .int (nI x), .retAddr 0, .int (nI j)] [] u := by
      intro k
      induction k with
      | zero =>
        intro j hj h1 u fu h0 hq
        refine vX9_doLine_102 C F _ _ ?_
        rw [show (6 : Int32) = nI 6 from rfl]
        refine ⟨fun _ => ?_, fun q => absurd (nI_le (by omega) (by omega)) q⟩
        have e4 : u.1 60 2 = nI Y.1.2.1 := by rw [(fu 60 2 (by omega)).1]; exact x2
        rw [e4, nI_1]
        have ef : ∀ c k, ¬ (c = 60 ∧ k = 2) → ¬ (c = 62 ∧ 6 * Y.1.2.1 ≤ k ∧ k < 6 * Y.1.2.1 + 6) → (mPI u 60 2 (nI (Y.1.2.1 + 1))).1 c k = w.1 c k := fun c k q1 q2 => by rw [(mFr.pi (S := fun c k => c = 60 ∧ k = 2) (w := u) ⟨rfl, rfl⟩ c k q1).1]; exact (fu c k q2).1
        refine ⟨rfl, ?_, (fu.mono (fun c k q => Or.inr (Or.inr (Or.inl q.1)))).tr (mFr.pi (S := mCs) (Or.inl ⟨rfl, by omega⟩))⟩
        rw [y_add_p Y e]
        refine ⟨(ef _ _ (by omega) (by omega)).trans x1, mPI_at _ _ _ _, (ef _ _ (by omega) (by omega)).trans x3, fun f k hf hk => (ef _ _ (by omega) (by omega)).trans (x4 f k hf hk), fun f k hf hk => ?_, fun f k hf hk => (ef _ _ (by omega) (by omega)).trans (x6 f k hf hk)⟩
        have hf : f < Y.1.2.1 + 1 := hf
        dsimp only [y_put]
        by_cases z : f = Y.1.2.1
        · rw [if_pos z, z, mPI_row (by omega)]
          by_cases k0 : k = 0
          · rw [if_pos k0, k0, Nat.add_zero]; exact h0
          · rw [if_neg k0, hq k (by omega) (by omega)]
            by_cases k5 : k = 5
            · rw [if_pos k5, k5]; exact e5
            · rw [if_neg k5, show x + k = x + 1 + (k - 1) by omega]; exact hr.2.1 (k - 1) (by omega)
        · rw [if_neg z]; exact (ef _ _ (by omega) (by omega)).trans (x5 f k (by omega) hk)
      | succ k ih =>
        intro j hj h1 u fu h0 hq
        refine vX9_doLine_102 C F _ _ ?_
        have e4 : u.1 60 2 = nI Y.1.2.1 := by rw [(fu 60 2 (by omega)).1]; exact x2
        rw [e4, nI_add, q_6p, nI_add, nI_clamp (by omega), nI_clamp (by omega), nI_1 j]
        refine ⟨fun q => absurd q (show ¬ nI 6 ≤ nI j from nI_ge (by omega) (by omega)), fun _ => ⟨vp_in_nI (by omega) (by omega), vp_in_nI (by omega) (by omega), ?_⟩⟩
        rintro w1 rfl
        have fr : ∀ v : Int32, mFr (fun c k => c = 62 ∧ 6 * Y.1.2.1 ≤ k ∧ k < 6 * Y.1.2.1 + 6) u (mPI u 62 (6 * Y.1.2.1 + j) v) := fun v => mFr.pi (S := fun c k => c = 62 ∧ 6 * Y.1.2.1 ≤ k ∧ k < 6 * Y.1.2.1 + 6) ⟨rfl, by omega, by omega⟩
        refine ih (j + 1) (by omega) (by omega) _ (fu.tr (fr _)) (by rw [mPI_col (by omega)]; exact h0) (fun q hq1 hq2 => ?_)
        by_cases z : q = j
        · rw [z, mPI_at, (fu 65 _ (by omega)).1]
        · rw [mPI_col (by omega)]; exact hq q hq1 (by omega)
    have fr : ∀ v : Int32, mFr (fun c k => c = 62 ∧ 6 * Y.1.2.1 ≤ k ∧ k < 6 * Y.1.2.1 + 6) w (mPI w 62 (6 * Y.1.2.1) v) := fun v => mFr.pi (S := fun c k => c = 62 ∧ 6 * Y.1.2.1 ≤ k ∧ k < 6 * Y.1.2.1 + 6) ⟨rfl, by omega, by omega⟩
    exact loop 5 1 (by omega) (by omega) _ (fr _) (mPI_at _ _ _ _) (fun q h1 h2 => absurd h2 (by omega))
def bgS : Nat → Nat → Prop := fun c k => c = 66 ∨ c = 71 ∨ (c = 60 ∧ (k = 26 ∨ k = 28))
theorem q_bel0 : ∀ p : Nat, p < 5 → ∀ f : Nat, q_bel (q_mo 0 (nI p)) f = -1 := fun p hp f => by
  rw [q_mo_0 p hp]; unfold q_bel; rw [q_g_zero]; rfl
theorem k_X9_begin (h : cyM Y w) (hk : yOK Y) : mMv E MX9_begin [.ref 60] w (fun u => mFr bgS w u ∧ snT (u.1 66) (y_told Y, 0, 0) ∧ u.1 71 0 = 0 ∧ u.1 71 1 = 0 ∧ u.1 60 26 = 0 ∧ u.1 60 28 = 0) := by
  have h6 := hk.1.1
  unfold mMv
  refine mM_start rfl (Nat.le_of_ble_eq_true rfl) rfl (fun X C F => vX9_begin_0 C F ?_)
  have s66 : ∀ c k, c = 66 → bgS c k := fun c k q => Or.inl q
  have loop2 : ∀ k j : Nat, j + k = 32 → 2 ≤ j → ∀ u, mFr bgS w u → u.1 66 0 = y_told Y → u.1 66 1 = 0 → (∀ q, 2 ≤ q → q < j → u.1 66 q = -1) → mG X E MX9_begin 57 [.ref 60, .int (nI j)] [] u := by
    intro k
    induction k with
    | zero =>
      intro j hj h2 u fu e0 e1 hq
      refine vX9_begin_57 C F _ ?_
      rw [show (32 : Int32) = nI 32 from rfl]
      have p : ∀ (w : mW) (c k : Nat) (v : Int32), bgS c k → mFr bgS w (mPI w c k v) := fun w c k v q => mFr.pi (S := bgS) q
      refine ⟨fun _ => ⟨rfl, fu.tr ((((p _ _ _ _ (Or.inr (Or.inl rfl))).tr (p _ _ _ _ (Or.inr (Or.inl rfl)))).tr (p _ _ _ _ (Or.inr (Or.inr ⟨rfl, Or.inl rfl⟩)))).tr (p _ _ _ _ (Or.inr (Or.inr ⟨rfl, Or.inr rfl⟩)))), ⟨?_, ?_, fun p f hp hf => ?_⟩, ?_, ?_, ?_, mPI_at _ _ _ _⟩, fun q => absurd (nI_le (by omega) (by omega)) q⟩
      · rw [mPI_row (by omega), mPI_row (by omega), mPI_row (by omega), mPI_row (by omega)]; exact e0
      · rw [mPI_row (by omega), mPI_row (by omega), mPI_row (by omega), mPI_row (by omega)]; exact e1
      · rw [mPI_row (by omega), mPI_row (by omega), mPI_row (by omega), mPI_row (by omega), hq _ (by omega) (by omega)]
        exact (q_bel0 p hp f).symm
      · rw [mPI_row (by omega), mPI_row (by omega), mPI_col (by omega), mPI_at]
      · rw [mPI_row (by omega), mPI_row (by omega), mPI_at]
      · rw [mPI_col (by omega), mPI_at]
    | succ k ih =>
      intro j hj h2 u fu e0 e1 hq
      refine vX9_begin_57 C F _ ?_
      rw [show (32 : Int32) = nI 32 from rfl, nI_clamp (by omega), nI_1]
      refine ⟨fun q => absurd q (nI_ge (by omega) (by omega)), fun _ => ⟨vp_in_nI (by omega) (by omega), ?_⟩⟩
      rintro w1 rfl
      refine ih (j + 1) (by omega) (by omega) _ (fu.tr (mFr.pi (S := bgS) (Or.inl rfl))) (by rw [mPI_col (by omega)]; exact e0) (by rw [mPI_col (by omega)]; exact e1) (fun q a b => ?_)
      by_cases z : q = j
      · rw [z, mPI_at]
      · rw [mPI_col z]; exact hq q a (by omega)
  have loop : ∀ k j : Nat, j + k = Y.1.1 → ∀ u, mFr bgS w u → u.1 66 0 = q_ds (fun f => decide (Y.2.1 f 2 = 1)) j → u.1 66 1 = 0 → mG X E MX9_begin 16 [.ref 60, .int (nI j)] [] u := by
    intro k
    induction k with
    | zero =>
      intro j hj u fu e0 e1
      have hu : cyM Y u := h.fr fu (fun c k q => by unfold bgS at q; unfold mCy; omega)
      refine vX9_begin_16 C F _ ?_
      rw [hu.1]
      refine ⟨fun _ => ?_, fun q => absurd (nI_le (by omega) (by omega)) q⟩
      exact loop2 30 2 (by omega) (by omega) u fu (by rw [e0, show j = Y.1.1 by omega]; rfl) e1 (fun q a b => absurd b (by omega))
    | succ k ih =>
      intro j hj u fu e0 e1
      have hu : cyM Y u := h.fr fu (fun c k q => by unfold bgS at q; unfold mCy; omega)
      refine vX9_begin_16 C F _ ?_
      rw [hu.1, q_3p, show nI (3 * j) + 2 = nI (3 * j + 2) from q_k _ 2, nI_clamp (by omega), hu.2.2.2.1 j 2 (by omega) (by omega), e0, nI_1]
      refine ⟨fun q => absurd q (nI_ge (by omega) (by omega)), fun _ => ⟨vp_in_nI (by omega) (by omega), ?_⟩⟩
      refine ih (j + 1) (by omega) _ (fu.tr (mFr.pi (S := bgS) (Or.inl rfl))) ?_ (by rw [mPI_col (by omega)]; exact e1)
      rw [mPI_at, q_ds]
      rcases hk.2 j (by omega) with z | z
      · rw [z, q_g_sh0 j (by omega), q_or0, if_neg (by decide)]
      · rw [z, if_pos (by decide)]
  refine loop Y.1.1 0 (by omega) _ ((mFr.pi (S := bgS) (Or.inl rfl)).tr (mFr.pi (S := bgS) (Or.inl rfl))) ?_ (mPI_at _ _ _ _)
  rw [mPI_col (by omega), mPI_at]; rfl
end CM
section CC
variable {E : mEnv} {w : mW} {Z : mZ}
theorem y_all_c (Y : mY) (cl : mCl) (cs : List mCl) : y_all Y (cl :: cs) = y_all (y_add Y cl) cs := rfl
theorem m_city (hz : zOK Z) (h : zM Z w) : mMi E MX9_city [.ref 60] w (fun v u => v = (o_city Z).1 ∧ zM (o_city Z).2 u ∧ mFr s60w w u) := by
  have hL := hz.2.2.2.2.2.1.1
  have pok := p_all_ok (T := Z.2.2.2.2.1.2) (L := Z.2.2.2.2.1.1) 14 Z.1.1 0 (by omega)
  unfold mMi
  refine mM_start rfl (Nat.le_of_ble_eq_true rfl) rfl (fun X C F => vX9_city_0 C F ?_)
  refine (k_X9_isRead hL h.2.2.2.2.1 h.1 hz.1).mono ?_
  rintro v u ⟨f, a, b⟩
  have hu := h.fr (f.mono iSm) (fun c k q => Or.inl q)
  cases hp : p_all Z.2.2.2.2.1.2 Z.2.2.2.2.1.1 14 Z.1.1 0 with
  | inl s =>
    obtain ⟨rfl, e⟩ := a s hp
    have oo : o_city Z = (-4, Z) := by unfold o_city p_of; rw [hp]
    rw [oo]
    exact ⟨fun q => absurd rfl q, fun _ => ⟨_, rfl, rfl, hu, f.mono (fun c k q => mSc60 c k (iSm c k q))⟩⟩
  | inr cs =>
    have oo : o_city Z = (nI cs.length, (y_all Z.1 cs, (y_told (y_all Z.1 cs), 0, 0), (0, Z.2.2.1.2), (fun _ => none), (0, Z.2.2.2.2.1.2), (0, Z.2.2.2.2.2.2.1, Z.2.2.2.2.2.2.2))) := by unfold o_city p_of; rw [hp]
    obtain ⟨rfl, e14, hrow⟩ := b cs hp
    obtain ⟨cok, clen⟩ := pok.2 cs hp
    refine ⟨fun _ => ?_, fun q => absurd q (by decide)⟩
    have loop : ∀ (k n : Nat) (Y : mY) (cs2 : List mCl) (u2 : mW), n + k = cs.length → cs.drop n = cs2 → yOK Y → csOK Y.1 cs2 → y_all Y cs2 = y_all Z.1 cs → mFr mCs u u2 → cyM Y u2 → mG X E MX9_city 12 [.ref 60, .int (nI n)] [] u2 := by
      intro k
      induction k with
      | zero =>
        intro n Y cs2 u2 hn hd hY hcs hall fu2 hcy
        have e14' : u2.1 60 14 = nI cs.length := by rw [(fu2 60 14 (by unfold mCs; omega)).1]; exact e14
        refine vX9_city_12 C F _ ?_
        rw [e14']
        refine ⟨fun _ => ?_, fun q => absurd (nI_le (by omega) (by omega)) q⟩
        have f3 : mFr (fun c k => c = 60 ∧ k = 6) u2 (mPI u2 60 6 0) := mFr.pi (S := fun c k => c = 60 ∧ k = 6) ⟨rfl, rfl⟩
        refine (k_X9_begin (hcy.fr f3 (fun c k q => by unfold mCy; omega)) hY).mono ?_
        rintro u4 ⟨f4, hs, z0, z1, z26, z28⟩
        have eY : y_all Z.1 cs = Y := by rw [← hall, ← hd, List.drop_eq_nil_of_le (by omega)]; rfl
        rw [oo]
        refine ⟨_, rfl, ?_, ⟨?_, ?_, ⟨z26, fun i hi => absurd hi (Nat.not_lt_zero _)⟩, fun k hk => ⟨?_, fun y hy => absurd hy (by simp)⟩, ⟨?_, fun i hi => absurd hi (Nat.not_lt_zero _)⟩, ⟨z28, fun i hi => absurd hi (Nat.not_lt_zero _)⟩⟩, ?_⟩
        · rw [(f4 60 14 (by unfold bgS; omega)).1, mPI_col (by omega)]; exact e14'
        · show cyM (y_all Z.1 cs) u4
          rw [eY]; exact (hcy.fr f3 (fun c k q => by unfold mCy; omega)).fr f4 (fun c k q => by unfold bgS at q; unfold mCy; omega)
        · show snT (u4.1 66) (y_told (y_all Z.1 cs), 0, 0)
          rw [eY]; exact hs
        · rcases (show k = 0 ∨ k = 1 by omega) with rfl | rfl
          · exact z0
          · exact z1
        · show u4.1 60 6 = nI 0
          rw [(f4 60 6 (by unfold bgS; omega)).1, mPI_at]; rfl
        · refine (f.mono (fun c k q => mSc60 c k (iSm c k q))).tr ((fu2.mono ?_).tr ((f3.mono ?_).tr (f4.mono ?_)))
          · intro c k q; unfold mCs at q; unfold s60w; omega
          · intro c k q; unfold s60w; omega
          · intro c k q; unfold bgS at q; unfold s60w; omega
      | succ k ih =>
        intro n Y cs2 u2 hn hd hY hcs hall fu2 hcy
        have e14' : u2.1 60 14 = nI cs.length := by rw [(fu2 60 14 (by unfold mCs; omega)).1]; exact e14
        have edr : cs.drop n = cs.getD n (0, []) :: cs.drop (n + 1) := by
          rw [List.drop_eq_getElem_cons (by omega), List.getD_eq_getElem?_getD, List.getElem?_eq_getElem (by omega)]; rfl
        rw [← hd, edr] at hcs hall
        have hr := (hrow n (by omega)).fr (by
          have := hcs.1.2.2.1
          have mx : ∀ (c : mC3) (k : Nat), k < 9 → (p_max c (nI k)).length ≤ 5 := fun c k hk => by rw [p_max_st hk, List.length_map, (q_st_len k hk).1]; exact (q_st_len k hk).2.2
          obtain ⟨kk, hkk, ek⟩ := hcs.1.2.1
          rw [this, ek]; exact mx _ kk hkk) fu2 (fun k _ _ q => by unfold mCs at q; omega)
        refine vX9_city_12 C F _ ?_
        rw [e14', q_6p]
        refine ⟨fun q => absurd q (nI_ge (by omega) (by omega)), fun _ => (k_X9_doLine hY hcy hcs.1 (by omega) hr).mono ?_⟩
        rintro u3 ⟨hcy3, f3⟩
        rw [nI_1]
        exact ih (n + 1) (y_add Y (cs.getD n (0, []))) (cs.drop (n + 1)) u3 (by omega) rfl (y_add_ok hY hcs.1) (by rw [y_add_cnt Y hcs.1]; exact hcs.2) hall (fu2.tr f3) hcy3
    exact loop cs.length 0 Z.1 cs u (by omega) rfl ⟨hz.1, hz.2.1⟩ cok rfl mFr.rf hu.1
theorem x_city (hz : zOK Z) (h : zX Z w) : mMi E MX8_city [.ref 0] w (fun v u => v = (o_city Z).1 ∧ zX (o_city Z).2 u ∧ mFr s60b w u) := by
  have hL := hz.2.2.2.2.2.1.1
  have pok := p_all_ok (T := Z.2.2.2.2.1.2) (L := Z.2.2.2.2.1.1) 14 Z.1.1 0 (by omega)
  unfold mMi
  refine mM_start rfl (Nat.le_of_ble_eq_true rfl) rfl (fun X C F => vX8_city_0 C F ?_)
  refine (k_X5_firstFault hL h.2.2.1 h.1.1 hz.1).mono ?_
  rintro v u ⟨f, a, b⟩
  have hu := h.fr hz (f.mono fSx) (fun c k q => Or.inl q)
  cases hp : p_all Z.2.2.2.2.1.2 Z.2.2.2.2.1.1 14 Z.1.1 0 with
  | inl s =>
    have oo : o_city Z = (-4, Z) := by unfold o_city p_of; rw [hp]
    rw [oo]
    have e := a s hp
    have sl := pok.1 s hp
    refine ⟨fun q => absurd (e.symm.trans q) (m1n (by omega)), fun _ => ⟨_, rfl, rfl, hu, f.mono (fun c k q => xSc60 c k (fSx c k q))⟩⟩
  | inr cs =>
    have oo : o_city Z = (nI cs.length, (y_all Z.1 cs, (y_told (y_all Z.1 cs), 0, 0), (0, Z.2.2.1.2), (fun _ => none), (0, Z.2.2.2.2.1.2), (0, Z.2.2.2.2.2.2.1, Z.2.2.2.2.2.2.2))) := by unfold o_city p_of; rw [hp]
    obtain ⟨rfl, e3, hrow⟩ := b cs hp
    obtain ⟨cok, clen⟩ := pok.2 cs hp
    refine ⟨fun _ => ?_, fun q => absurd rfl q⟩
    have loop : ∀ (k n : Nat) (Y : mY) (cs2 : List mCl) (u2 : mW), n + k = cs.length → cs.drop n = cs2 → yOK Y → csOK Y.1 cs2 → y_all Y cs2 = y_all Z.1 cs → mFr s22b u u2 → yX Y u2 → mG X E MX8_city 20 [.ref 0, .int (nI n)] [] u2 := by
      intro k
      induction k with
      | zero =>
        intro n Y cs2 u2 hn hd hY hcs hall fu2 hcy
        have e3' : u2.1 22 3 = nI cs.length := by rw [(fu2 22 3 (by unfold s22b; omega)).1]; exact e3
        refine vX8_city_20 C F _ ?_
        rw [e3', hcy.2]
        refine ⟨fun _ => ?_, fun q => absurd (nI_le (by omega) (by omega)) q⟩
        refine (k_X2_begin _).mono ?_
        rintro u4 hu4
        have eY : y_all Z.1 cs = Y := by rw [← hall, ← hd, List.drop_eq_nil_of_le (by omega)]; rfl
        have f4 : mFr (fun c k => c = 39 ∧ ¬ k = 5) u2 u4 := by
          rw [hu4]
          exact ((((mFr.pi (S := fun c k => c = 39 ∧ ¬ k = 5) (by omega)).tr (mFr.pl (S := fun c k => c = 39 ∧ ¬ k = 5) (by omega))).tr (mFr.pi (S := fun c k => c = 39 ∧ ¬ k = 5) (by omega))).tr (mFr.pi (S := fun c k => c = 39 ∧ ¬ k = 5) (by omega))).tr (mFr.pi (S := fun c k => c = 39 ∧ ¬ k = 5) (by omega))
        have t0 : u4.1 39 0 = y_told Y := by rw [hu4]; simp [mPI, mPL]; rfl
        have t1 : u4.1 39 1 = 0 := by rw [hu4]; simp [mPI, mPL]
        have t2 : u4.1 39 2 = 0 := by rw [hu4]; simp [mPI, mPL]
        have t3 : u4.2 39 3 = 0 := by rw [hu4]; simp [mPI, mPL]
        have t4 : u4.1 39 4 = 0 := by rw [hu4]; simp [mPI, mPL]
        clear hu4
        have f5 : mFr (fun c k => (c = 43 ∧ k = 0) ∨ (c = 22 ∧ k = 1)) u4 (mPI (mPI u4 43 0 0) 22 1 0) := (mFr.pi (S := fun c k => (c = 43 ∧ k = 0) ∨ (c = 22 ∧ k = 1)) (Or.inl ⟨rfl, rfl⟩)).tr (mFr.pi (S := fun c k => (c = 43 ∧ k = 0) ∨ (c = 22 ∧ k = 1)) (Or.inr ⟨rfl, rfl⟩))
        have g : ∀ k, (mPI (mPI u4 43 0 0) 22 1 0).1 39 k = u4.1 39 k := fun k => (f5 39 k (by omega)).1
        obtain ⟨-, ⟨-, nn, n8, n5, -⟩, -, -⟩ := hu.2.1
        rw [oo]
        refine ⟨_, rfl, ?_, ⟨?_, ⟨⟨?_, ?_, ?_⟩, ⟨?_, nn, n8, ?_, fun i hi => absurd hi (Nat.not_lt_zero _)⟩, ?_, fun k y hk hy => absurd hy (by simp)⟩, ⟨mPI_at _ _ _ _, fun i hi => absurd hi (Nat.not_lt_zero _)⟩, ⟨?_, fun i hi => absurd hi (Nat.not_lt_zero _)⟩⟩, ?_⟩
        · rw [(f4 22 3 (by omega)).1]; exact e3'
        · show yX (y_all Z.1 cs) _
          rw [eY]; exact (hcy.fr hY.1 f4 (fun c k q => by omega)).fr hY.1 f5 (fun c k q => by omega)
        · show _ = y_told (y_all Z.1 cs)
          rw [g, t0, eY]
        · rw [g, t1]
        · exact ((f5 39 3 (by omega)).2).trans t3
        · rw [g, t2]; rfl
        · rw [g, (f4 39 5 (by omega)).1, (fu2 39 5 (by unfold s22b; omega)).1]; exact n5
        · rw [g, t4]; rfl
        · rw [mPI_row (by omega), mPI_at]; rfl
        · refine (f.mono (fun c k q => xSc60 c k (fSx c k q))).tr ((fu2.mono ?_).tr ((f4.mono ?_).tr (f5.mono ?_)))
          · intro c k q; unfold s22b at q; unfold s60b; omega
          · intro c k q; unfold s60b; omega
          · intro c k q; unfold s60b; omega
      | succ k ih =>
        intro n Y cs2 u2 hn hd hY hcs hall fu2 hcy
        have e3' : u2.1 22 3 = nI cs.length := by rw [(fu2 22 3 (by unfold s22b; omega)).1]; exact e3
        have edr : cs.drop n = cs.getD n (0, []) :: cs.drop (n + 1) := by
          rw [List.drop_eq_getElem_cons (by omega), List.getD_eq_getElem?_getD, List.getElem?_eq_getElem (by omega)]; rfl
        rw [← hd, edr] at hcs hall
        refine vX8_city_20 C F _ ?_
        rw [e3', nI_clamp (by omega)]
        refine ⟨fun q => absurd q (nI_ge (by omega) (by omega)), fun _ => ⟨vp_in_nI (by omega) (by omega), (k_X1_add hY hcy hcs.1 (shrow (by omega)) (by omega) ((hrow n (by omega)).fr fu2 (fun k q => by unfold s22b at q; omega))).mono ?_⟩⟩
        rintro u3 ⟨hcy3, f3⟩
        rw [nI_1]
        exact ih (n + 1) (y_add Y (cs.getD n (0, []))) (cs.drop (n + 1)) u3 (by omega) rfl (y_add_ok hY hcs.1) (by rw [y_add_cnt Y hcs.1]; exact hcs.2) hall (fu2.tr f3) hcy3
    exact loop cs.length 0 Z.1 cs u (by omega) rfl ⟨hz.1, hz.2.1⟩ cok rfl mFr.rf hu.1
end CC
