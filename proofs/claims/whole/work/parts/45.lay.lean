/-! ===== CONTRACTS: the reference: the best sentence ===== -/
def lS : Nat → Nat → Prop := fun c k => (c = 60 ∧ 29 ≤ k ∧ k ≤ 36) ∨ ((c = 67 ∨ c = 68) ∧ k < 32)
def q_m3 (w : mW) : mT3 := (w.1 60 34, w.1 60 35, w.1 60 36)
theorem q_evb : ∀ n : Nat, n ≤ 5 → ((1 : Int32) <<< (nI n &&& 31)) - 1 = nI (2 ^ n - 1) := by decide
theorem lS_cy : ∀ c k, lS c k → ¬ mCy c k := fun c k h => by unfold lS at h; unfold mCy; omega
theorem lS_c67 : ∀ c k, cS 67 c k → lS c k := fun c k h => by unfold cS at h; unfold lS; omega
theorem lS_c68 : ∀ c k, cS 68 c k → lS c k := fun c k h => by unfold cS at h; unfold lS; omega
theorem lS_s60 : ∀ c k, s60 c k → lS c k := fun c k h => by unfold s60 at h; unfold lS; omega
theorem c67_cy : ∀ c k, cS 67 c k → ¬ mCy c k := fun c k h => lS_cy c k (lS_c67 c k h)
theorem c68_cy : ∀ c k, cS 68 c k → ¬ mCy c k := fun c k h => lS_cy c k (lS_c68 c k h)
theorem s60_cy : ∀ c k, s60 c k → ¬ mCy c k := fun c k h => lS_cy c k (lS_s60 c k h)
theorem c67_s : ∀ c k, cS 67 c k → ¬ s60 c k := fun c k h => by unfold cS at h; unfold s60; omega
theorem c68_s : ∀ c k, cS 68 c k → ¬ s60 c k := fun c k h => by unfold cS at h; unfold s60; omega
theorem q_46 {v : Nat} (hv : v < 2 ^ 31) : ((46000 : Int32) ≤ nI v) = (46000 ≤ v) := by rw [show (46000 : Int32) = nI 46000 from rfl, nI_leI (by omega) hv]
theorem q_dm_k {v : Nat} (hv : v < 46000) : (q_dm v).1 < 5 := by unfold q_dm; dsimp only; omega
section K9b
variable {E : mEnv} {w : mW} {Y : mY} {t d : Int32} {M : Int64}
theorem snM.keep {a : Nat} {T : Nat → Nat → Prop} {u : mW} (h : snM (w.1 a) t d M) (f : mFr T w u) (hT : ∀ k, ¬ T a k) : snM (u.1 a) t d M := h.fr (fun k _ => (f a k (hT k)).1)
theorem l_X9_best1 {X : mX} {Qm : Option Value → mW → Prop} (C : mCtx X E MX9_layBest) (F : mFin X E MX9_layBest Qm) {a : Nat} (ha : mSh[a]? = some (.inl (0, 32, []))) (ha7 : a ≠ 67) (ha8 : a ≠ 68) (hk : cyOK Y) (hM : q_ok M) {j0 : Nat} (hj0 : j0 < 9200) (hv : q_vm Y.1.1 (q_dm (q_vj j0)) = true) (st : mT3) (w0 : mW)
    (hK : ∀ u, cyM Y u → snM (u.1 a) t d M → mFr lS w0 u → q_m3 u = q_bst Y M t st (q_toS (q_dm (q_vj j0))) → mG X E MX9_layBest 44 [.ref 60, .ref a, .int (nI (q_vj (j0 + 1))), .retAddr 0, .retAddr 0] [] u) :
    ∀ k j : Nat, j + k = 2 ^ Y.1.2.1 - 1 → ∀ w, cyM Y w → snM (w.1 a) t d M → q_Sm w = q_toS (q_dm (q_vj j0)) → mFr lS w0 w → q_m3 w = q_bs Y M t (q_toS (q_dm (q_vj j0))) st j →
      mG X E MX9_layBest 64 [.ref 60, .ref a, .int (nI (q_vj j0)), .int (nI (j + 1)), .retAddr 0] [] w := by
  have h32 := q_pow32 hk.2.1
  have hpos : 0 < 2 ^ Y.1.2.1 := Nat.pow_pos (by omega)
  have hn := q_arr ha
  have hvl : q_vj j0 < 46000 := by unfold q_vj; omega
  have hok := q_vm_ok hk.1 (q_dm_k hvl) hv
  have nl : ∀ k, ¬ lS a k := fun k h => by unfold lS at h; omega
  intro k
  induction k with
  | zero =>
    intro j hj w hY hs hS hf h3
    refine vX9_layBest_64 C F ha _ _ ?_
    refine k_X9_everybody.mono ?_
    rintro v u ⟨rfl, rfl⟩
    rw [hY.2.1, q_evb _ hk.2.1]
    refine ⟨fun _ => (k_X9_nextNumber hj0).mono ?_, fun h => absurd (nI_lt (by omega) (by omega)) h⟩
    rintro v u2 ⟨rfl, rfl⟩
    refine hK u2 hY hs hf ?_
    rw [h3, show j = 2 ^ Y.1.2.1 - 1 by omega]; rfl
  | succ k ih =>
    intro j hj w hY hs hS hf h3
    refine vX9_layBest_64 C F ha _ _ ?_
    refine k_X9_everybody.mono ?_
    rintro v u ⟨rfl, rfl⟩
    rw [hY.2.1, q_evb _ hk.2.1]
    refine ⟨fun h => absurd h (by rw [nI_ltI (by omega) (by omega)]; omega), fun _ => (k_X9_isSo ha ha8 hY hk hM hs hok hS _).mono ?_⟩
    rintro v u2 ⟨rfl, f2⟩
    have hY2 := hY.fr f2 c68_cy
    have hs2 := hs.keep f2 (fun k h => nl k (lS_c68 _ _ h))
    have hS2 := (q_Sm_fr f2 c68_s).trans hS
    have hf2 := hf.tr (f2.mono lS_c68)
    have h32' : q_m3 u2 = q_bs Y M t (q_toS (q_dm (q_vj j0))) st j := by
      rw [← h3]; unfold q_m3; rw [(f2 60 34 (by unfold cS; omega)).1, (f2 60 35 (by unfold cS; omega)).1, (f2 60 36 (by unfold cS; omega)).1]
    rw [q_b0, nI_1]
    refine ⟨fun hz => ih (j + 1) (by omega) u2 hY2 hs2 hS2 hf2 ?_, fun hz => ?_⟩
    · rw [h32', q_bs, if_neg (fun q => by rw [hz] at q; exact absurd q.1 (by decide))]
    · have hz := (Bool.not_eq_false _).mp hz
      refine f_try ha sh67 ha7 hY2 hk hM hs2 hok hS2 _ (fun u3 f3 e0 _ => ?_)
      have hY3 := hY2.fr f3 c67_cy
      have hs3 := hs2.keep f3 (fun k h => nl k (lS_c67 _ _ h))
      have hS3 := (q_Sm_fr f3 c67_s).trans hS2
      have hf3 := hf2.tr (f3.mono lS_c67)
      have h33 : q_m3 u3 = q_bs Y M t (q_toS (q_dm (q_vj j0))) st j := by
        rw [← h32']; unfold q_m3; rw [(f3 60 34 (by unfold cS; omega)).1, (f3 60 35 (by unfold cS; omega)).1, (f3 60 36 (by unfold cS; omega)).1]
      refine (k_X9_sumOf hY3 hk _).mono ?_
      rintro v u4 ⟨rfl, rfl⟩
      rw [e0, show u4.1 60 34 = (q_bs Y M t (q_toS (q_dm (q_vj j0))) st j).1 by rw [← h33]; rfl]
      refine ⟨fun hle => ih (j + 1) (by omega) u4 hY3 hs3 hS3 hf3 ?_, fun hle => ?_⟩
      · rw [h33, q_bs, if_neg (fun q => absurd hle (Int32.not_le.mpr q.2))]
      · have fp : ∀ x y z : Int32, mFr (fun c k => c = 60 ∧ 34 ≤ k ∧ k ≤ 36) u4 (mPI (mPI (mPI u4 60 34 x) 60 35 y) 60 36 z) := fun x y z => ((mFr.pi (S := fun c k => c = 60 ∧ 34 ≤ k ∧ k ≤ 36) (by omega)).tr (mFr.pi (S := fun c k => c = 60 ∧ 34 ≤ k ∧ k ≤ 36) (by omega))).tr (mFr.pi (S := fun c k => c = 60 ∧ 34 ≤ k ∧ k ≤ 36) (by omega))
        refine ih (j + 1) (by omega) _ (hY3.fr (fp _ _ _) (fun c k h => by unfold mCy; omega)) (hs3.keep (fp _ _ _) (fun k h => hn.1 h.1)) ((q_Sm_fr (fp _ _ _) (fun c k h => by unfold s60; omega)).trans hS3) (hf3.tr ((fp _ _ _).mono (fun c k h => by unfold lS; omega))) ?_
        rw [q_bs, if_pos ⟨hz, Int32.not_le.mp hle⟩]
        simp [q_m3, mPI, q_nm_dm, q_sx]
theorem l_X9_best {X : mX} {Qm : Option Value → mW → Prop} (C : mCtx X E MX9_layBest) (F : mFin X E MX9_layBest Qm) {a : Nat} (ha : mSh[a]? = some (.inl (0, 32, []))) (ha7 : a ≠ 67) (ha8 : a ≠ 68) (hk : cyOK Y) (hM : q_ok M) (s0 : mT3) (w0 : mW)
    (hK : ∀ u, mFr lS w0 u → q_m3 u = q_fo (fun j => q_vm Y.1.1 (q_dm (q_vj j))) (fun st j => q_bst Y M t st (q_toS (q_dm (q_vj j)))) s0 9200 → Qm none u) :
    ∀ k j : Nat, j + k = 9200 → ∀ w, cyM Y w → snM (w.1 a) t d M → mFr lS w0 w → q_m3 w = q_fo (fun j => q_vm Y.1.1 (q_dm (q_vj j))) (fun st j => q_bst Y M t st (q_toS (q_dm (q_vj j)))) s0 j →
      mG X E MX9_layBest 44 [.ref 60, .ref a, .int (nI (q_vj j)), .retAddr 0, .retAddr 0] [] w := by
  have hpos : 0 < 2 ^ Y.1.2.1 := Nat.pow_pos (by omega)
  have hn := q_arr ha
  have nl : ∀ k, ¬ lS a k := fun k h => by unfold lS at h; omega
  intro k
  induction k with
  | zero =>
    intro j hj w hY hs hf h3
    have e : q_vj j = 46000 := by unfold q_vj; omega
    refine vX9_layBest_44 C F ha _ ?_
    rw [q_46 (by omega)]
    exact ⟨fun _ => hK w hf (by rw [h3, show j = 9200 by omega]), fun h => absurd (by omega) h⟩
  | succ k ih =>
    intro j hj w hY hs hf h3
    have hvl : q_vj j < 46000 := by unfold q_vj; omega
    refine vX9_layBest_44 C F ha _ ?_
    rw [q_46 (by omega)]
    refine ⟨fun h => absurd h (by omega), fun _ => (k_X9_isSentence hY hk hvl).mono ?_⟩
    rintro v u ⟨rfl, f1, hS⟩
    have hY1 := hY.fr f1 s60_cy
    have hs1 := hs.keep f1 (fun k h => nl k (lS_s60 _ _ h))
    have hf1 := hf.tr (f1.mono lS_s60)
    have h31 : q_m3 u = q_fo (fun j => q_vm Y.1.1 (q_dm (q_vj j))) (fun st j => q_bst Y M t st (q_toS (q_dm (q_vj j)))) s0 j := by
      rw [← h3]; unfold q_m3; rw [(f1 60 34 (by unfold s60; omega)).1, (f1 60 35 (by unfold s60; omega)).1, (f1 60 36 (by unfold s60; omega)).1]
    rw [q_b0]
    refine ⟨fun hv => ?_, fun hv => (k_X9_nextNumber (by omega)).mono ?_⟩
    · have hv := (Bool.not_eq_false _).mp hv
      refine l_X9_best1 C F ha ha7 ha8 hk hM (by omega) hv (q_m3 u) w0 (fun u2 b1 b2 b3 b4 => ih (j + 1) (by omega) u2 b1 b2 b3 ?_) (2 ^ Y.1.2.1 - 1) 0 (by omega) u hY1 hs1 hS hf1 rfl
      rw [b4, h31, q_fo, if_pos hv]
    · rintro v u2 ⟨rfl, rfl⟩
      refine ih (j + 1) (by omega) u2 hY1 hs1 hf1 ?_
      rw [h31, q_fo, if_neg (by rw [hv]; decide)]
theorem k_X9_layBest {a : Nat} (ha : mSh[a]? = some (.inl (0, 32, []))) (ha7 : a ≠ 67) (ha8 : a ≠ 68) (hY : cyM Y w) (hk : cyOK Y) (hM : q_ok M) (hs : snM (w.1 a) t d M) :
    mMv E MX9_layBest [.ref 60, .ref a] w (fun u => mFr lS w u ∧ q_m3 u = q_best Y M t) := by
  have hn := q_arr ha
  have nl : ∀ k, ¬ lS a k := fun k h => by unfold lS at h; omega
  unfold mMv
  refine mM_start rfl (Nat.le_of_ble_eq_true rfl) rfl (fun X C F => vX9_layBest_0 C F ha ?_)
  refine f_try0 ha sh67 ha7 hY hk hs (fun u fu e0 _ => ?_)
  have hY1 := hY.fr fu c67_cy
  have hs1 := hs.keep fu (fun k h => nl k (lS_c67 _ _ h))
  refine (k_X9_sumOf hY1 hk _).mono ?_
  rintro v u4 ⟨rfl, rfl⟩
  rw [e0]
  have fp : ∀ x y z : Int32, mFr (fun c k => c = 60 ∧ 34 ≤ k ∧ k ≤ 36) u4 (mPI (mPI (mPI u4 60 34 x) 60 35 y) 60 36 z) := fun x y z => ((mFr.pi (S := fun c k => c = 60 ∧ 34 ≤ k ∧ k ≤ 36) (by omega)).tr (mFr.pi (S := fun c k => c = 60 ∧ 34 ≤ k ∧ k ≤ 36) (by omega))).tr (mFr.pi (S := fun c k => c = 60 ∧ 34 ≤ k ∧ k ≤ 36) (by omega))
  refine l_X9_best C F ha ha7 ha8 hk hM (q_s0 Y M t, -1, 0) w (fun u b1 b2 => ⟨rfl, b1, ?_⟩) 9200 0 (by omega) _ (hY1.fr (fp _ _ _) (fun c k h => by unfold mCy; omega)) (hs1.keep (fp _ _ _) (fun k h => hn.1 h.1)) ((fu.mono lS_c67).tr ((fp _ _ _).mono (fun c k h => by unfold lS; omega))) ?_
  · rw [b2]
    exact (q_fo_all (fun st n => q_bst Y M t st (q_toS n)) (q_s0 Y M t, -1, 0) hk.1).symm
  · simp [q_m3, mPI, q_fo, q_s0]
end K9b
