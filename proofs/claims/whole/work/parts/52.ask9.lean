/-! ===== THE REFERENCE'S CALLS that change nothing ===== -/
theorem b_t {p : Prop} [Decidable p] (h : ¬ decide p = false) : p := of_decide_eq_true ((Bool.not_eq_false _).mp h)
theorem i_bit_of {b : Int32} (h : i_bit b) : ∃ k : Nat, k < 2 ∧ b = nI k := by
  rcases h with rfl | rfl
  · exact ⟨0, by omega, rfl⟩
  · exact ⟨1, by omega, rfl⟩
theorem nn0 {p : Prop} (h : p) : ¬ ¬ p := fun q => q h
theorem bar_ok {n : Nat} (hn : n ≤ 6) {k f b g c : Int32} (h : 0 ≤ q_bar n k f b g c) : ∃ m : mN5, q_toS m = q_Sx k f b g c ∧ q_sok m ∧ q_vs n m = true := by
  have m2 : ¬ (0 : Int32) ≤ -2 := by decide
  have m3 : ¬ (0 : Int32) ≤ -3 := by decide
  unfold q_bar at h
  by_cases h1 : ¬ k < 0 ∧ ¬ 4 < k
  · rw [if_neg (nn0 h1)] at h
    by_cases h2 : ¬ f < 0 ∧ ¬ nI n ≤ f
    · rw [if_neg (nn0 h2)] at h
      obtain ⟨kk, hkk, rfl⟩ := i_in (m := 4) (by omega) h1
      obtain ⟨ff, hff, rfl⟩ := nI_of h2.1
      have lf : ff < n := Nat.lt_of_not_le (fun q => h2.2 (nI_le q (by omega)))
      have k0 : nI kk = 0 ↔ kk = 0 := nI_eq (b := 0) (by omega) (by omega)
      have k4 : nI kk = 4 ↔ kk = 4 := nI_eq (b := 4) (by omega) (by omega)
      by_cases hp : nI kk = 0 ∨ nI kk = 4
      · rw [if_pos hp] at h
        have hp2 : kk = 0 ∨ kk = 4 := by rw [← k0, ← k4]; exact hp
        by_cases hb : b = 0 ∨ b = 1
        · obtain ⟨bb, hbb, rfl⟩ := i_bit_of hb
          refine ⟨(kk, ff, bb, 0, 0), ?_, ⟨by dsimp only; omega, by dsimp only; omega, hbb, by dsimp only; omega, by dsimp only; omega, fun q => by dsimp only at q; omega⟩, ?_⟩
          · unfold q_Sx; rw [if_pos hp]; rfl
          · rw [q_vs_iff]; refine ⟨lf, ?_⟩; rw [if_neg (by dsimp only; omega)]; exact ⟨rfl, rfl⟩
        · rw [if_neg hb] at h; exact absurd h m3
      · rw [if_neg hp] at h
        have hp2 : kk = 1 ∨ kk = 2 ∨ kk = 3 := by rw [k0, k4] at hp; omega
        by_cases h3 : ¬ g < 0 ∧ ¬ nI n ≤ g
        · rw [if_neg (nn0 h3)] at h
          obtain ⟨gg, hgg, rfl⟩ := nI_of h3.1
          have lg : gg < n := Nat.lt_of_not_le (fun q => h3.2 (nI_le q (by omega)))
          by_cases h4 : nI gg = nI ff
          · rw [if_pos h4] at h; exact absurd h m2
          · rw [if_neg h4] at h
            by_cases hb : b = 0 ∨ b = 1
            · rw [if_neg (nn0 hb)] at h
              by_cases hc : c = 0 ∨ c = 1
              · obtain ⟨bb, hbb, rfl⟩ := i_bit_of hb
                obtain ⟨cc, hcc, rfl⟩ := i_bit_of hc
                have ne : ¬ gg = ff := fun q => h4 (by rw [q])
                refine ⟨(kk, ff, bb, gg, cc), ?_, ⟨by dsimp only; omega, by dsimp only; omega, hbb, by dsimp only; omega, hcc, fun _ => ne⟩, ?_⟩
                · unfold q_Sx; rw [if_neg hp]; rfl
                · rw [q_vs_iff]; refine ⟨lf, ?_⟩; rw [if_pos hp2]; exact ⟨lg, ne⟩
              · rw [if_neg hc] at h; exact absurd h m3
            · rw [if_pos hb] at h; exact absurd h m3
        · rw [if_pos h3] at h; exact absurd h m2
    · rw [if_pos h2] at h; exact absurd h m2
  · rw [if_pos h1] at h; exact absurd h m3
section M9
variable {E : mEnv} {w : mW} {Z : mZ}
theorem zM.now (h : zM Z w) : snM (w.1 66) Z.2.1.1 Z.2.1.2.1 Z.2.1.2.2 := h.2.1
theorem m_fact (hz : zOK Z) (h : zM Z w) (f what : Int32) : mMi E MX9_fact [.ref 60, .int f, .int what] w (fun v u => v = r_fact Z f what ∧ mFr mSc w u) := by
  have h6 := hz.1.1
  unfold mMi
  refine mM_start rfl (Nat.le_of_ble_eq_true rfl) rfl (fun X C F => vX9_fact_0 C F _ _ ?_)
  refine (k_X9_isFact h.1 hz.1 f).mono ?_
  rintro v u ⟨rfl, rfl⟩
  rw [q_b0]
  refine ⟨fun h1 => ?_, fun h1 => ⟨_, rfl, by rw [r_fact, if_pos (of_decide_eq_false h1)], mFr.rf⟩⟩
  have h1 := b_t h1
  refine ⟨fun h2 => (k_X9_in _ _ _).mono ?_, fun h2 => ⟨_, rfl, ?_, mFr.rf⟩⟩
  · rintro v u ⟨rfl, rfl⟩
    rw [q_b0]
    refine ⟨fun h3 => ⟨_, rfl, ?_, mFr.rf⟩, fun h3 => ?_⟩
    · rw [r_fact, if_neg (nn0 h1), if_neg h2, if_neg (fun q => of_decide_eq_false h3 ((q_bit what).mpr q))]
    · have h3 := (q_bit what).mp (b_t h3)
      have rr : r_fact Z f what = Z.1.2.1 f.toNatClampNeg what.toNatClampNeg := by rw [r_fact, if_neg (nn0 h1), if_neg h2, if_pos h3]
      rw [rr]
      obtain ⟨i, hi, rfl⟩ := i_fact_of hz.1 h1
      obtain ⟨k, hk, rfl⟩ := i_bit_of h3
      rw [q_3p, nI_add, nI_clamp (by omega), nI_clamp (by omega), nI_clamp (by omega)]
      exact ⟨vp_in_nI (by omega) (by omega), _, rfl, h.1.2.2.2.1 i k hi (by omega), mFr.rf⟩
  · rw [r_fact, if_neg (nn0 h1), if_pos h2, h.2.1.1]; rfl
theorem m_one (hz : zOK Z) (h : zM Z w) (p what : Int32) : mMi E MX9_one [.ref 60, .int p, .int what] w (fun v u => v = r_one Z p what ∧ mFr mSc w u) := by
  have h5 := hz.1.2.1
  unfold mMi
  refine mM_start rfl (Nat.le_of_ble_eq_true rfl) rfl (fun X C F => vX9_one_0 C F _ _ ?_)
  refine (k_X9_isOne h.1 hz.1 p).mono ?_
  rintro v u ⟨rfl, rfl⟩
  rw [q_b0]
  refine ⟨fun h1 => (k_X9_in _ _ _).mono ?_, fun h1 => ⟨_, rfl, by rw [r_one, if_pos (of_decide_eq_false h1)], mFr.rf⟩⟩
  have h1 := b_t h1
  rintro v u ⟨rfl, rfl⟩
  rw [q_b0]
  refine ⟨fun h3 => ⟨_, rfl, by rw [r_one, if_neg (nn0 h1), if_pos (of_decide_eq_false h3)], mFr.rf⟩, fun h3 => ?_⟩
  have h3 := b_t h3
  have rr : r_one Z p what = Z.1.2.2.1 p.toNatClampNeg what.toNatClampNeg := by rw [r_one, if_neg (nn0 h1), if_neg (nn0 h3)]
  rw [rr]
  obtain ⟨i, hi, rfl⟩ := i_one_of hz.1 h1
  obtain ⟨k, hk, rfl⟩ := i_in (m := 5) (by omega) h3
  rw [q_6p, nI_add, nI_clamp (by omega), nI_clamp (by omega), nI_clamp (by omega)]
  exact ⟨vp_in_nI (by omega) (by omega), _, rfl, h.1.2.2.2.2.1 i k hi (by omega), mFr.rf⟩
theorem m_cause (hz : zOK Z) (h : zM Z w) (p what : Int32) : mMi E MX9_cause [.ref 60, .int p, .int what] w (fun v u => v = r_cause Z p what ∧ mFr mSc w u) := by
  have h5 := hz.1.2.2.1
  unfold mMi
  refine mM_start rfl (Nat.le_of_ble_eq_true rfl) rfl (fun X C F => vX9_cause_0 C F _ _ ?_)
  rw [h.1.2.2.1]
  refine (k_X9_in _ _ _).mono ?_
  rintro v u ⟨rfl, rfl⟩
  rw [q_b0]
  have e : (¬ p < 0 ∧ ¬ nI Z.1.1.2.2 - 1 < p) ↔ (¬ p < 0 ∧ ¬ nI Z.1.1.2.2 ≤ p) := by rw [q_m1 h5]
  refine ⟨fun h1 => (k_X9_in _ _ _).mono ?_, fun h1 => ⟨_, rfl, by rw [r_cause, if_pos (fun q => of_decide_eq_false h1 (e.mpr q))], mFr.rf⟩⟩
  have h1 := e.mp (b_t h1)
  rintro v u ⟨rfl, rfl⟩
  rw [q_b0]
  refine ⟨fun h3 => ⟨_, rfl, by rw [r_cause, if_neg (nn0 h1), if_pos (of_decide_eq_false h3)], mFr.rf⟩, fun h3 => ?_⟩
  have h3 := b_t h3
  have rr : r_cause Z p what = Z.1.2.2.2 p.toNatClampNeg what.toNatClampNeg := by rw [r_cause, if_neg (nn0 h1), if_neg (nn0 h3)]
  rw [rr]
  obtain ⟨i, hi, rfl⟩ := nI_of h1.1
  have li : i < Z.1.1.2.2 := Nat.lt_of_not_le (fun q => h1.2 (nI_le q (by omega)))
  obtain ⟨k, hk, rfl⟩ := i_in (m := 3) (by omega) h3
  rw [q_4p, nI_add, nI_clamp (by omega), nI_clamp (by omega), nI_clamp (by omega)]
  exact ⟨vp_in_nI (by omega) (by omega), _, rfl, h.1.2.2.2.2.2 i k li (by omega), mFr.rf⟩
theorem m_belief (hz : zOK Z) (h : zM Z w) (p f : Int32) : mMi E MX9_belief [.ref 60, .int p, .int f] w (fun v u => v = r_belief Z p f ∧ mFr mSc w u) := by
  have h5 := hz.1.2.1
  have h6 := hz.1.1
  unfold mMi
  refine mM_start rfl (Nat.le_of_ble_eq_true rfl) rfl (fun X C F => vX9_belief_0 C F _ _ ?_)
  refine (k_X9_isOne h.1 hz.1 p).mono ?_
  rintro v u ⟨rfl, rfl⟩
  rw [q_b0]
  refine ⟨fun h1 => ⟨_, rfl, by rw [r_belief, if_pos (of_decide_eq_false h1)], mFr.rf⟩, fun h1 => (k_X9_isFact h.1 hz.1 f).mono ?_⟩
  have h1 := b_t h1
  rintro v u ⟨rfl, rfl⟩
  rw [q_b0]
  refine ⟨fun h3 => ⟨_, rfl, by rw [r_belief, if_neg (nn0 h1), if_pos (of_decide_eq_false h3)], mFr.rf⟩, fun h3 => ?_⟩
  have h3 := b_t h3
  have rr : r_belief Z p f = q_bel (q_mo Z.2.1.2.2 p) f.toNatClampNeg := by rw [r_belief, if_neg (nn0 h1), if_neg (nn0 h3)]
  rw [rr]
  obtain ⟨i, hi, rfl⟩ := i_one_of hz.1 h1
  obtain ⟨k, hk, rfl⟩ := i_fact_of hz.1 h3
  rw [q_6p, show (2 : Int32) + nI (6 * i) = nI (2 + 6 * i) from q_k 2 _, nI_add, nI_clamp (by omega), nI_clamp (by omega)]
  exact ⟨vp_in_nI (by omega) (by omega), _, rfl, h.now.2.2 i k (by omega) (by omega), mFr.rf⟩
theorem m_as (hz : zOK Z) (h : zM Z w) (p k : Int32) : mMi E MX9_as [.ref 60, .int p, .int k] w (fun v u => v = r_as Z p k ∧ mFr mSc w u) := by
  have h5 := hz.1.2.1
  unfold mMi
  refine mM_start rfl (Nat.le_of_ble_eq_true rfl) rfl (fun X C F => vX9_as_0 C F _ _ ?_)
  refine (k_X9_isOne h.1 hz.1 p).mono ?_
  rintro v u ⟨rfl, rfl⟩
  rw [q_b0]
  refine ⟨fun h1 => (k_X9_in _ _ _).mono ?_, fun h1 => ⟨_, rfl, by rw [r_as, if_pos (of_decide_eq_false h1)], mFr.rf⟩⟩
  have h1 := b_t h1
  rintro v u ⟨rfl, rfl⟩
  rw [q_b0]
  refine ⟨fun h3 => ?_, fun h3 => ⟨_, rfl, by rw [r_as, if_neg (nn0 h1), if_pos (of_decide_eq_false h3)], mFr.rf⟩⟩
  have h3 := b_t h3
  have rr : r_as Z p k = if q_as (Z.1.2.2.1 p.toNatClampNeg 0) k = true then q_b (q_tr (Z.1.2.2.1 p.toNatClampNeg)) else -4 := by rw [r_as, if_neg (nn0 h1), if_neg (nn0 h3)]
  obtain ⟨i, hi, rfl⟩ := i_one_of hz.1 h1
  rw [nI_clamp (by omega)] at rr
  refine (k_X9_kindOf (by omega)).mono ?_
  rintro v u ⟨rfl, rfl⟩
  rw [show u.1 62 (6 * i) = Z.1.2.2.1 i 0 from h.1.2.2.2.2.1 i 0 hi (by omega)]
  have ye : q_as (Z.1.2.2.1 i 0) k = true → mMi E MX9_trusts [.ref 60, .int (nI i)] u (fun v4 u4 => (v4 = 0 → ∃ v : Int32, (some (Value.int 0) : Option Value) = some (.int v) ∧ v = r_as Z (nI i) k ∧ mFr mSc u u4) ∧ (¬ v4 = 0 → ∃ v : Int32, (some (Value.int 1) : Option Value) = some (.int v) ∧ v = r_as Z (nI i) k ∧ mFr mSc u u4)) := by
    intro hq
    rw [rr, if_pos hq]
    refine (k_X9_trusts h.1 hz.1 hi).mono ?_
    rintro v u ⟨rfl, rfl⟩
    rw [q_b0]
    exact ⟨fun z => ⟨_, rfl, by rw [z]; rfl, mFr.rf⟩, fun z => ⟨_, rfl, by rw [(Bool.not_eq_false _).mp z]; rfl, mFr.rf⟩⟩
  have no : q_as (Z.1.2.2.1 i 0) k = false → ∃ v : Int32, (some (Value.int (-4)) : Option Value) = some (.int v) ∧ v = r_as Z (nI i) k ∧ mFr mSc u u := fun hq => ⟨_, rfl, by rw [rr, if_neg (by rw [hq]; decide)], mFr.rf⟩
  refine ⟨fun z => ye (by unfold q_as; rw [decide_eq_true z]; rfl), fun z => ⟨fun z1 => ⟨fun z2 => ⟨fun z3 => no ?_, fun z3 => ye ?_⟩, fun z2 => ⟨fun z3 => no ?_, fun z3 => ye ?_⟩⟩, fun z1 => ⟨fun z3 => no ?_, fun z3 => ye ?_⟩⟩⟩
  · unfold q_as; rw [decide_eq_false z, if_neg z1, if_neg z2, decide_eq_false z3]; rfl
  · unfold q_as; rw [decide_eq_false z, if_neg z1, if_neg z2, decide_eq_true z3]; rfl
  · unfold q_as; rw [decide_eq_false z, if_neg z1, if_pos z2, decide_eq_false z3]; rfl
  · unfold q_as; rw [decide_eq_false z, if_neg z1, if_pos z2, decide_eq_true z3]; rfl
  · unfold q_as; rw [decide_eq_false z, if_pos z1, decide_eq_true z3]; rfl
  · unfold q_as; rw [decide_eq_false z, if_pos z1, decide_eq_false z3]; rfl
theorem m_sayingAs (s k : Int32) : mMi E MX9_sayingAs [.ref 60, .int s, .int k] w (fun v u => v = r_sayingAs s k ∧ mFr mSc w u) := by
  unfold mMi
  refine mM_start rfl (Nat.le_of_ble_eq_true rfl) rfl (fun X C F => vX9_sayingAs_0 C F _ _ ?_)
  refine (k_X9_in _ _ _).mono ?_
  rintro v u ⟨rfl, rfl⟩
  rw [q_b0]
  refine ⟨fun h1 => ⟨_, rfl, by rw [r_sayingAs, if_pos (of_decide_eq_false h1)], mFr.rf⟩, fun h1 => (k_X9_in _ _ _).mono ?_⟩
  have h1 := b_t h1
  rintro v u ⟨rfl, rfl⟩
  rw [q_b0]
  refine ⟨fun h3 => ?_, fun h3 => ⟨_, rfl, by rw [r_sayingAs, if_neg (nn0 h1), if_pos (of_decide_eq_false h3)], mFr.rf⟩⟩
  have h3 := b_t h3
  have rr : r_sayingAs s k = if q_sa s k = true then (if s = 0 ∨ s = 4 then 1 else 2) else -4 := by rw [r_sayingAs, if_neg (nn0 h1), if_neg (nn0 h3)]
  have fin : ∀ c : Int32, c = (if q_sa s k = true then (if s = 0 ∨ s = 4 then 1 else 2) else -4) → ∃ v : Int32, (some (Value.int c) : Option Value) = some (.int v) ∧ v = r_sayingAs s k ∧ mFr mSc u u := fun c hc => ⟨_, rfl, by rw [rr]; exact hc, mFr.rf⟩
  unfold q_sa at fin
  clear rr h1 h3 F C
  repeat' (first | (refine And.intro ?_ ?_) | intro _)
  all_goals (apply fin; clear fin; simp_all)
theorem m_so (hz : zOK Z) (h : zM Z w) (k f b g c : Int32) : mMi E MX9_so [.ref 60, .int k, .int f, .int b, .int g, .int c] w (fun v u => v = r_so Z k f b g c ∧ mFr mSc w u) := by
  unfold mMi
  refine mM_start rfl (Nat.le_of_ble_eq_true rfl) rfl (fun X C F => vX9_so_0 C F _ _ _ _ _ ?_)
  refine (k_X9_barred h.1 hz.1 _ _ _ _ _).mono ?_
  rintro v u ⟨rfl, rfl⟩
  refine ⟨fun h1 => (k_X9_layTold _ _ _ _ _).mono ?_, fun h1 => ⟨_, rfl, by rw [r_so, if_pos h1], mFr.rf⟩⟩
  rintro u2 ⟨f2, hS⟩
  obtain ⟨m, e, hok, hv⟩ := bar_ok hz.1.1 h1
  have h2 := h.fr f2 (fun c k q => Or.inl (lSc c k (lS_s60 c k q)))
  refine k_X9_everybody.mono ?_
  rintro v u3 ⟨rfl, rfl⟩
  rw [h2.1.2.1, q_evb _ hz.1.2.1]
  refine (k_X9_isSo sh66 (by omega) h2.1 hz.1 hz.2.2.1.2.2 h2.now hok (hS.trans e.symm) _).mono ?_
  rintro v u4 ⟨rfl, f4⟩
  have ff : mFr mSc u u4 := (f2.mono (fun c k q => lSc c k (lS_s60 c k q))).tr (f4.mono (fun c k q => lSc c k (lS_c68 c k q)))
  rw [q_b0, e]
  refine ⟨fun z => ⟨_, rfl, ?_, ff⟩, fun z => ⟨_, rfl, ?_, ff⟩⟩
  · rw [r_so, if_neg (nn0 h1), z]; rfl
  · rw [r_so, if_neg (nn0 h1), (Bool.not_eq_false _).mp z]; rfl
theorem m_coming (hz : zOK Z) (h : zM Z w) (n what : Int32) : mMi E MX9_coming [.ref 60, .int n, .int what] w (fun v u => v = r_coming Z n what ∧ mFr mSc w u) := by
  unfold mMi
  refine mM_start rfl (Nat.le_of_ble_eq_true rfl) rfl (fun X C F => vX9_coming_0 C F _ _ ?_)
  refine (k_X9_in _ _ _).mono ?_
  rintro v u ⟨rfl, rfl⟩
  rw [q_b0]
  refine ⟨fun h1 => ⟨_, rfl, by rw [r_coming, if_pos (of_decide_eq_false h1)], mFr.rf⟩, fun h1 => (k_X9_in _ _ _).mono ?_⟩
  have h1 := b_t h1
  rintro v u ⟨rfl, rfl⟩
  rw [q_b0]
  refine ⟨fun h2 => ?_, fun h2 => ⟨_, rfl, by rw [r_coming, if_neg (nn0 h1), if_pos (fun q => of_decide_eq_false h2 ((q_bit what).mpr q))], mFr.rf⟩⟩
  have h2 := (q_bit what).mp (b_t h2)
  have rr : r_coming Z n what = if what = 0 then q_com Z.1 Z.2.1.2.2 Z.2.1.1 n.toNatClampNeg else q_sum Z.1.2.1 (q_com Z.1 Z.2.1.2.2 Z.2.1.1 n.toNatClampNeg) Z.1.1.1 + 9999 := by rw [r_coming, if_neg (nn0 h1), if_neg (nn0 h2)]
  obtain ⟨j, hj, rfl⟩ := i_in (m := 20) (by omega) ⟨fun q => h1.1 (Int32.lt_trans q (by decide)), h1.2⟩
  rw [nI_clamp (by omega)] at rr
  refine (k_X9_copy (x := 0) (y := 0) sh66 sh67 (by omega) (by omega) (by omega) (by omega) (by omega)).mono ?_
  rintro u1 ⟨f1, r1⟩
  have g1 : mFr (cS 67) u u1 := f1.mono (fun c k h => by unfold cS; omega)
  have hs1 : snM (u1.1 67) Z.2.1.1 Z.2.1.2.1 Z.2.1.2.2 := h.now.fr (fun k hk => by have := r1 k hk; simpa using this)
  have c67m : ∀ c k, cS 67 c k → mSc c k := fun c k q => lSc c k (lS_c67 c k q)
  have loop : ∀ k i : Nat, i + k = j → ∀ u2 d, mFr (cS 67) u u2 → snM (u2.1 67) (q_com Z.1 Z.2.1.2.2 Z.2.1.1 i) d Z.2.1.2.2 → mG X E MX9_coming 37 [.ref 60, .int (nI j), .int what, .int (nI i)] [] u2 := by
    intro k
    induction k with
    | zero =>
      intro i hi u2 d fu hs
      refine vX9_coming_37 C F _ _ _ ?_
      rw [hs.1]
      refine ⟨fun _ => ⟨fun z => (k_X9_sumOf (h.1.fr fu c67_cy) hz.1 _).mono ?_, fun z => ⟨_, rfl, ?_, fu.mono c67m⟩⟩, fun q => absurd (nI_le (by omega) (by omega)) q⟩
      · rintro v u3 ⟨rfl, rfl⟩
        exact ⟨_, rfl, by rw [rr, if_neg z, show i = j by omega], fu.mono c67m⟩
      · rw [rr, if_pos z, show i = j by omega]
    | succ k ih =>
      intro i hi u2 d fu hs
      refine vX9_coming_37 C F _ _ _ ?_
      refine ⟨fun q => absurd q (nI_ge (by omega) (by omega)), fun _ => (k_X9_pass sh67 (h.1.fr fu c67_cy) hz.1 hs).mono ?_⟩
      rintro u3 ⟨f3, e0, e1⟩
      have g3 : mFr (cS 67) u2 u3 := f3.mono (fun c k h => by unfold aS at h; unfold cS; omega)
      rw [nI_1]
      refine ih (i + 1) (by omega) u3 (d + 1) (fu.tr g3) ⟨e0, e1, fun p f hp hf => ?_⟩
      rw [(f3 67 _ (by unfold aS; omega)).1]
      exact hs.2.2 p f hp hf
  exact loop j 0 (by omega) u1 _ g1 hs1
theorem m_best (hz : zOK Z) (h : zM Z w) (what : Int32) : mMi E MX9_best [.ref 60, .int what] w (fun v u => v = r_best Z what ∧ mFr mSc w u) := by
  unfold mMi
  refine mM_start rfl (Nat.le_of_ble_eq_true rfl) rfl (fun X C F => vX9_best_0 C F _ ?_)
  refine (k_X9_in _ _ _).mono ?_
  rintro v u ⟨rfl, rfl⟩
  rw [q_b0]
  refine ⟨fun h1 => (k_X9_layBest sh66 (by omega) (by omega) h.1 hz.1 hz.2.2.1.2.2 h.now).mono ?_, fun h1 => ⟨_, rfl, by rw [r_best, if_pos (fun q => of_decide_eq_false h1 ((i_02 what).mpr q))], mFr.rf⟩⟩
  have h1 := (i_02 what).mp (b_t h1)
  rintro u2 ⟨f2, e⟩
  have e1 : u2.1 60 34 = (q_best Z.1 Z.2.1.2.2 Z.2.1.1).1 := by rw [← e]; rfl
  have e2 : u2.1 60 35 = (q_best Z.1 Z.2.1.2.2 Z.2.1.1).2.1 := by rw [← e]; rfl
  have e3 : u2.1 60 36 = (q_best Z.1 Z.2.1.2.2 Z.2.1.1).2.2 := by rw [← e]; rfl
  rw [e1, e2, e3]
  refine ⟨fun z => ⟨fun z2 => ⟨_, rfl, ?_, f2.mono lSc⟩, fun z2 => ⟨_, rfl, ?_, f2.mono lSc⟩⟩, fun z => ⟨_, rfl, ?_, f2.mono lSc⟩⟩
  · rw [r_best, if_neg (nn0 h1), if_neg z, if_neg z2]
  · rw [r_best, if_neg (nn0 h1), if_neg z, if_pos z2]
  · rw [r_best, if_neg (nn0 h1), if_pos z]
theorem m_empty (hz : zOK Z) (h : zM Z w) (p what : Int32) : mMi E MX9_empty [.ref 60, .int p, .int what] w (fun v u => v = r_empty Z p what ∧ mFr mSc w u) := by
  have h5 := hz.1.2.1
  unfold mMi
  refine mM_start rfl (Nat.le_of_ble_eq_true rfl) rfl (fun X C F => vX9_empty_0 C F _ _ ?_)
  refine (k_X9_isOne h.1 hz.1 p).mono ?_
  rintro v u ⟨rfl, rfl⟩
  rw [q_b0]
  refine ⟨fun h1 => (k_X9_in _ _ _).mono ?_, fun h1 => ⟨_, rfl, by rw [r_empty, if_pos (of_decide_eq_false h1)], mFr.rf⟩⟩
  have h1 := b_t h1
  rintro v u ⟨rfl, rfl⟩
  rw [q_b0]
  refine ⟨fun h3 => ⟨_, rfl, by rw [r_empty, if_neg (nn0 h1), if_pos (fun q => of_decide_eq_false h3 ((q_bit what).mpr q))], mFr.rf⟩, fun h3 => ?_⟩
  have h3 := (q_bit what).mp (b_t h3)
  have rr : r_empty Z p what = if what = 0 then (q_ask Z p 2).1 else (q_ask Z p 2).2 := by rw [r_empty, if_neg (nn0 h1), if_neg (nn0 h3)]
  obtain ⟨i, hi, rfl⟩ := i_one_of hz.1 h1
  refine (k_X9_askOf h.1 hz.1 hz.2.2.1.2.2 h.now hi 2 what (Or.inr (Or.inr rfl))).mono ?_
  rintro v u ⟨rfl, fu⟩
  refine ⟨_, rfl, ?_, fu.mono lSc⟩
  rw [rr]
  unfold q_ask
  rw [nI_clamp (by omega)]
theorem m_said (hz : zOK Z) (h : zM Z w) (p did what : Int32) : mMi E MX9_said [.ref 60, .int p, .int did, .int what] w (fun v u => v = r_said Z p did what ∧ mFr mSc w u) := by
  have h5 := hz.1.2.1
  unfold mMi
  refine mM_start rfl (Nat.le_of_ble_eq_true rfl) rfl (fun X C F => vX9_said_0 C F _ _ _ ?_)
  refine (k_X9_isOne h.1 hz.1 p).mono ?_
  rintro v u ⟨rfl, rfl⟩
  rw [q_b0]
  refine ⟨fun h1 => (k_X9_in _ _ _).mono ?_, fun h1 => ⟨_, rfl, by rw [r_said, if_pos (of_decide_eq_false h1)], mFr.rf⟩⟩
  have h1 := b_t h1
  rintro v u ⟨rfl, rfl⟩
  rw [q_b0]
  refine ⟨fun h2 => ⟨_, rfl, by rw [r_said, if_neg (nn0 h1), if_pos (fun q => of_decide_eq_false h2 ((q_bit did).mpr q))], mFr.rf⟩, fun h2 => (k_X9_in _ _ _).mono ?_⟩
  have h2 := (q_bit did).mp (b_t h2)
  rintro v u ⟨rfl, rfl⟩
  rw [q_b0]
  refine ⟨fun h3 => ⟨_, rfl, by rw [r_said, if_neg (nn0 h1), if_neg (nn0 h2), if_pos (fun q => of_decide_eq_false h3 ((q_bit what).mpr q))], mFr.rf⟩, fun h3 => ?_⟩
  have h3 := (q_bit what).mp (b_t h3)
  have rr : r_said Z p did what = if what = 0 then (q_ask Z p did).1 else (q_ask Z p did).2 := by rw [r_said, if_neg (nn0 h1), if_neg (nn0 h2), if_neg (nn0 h3)]
  obtain ⟨i, hi, rfl⟩ := i_one_of hz.1 h1
  refine (k_X9_askOf h.1 hz.1 hz.2.2.1.2.2 h.now hi did what (h2.elim Or.inl (fun q => Or.inr (Or.inl q)))).mono ?_
  rintro v u ⟨rfl, fu⟩
  refine ⟨_, rfl, ?_, fu.mono lSc⟩
  rw [rr]
  unfold q_ask
  rw [nI_clamp (by omega)]
theorem m_sure (hz : zOK Z) (h : zM Z w) (what : Int32) : mMi E MX9_sure [.ref 60, .int what] w (fun v u => v = r_sure Z.1 Z.2.1.2.2 Z.2.1.1 Z.2.2.2.2.2.1 Z.2.2.2.2.2.2.1 Z.2.2.2.2.2.2.2 what ∧ mFr mSc w u) := by
  have hb := h.2.2.2.2.2
  have hB := hz.2.2.2.2.2.2
  refine (k_X9_sure h.1 hz.1 hz.2.2.1.2.2 h.now hz.2.2.1.1 hb.1 ⟨hB.1, fun i hi => ?_⟩ what).mono ?_
  · dsimp only
    rw [(hb.2 i hi).1, (hb.2 i hi).2]; exact hB.2 i hi
  · rintro v u ⟨rfl, fu⟩
    refine ⟨?_, fu⟩
    unfold r_sure
    rw [q_ch_congr (fun i hi => hb.2 i hi)]
theorem m_count (hz : zOK Z) (h : zM Z w) (what : Int32) : mMi E MX9_count [.ref 60, .int what] w (fun v u => v = r_count Z what ∧ mFr mSc w u) := by
  unfold mMi
  refine mM_start rfl (Nat.le_of_ble_eq_true rfl) rfl (fun X C F => vX9_count_0 C F _ ?_)
  have loop : ∀ k i : Nat, i + k = 30 → mG X E MX9_count 4 [.ref 60, .int what, .int (q_hl Z.2.1.2.2 i), .int (nI (2 + i))] [] w := by
    intro k
    induction k with
    | zero =>
      intro i hi
      rw [show i = 30 by omega]
      refine vX9_count_4 C F _ _ _ ?_
      rw [h.1.1, h.1.2.1, h.1.2.2.1, h.2.1.1, h.2.1.2.1, h.2.2.1.1, h.2.2.2.2.1.1, h.2.2.2.2.2.1]
      refine ⟨fun _ => ?_, fun q => absurd (show (32 : Int32) ≤ nI (2 + 30) by decide) q⟩
      unfold r_count
      refine ⟨fun z => ⟨_, rfl, by rw [if_pos z], mFr.rf⟩, fun z0 => ⟨fun z => ⟨_, rfl, by rw [if_neg z0, if_pos z], mFr.rf⟩, fun z1 => ⟨fun z => ⟨_, rfl, by rw [if_neg z0, if_neg z1, if_pos z], mFr.rf⟩, fun z2 => ⟨fun z => ⟨_, rfl, by rw [if_neg z0, if_neg z1, if_neg z2, if_pos z], mFr.rf⟩, fun z3 => ⟨fun z => (k_X9_sumOf h.1 hz.1 _).mono ?_, fun z4 => ⟨fun z => ⟨_, rfl, by rw [if_neg z0, if_neg z1, if_neg z2, if_neg z3, if_neg z4, if_pos z], mFr.rf⟩, fun z5 => ⟨fun z => ⟨_, rfl, by rw [if_neg z0, if_neg z1, if_neg z2, if_neg z3, if_neg z4, if_neg z5, if_pos z], mFr.rf⟩, fun z6 => ⟨fun z => ⟨_, rfl, by rw [if_neg z0, if_neg z1, if_neg z2, if_neg z3, if_neg z4, if_neg z5, if_neg z6, if_pos z], mFr.rf⟩, fun z7 => ⟨fun z => ⟨_, rfl, by rw [if_neg z0, if_neg z1, if_neg z2, if_neg z3, if_neg z4, if_neg z5, if_neg z6, if_neg z7, if_pos z], mFr.rf⟩, fun z8 => ⟨fun z => ⟨_, rfl, by rw [if_neg z0, if_neg z1, if_neg z2, if_neg z3, if_neg z4, if_neg z5, if_neg z6, if_neg z7, if_neg z8, if_pos z], mFr.rf⟩, fun z9 => ⟨_, rfl, by rw [if_neg z0, if_neg z1, if_neg z2, if_neg z3, if_neg z4, if_neg z5, if_neg z6, if_neg z7, if_neg z8, if_neg z9], mFr.rf⟩⟩⟩⟩⟩⟩⟩⟩⟩⟩⟩
      rintro v u ⟨rfl, rfl⟩
      exact ⟨_, rfl, by rw [if_neg z0, if_neg z1, if_neg z2, if_neg z3, if_pos z], mFr.rf⟩
    | succ k ih =>
      intro i hi
      have nx := ih (i + 1) (by omega)
      rw [q_hl] at nx
      have e : w.1 66 (2 + i) = q_bel (q_mo Z.2.1.2.2 (nI (i / 6))) (i % 6) := by
        have := h.now.2.2 (i / 6) (i % 6) (by omega) (by omega)
        rw [show 2 + 6 * (i / 6) + i % 6 = 2 + i by omega] at this
        exact this
      refine vX9_count_4 C F _ _ _ ?_
      rw [show (32 : Int32) = nI 32 from rfl, nI_clamp (by omega), e, nI_1, show 2 + i + 1 = 2 + (i + 1) by omega]
      refine ⟨fun q => absurd q (nI_ge (by omega) (by omega)), fun _ => ⟨vp_in_nI (by omega) (by omega), fun z => ?_, fun z => ?_⟩⟩
      · rw [if_neg z] at nx; exact nx
      · rw [if_pos z] at nx
        rw [show q_hl Z.2.1.2.2 i + 0 = q_hl Z.2.1.2.2 i by simp]
        exact nx
  exact loop 30 0 (by omega)
end M9
