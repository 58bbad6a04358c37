/-! ===== THE CLASS'S CALLS that change nothing ===== -/
theorem sSx : ∀ c k, sS c k → xSc c k := fun c k h => Or.inl h
theorem i_lt {v : Int32} {m : Nat} : (¬ v < 0 ∧ v < nI (m + 1)) ↔ (¬ v < 0 ∧ v < nI (m + 1)) := Iff.rfl
section X8b
variable {E : mEnv} {w : mW} {Z : mZ}
theorem x_fact (hz : zOK Z) (h : zX Z w) (f what : Int32) : mMi E MX8_fact [.ref 0, .int f, .int what] w (fun v u => v = r_fact Z f what ∧ mFr xSc w u) := by
  have h6 := hz.1.1
  unfold mMi
  refine mM_start rfl (Nat.le_of_ble_eq_true rfl) rfl (fun X C F => vX8_fact_0 C F _ _ ?_)
  refine (k_X1_hasFact f).mono ?_
  rintro v u ⟨rfl, rfl⟩
  rw [q_b0, h.1.1.1]
  refine ⟨fun h1 => ?_, fun h1 => ⟨_, rfl, by rw [r_fact, if_pos (of_decide_eq_false h1)], mFr.rf⟩⟩
  have h1 := b_t h1
  have no : ¬ (what = 0 ∨ what = 1 ∨ what = 2) → ∃ v : Int32, (some (Value.int (-3)) : Option Value) = some (.int v) ∧ v = r_fact Z f what ∧ mFr xSc u u := fun q => ⟨_, rfl, by rw [r_fact, if_neg (nn0 h1), if_neg (fun z => q (Or.inr (Or.inr z))), if_neg (fun z => q (z.elim Or.inl (fun z => Or.inr (Or.inl z))))], mFr.rf⟩
  refine ⟨fun z => no (fun q => ((i_02 what).mpr q).1 z), fun z => ⟨fun z2 => ?_, fun z2 => no (fun q => z2 (Int32.not_lt.mp ((i_02 what).mpr q).2))⟩⟩
  refine ⟨fun h2 => ?_, fun h2 => ⟨_, rfl, ?_, mFr.rf⟩⟩
  · have h3 : what = 0 ∨ what = 1 := by
      rcases (i_02 what).mp ⟨z, Int32.not_lt.mpr z2⟩ with q | q | q
      · exact Or.inl q
      · exact Or.inr q
      · exact absurd q h2
    have rr : r_fact Z f what = Z.1.2.1 f.toNatClampNeg what.toNatClampNeg := by rw [r_fact, if_neg (nn0 h1), if_neg h2, if_pos h3]
    rw [rr]
    obtain ⟨i, hi, rfl⟩ := i_fact_of hz.1 h1
    obtain ⟨k, hk, rfl⟩ := i_bit_of h3
    rw [nI_clamp (by omega), nI_clamp (by omega)]
    exact ⟨vp_in_nI (by omega) (by omega), vp_in_nI (by omega) (by omega), _, rfl, h.1.1.2.2.2.1 i k hi hk, mFr.rf⟩
  · rw [r_fact, if_neg (nn0 h1), if_pos h2, h.2.1.1.1]; rfl
theorem x_one (hz : zOK Z) (h : zX Z w) (p what : Int32) : mMi E MX8_one [.ref 0, .int p, .int what] w (fun v u => v = r_one Z p what ∧ mFr xSc w u) := by
  have h5 := hz.1.2.1
  unfold mMi
  refine mM_start rfl (Nat.le_of_ble_eq_true rfl) rfl (fun X C F => vX8_one_0 C F _ _ ?_)
  refine (k_X1_hasOne p).mono ?_
  rintro v u ⟨rfl, rfl⟩
  rw [q_b0, h.1.1.2.1]
  refine ⟨fun h1 => ?_, fun h1 => ⟨_, rfl, by rw [r_one, if_pos (of_decide_eq_false h1)], mFr.rf⟩⟩
  have h1 := b_t h1
  have no : ¬ (¬ what < 0 ∧ ¬ 5 < what) → ∃ v : Int32, (some (Value.int (-3)) : Option Value) = some (.int v) ∧ v = r_one Z p what ∧ mFr xSc u u := fun q => ⟨_, rfl, by rw [r_one, if_neg (nn0 h1), if_pos q], mFr.rf⟩
  refine ⟨fun z => no (fun q => q.1 z), fun z => ⟨fun z2 => ?_, fun z2 => no (fun q => z2 (Int32.not_lt.mp q.2))⟩⟩
  have h3 : ¬ what < 0 ∧ ¬ 5 < what := ⟨z, Int32.not_lt.mpr z2⟩
  have rr : r_one Z p what = Z.1.2.2.1 p.toNatClampNeg what.toNatClampNeg := by rw [r_one, if_neg (nn0 h1), if_neg (nn0 h3)]
  rw [rr]
  obtain ⟨i, hi, rfl⟩ := i_one_of hz.1 h1
  obtain ⟨k, hk, rfl⟩ := i_in (m := 5) (by omega) h3
  rw [nI_clamp (by omega), nI_clamp (by omega)]
  exact ⟨vp_in_nI (by omega) (by omega), vp_in_nI (by omega) (by omega), _, rfl, h.1.1.2.2.2.2.1 i k hi (by omega), mFr.rf⟩
theorem x_cause (hz : zOK Z) (h : zX Z w) (p what : Int32) : mMi E MX8_cause [.ref 0, .int p, .int what] w (fun v u => v = r_cause Z p what ∧ mFr xSc w u) := by
  have h5 := hz.1.2.2.1
  unfold mMi
  refine mM_start rfl (Nat.le_of_ble_eq_true rfl) rfl (fun X C F => vX8_cause_0 C F _ _ ?_)
  rw [h.1.1.2.2.1]
  have no1 : ¬ (¬ p < 0 ∧ ¬ nI Z.1.1.2.2 ≤ p) → ∃ v : Int32, (some (Value.int (-2)) : Option Value) = some (.int v) ∧ v = r_cause Z p what ∧ mFr xSc w w := fun q => ⟨_, rfl, by rw [r_cause, if_pos q], mFr.rf⟩
  refine ⟨fun z => no1 (fun q => q.1 z), fun z => ⟨fun z1 => ?_, fun z1 => no1 (fun q => z1 (Int32.not_le.mp q.2))⟩⟩
  have h1 : ¬ p < 0 ∧ ¬ nI Z.1.1.2.2 ≤ p := ⟨z, Int32.not_le.mpr z1⟩
  have no : ¬ (¬ what < 0 ∧ ¬ 3 < what) → ∃ v : Int32, (some (Value.int (-3)) : Option Value) = some (.int v) ∧ v = r_cause Z p what ∧ mFr xSc w w := fun q => ⟨_, rfl, by rw [r_cause, if_neg (nn0 h1), if_pos q], mFr.rf⟩
  refine ⟨fun z => no (fun q => q.1 z), fun z => ⟨fun z2 => ?_, fun z2 => no (fun q => z2 (Int32.not_lt.mp q.2))⟩⟩
  have h3 : ¬ what < 0 ∧ ¬ 3 < what := ⟨z, Int32.not_lt.mpr z2⟩
  have rr : r_cause Z p what = Z.1.2.2.2 p.toNatClampNeg what.toNatClampNeg := by rw [r_cause, if_neg (nn0 h1), if_neg (nn0 h3)]
  rw [rr]
  obtain ⟨i, hi, rfl⟩ := nI_of h1.1
  have li : i < Z.1.1.2.2 := Nat.lt_of_not_le (fun q => h1.2 (nI_le q (by omega)))
  obtain ⟨k, hk, rfl⟩ := i_in (m := 3) (by omega) h3
  rw [nI_clamp (by omega), nI_clamp (by omega)]
  exact ⟨vp_in_nI (by omega) (by omega), vp_in_nI (by omega) (by omega), _, rfl, h.1.1.2.2.2.2.2.1 i k li (by omega), mFr.rf⟩
theorem x_belief (hz : zOK Z) (h : zX Z w) (p f : Int32) : mMi E MX8_belief [.ref 0, .int p, .int f] w (fun v u => v = r_belief Z p f ∧ mFr xSc w u) := by
  have h5 := hz.1.2.1
  have h6 := hz.1.1
  unfold mMi
  refine mM_start rfl (Nat.le_of_ble_eq_true rfl) rfl (fun X C F => vX8_belief_0 C F _ _ ?_)
  refine (k_X1_hasOne p).mono ?_
  rintro v u ⟨rfl, rfl⟩
  rw [q_b0, h.1.1.2.1]
  refine ⟨fun h1 => ⟨_, rfl, by rw [r_belief, if_pos (of_decide_eq_false h1)], mFr.rf⟩, fun h1 => (k_X1_hasFact f).mono ?_⟩
  have h1 := b_t h1
  rintro v u ⟨rfl, rfl⟩
  rw [q_b0, h.1.1.1]
  refine ⟨fun h3 => (k_X4_mindOf _ _).mono ?_, fun h3 => ⟨_, rfl, by rw [r_belief, if_neg (nn0 h1), if_pos (of_decide_eq_false h3)], mFr.rf⟩⟩
  have h3 := b_t h3
  have rr : r_belief Z p f = q_bel (q_mo Z.2.1.2.2 p) f.toNatClampNeg := by rw [r_belief, if_neg (nn0 h1), if_neg (nn0 h3)]
  rw [rr]
  obtain ⟨k, hk, rfl⟩ := i_fact_of hz.1 h3
  rintro v u ⟨rfl, rfl⟩
  rw [h.2.1.1.2.2, nI_clamp (by omega)]
  refine (k_X4_holds _ _ _).mono ?_
  rintro v u ⟨rfl, rfl⟩
  rw [q_b0]
  have a0 := q_hs_iff (q_mo Z.2.1.2.2 p) (b := 0) (Or.inl rfl) (f := k) (by omega)
  have a1 := q_hs_iff (q_mo Z.2.1.2.2 p) (b := 1) (Or.inr rfl) (f := k) (by omega)
  refine ⟨fun z => (k_X4_holds _ _ _).mono ?_, fun z => ⟨_, rfl, ?_, mFr.rf⟩⟩
  · have z := of_decide_eq_false z
    rintro v u ⟨rfl, rfl⟩
    rw [q_b0]
    refine ⟨fun z2 => ⟨_, rfl, ?_, mFr.rf⟩, fun z2 => ⟨_, rfl, ?_, mFr.rf⟩⟩
    · have z2 := of_decide_eq_false z2
      rcases q_bel_in (q_mo Z.2.1.2.2 p) k with q | q | q
      · exact q.symm
      · exact absurd (a0.mpr q) z
      · exact absurd (a1.mpr q) z2
    · exact (a1.mp (b_t z2)).symm
  · exact (a0.mp (b_t z)).symm
theorem x_as (hz : zOK Z) (h : zX Z w) (p k : Int32) : mMi E MX8_as [.ref 0, .int p, .int k] w (fun v u => v = r_as Z p k ∧ mFr xSc w u) := by
  have h5 := hz.1.2.1
  unfold mMi
  refine mM_start rfl (Nat.le_of_ble_eq_true rfl) rfl (fun X C F => vX8_as_0 C F _ _ ?_)
  refine (k_X1_hasOne p).mono ?_
  rintro v u ⟨rfl, rfl⟩
  rw [q_b0, h.1.1.2.1]
  refine ⟨fun h1 => ?_, fun h1 => ⟨_, rfl, by rw [r_as, if_pos (of_decide_eq_false h1)], mFr.rf⟩⟩
  have h1 := b_t h1
  have no : ¬ (¬ k < 0 ∧ ¬ 4 < k) → ∃ v : Int32, (some (Value.int (-3)) : Option Value) = some (.int v) ∧ v = r_as Z p k ∧ mFr xSc u u := fun q => ⟨_, rfl, by rw [r_as, if_neg (nn0 h1), if_pos q], mFr.rf⟩
  refine ⟨fun z => no (fun q => q.1 z), fun z => ⟨fun z2 => ?_, fun z2 => no (fun q => by rw [← q_54] at q; exact z2 (Int32.not_le.mp q.2))⟩⟩
  have h3 : ¬ k < 0 ∧ ¬ 4 < k := ⟨z, by rw [← q_54]; exact Int32.not_le.mpr z2⟩
  have rr : r_as Z p k = if q_as (Z.1.2.2.1 p.toNatClampNeg 0) k = true then q_b (q_tr (Z.1.2.2.1 p.toNatClampNeg)) else -4 := by rw [r_as, if_neg (nn0 h1), if_neg (nn0 h3)]
  obtain ⟨i, hi, rfl⟩ := i_one_of hz.1 h1
  obtain ⟨j, hj, rfl⟩ := i_in (m := 4) (by omega) h3
  obtain ⟨⟨o, ho, eo⟩, -⟩ := hz.1.2.2.2.2.1 i hi
  rw [nI_clamp (by omega)] at rr ⊢
  have e0 : u.1 (10 + i) 0 = nI o := by rw [h.1.1.2.2.2.2.1 i 0 hi (by omega)]; exact eo
  rw [e0]
  refine ⟨vp_in_nI (by omega) (by omega), (k_X8_isUnder rt140 (by omega) _ _).mono ?_⟩
  rintro v u2 ⟨rfl, rfl⟩
  rw [q_b0, q_un_as o ho j (by omega)]
  rw [eo] at rr
  refine ⟨fun z => (k_X1_believesHer _ (vp_in_nI (by omega) (by omega))).mono ?_, fun z => ⟨_, rfl, by rw [rr, if_neg (by rw [z]; decide)], mFr.rf⟩⟩
  rintro v u3 ⟨rfl, rfl⟩
  rw [rr, if_pos ((Bool.not_eq_false _).mp z), q_b0, nI_clamp (by omega), q_tr_congr (h.1.1.2.2.2.2.1 i 0 hi (by omega)) (h.1.1.2.2.2.2.1 i 5 hi (by omega))]
  exact ⟨fun z => ⟨_, rfl, by rw [z]; rfl, mFr.rf⟩, fun z => ⟨_, rfl, by rw [(Bool.not_eq_false _).mp z]; rfl, mFr.rf⟩⟩
theorem x_sayingAs (s k : Int32) : mMi E MX8_sayingAs [.ref 0, .int s, .int k] w (fun v u => v = r_sayingAs s k ∧ mFr xSc w u) := by
  unfold mMi
  refine mM_start rfl (Nat.le_of_ble_eq_true rfl) rfl (fun X C F => vX8_sayingAs_0 C F _ _ ?_)
  have no1 : ¬ (¬ s < 0 ∧ ¬ 4 < s) → ∃ v : Int32, (some (Value.int (-3)) : Option Value) = some (.int v) ∧ v = r_sayingAs s k ∧ mFr xSc w w := fun q => ⟨_, rfl, by rw [r_sayingAs, if_pos q], mFr.rf⟩
  rw [q_54]
  refine ⟨fun z => no1 (fun q => q.1 z), fun z => ⟨fun z1 => no1 (fun q => q.2 z1), fun z1 => ?_⟩⟩
  have h1 : ¬ s < 0 ∧ ¬ 4 < s := ⟨z, z1⟩
  have no : ¬ (¬ k < 0 ∧ ¬ 6 < k) → ∃ v : Int32, (some (Value.int (-3)) : Option Value) = some (.int v) ∧ v = r_sayingAs s k ∧ mFr xSc w w := fun q => ⟨_, rfl, by rw [r_sayingAs, if_neg (nn0 h1), if_pos q], mFr.rf⟩
  have e67 : (6 < k) = (7 ≤ k) := by
    apply propext
    rw [Int32.le_iff_toInt_le, Int32.lt_iff_toInt_lt, show (7 : Int32).toInt = 7 by decide, show (6 : Int32).toInt = 6 by decide]
    omega
  refine ⟨fun z => no (fun q => q.1 z), fun z2 => ⟨fun z3 => ?_, fun z3 => no (fun q => by rw [e67] at q; exact z3 (Int32.not_le.mp q.2))⟩⟩
  have h3 : ¬ k < 0 ∧ ¬ 6 < k := ⟨z2, by rw [e67]; exact Int32.not_le.mpr z3⟩
  have rr : r_sayingAs s k = if q_sa s k = true then (if s = 0 ∨ s = 4 then 1 else 2) else -4 := by rw [r_sayingAs, if_neg (nn0 h1), if_neg (nn0 h3)]
  obtain ⟨i, hi, rfl⟩ := i_in (m := 4) (by omega) h1
  obtain ⟨j, hj, rfl⟩ := i_in (m := 6) (by omega) h3
  rw [nI_clamp (by omega)]
  refine ⟨vp_in_nI (by omega) (by omega), (k_X8_isUnder rt141 (by omega) _ _).mono ?_⟩
  rintro v u2 ⟨rfl, rfl⟩
  rw [q_b0, q_un_sa i (by omega) j (by omega)]
  refine ⟨fun z => (k_X7_isPair _).mono ?_, fun z => ⟨_, rfl, by rw [rr, if_neg (by rw [z]; decide)], mFr.rf⟩⟩
  rintro v u3 ⟨rfl, rfl⟩
  rw [rr, if_pos ((Bool.not_eq_false _).mp z), q_b0]
  have hp : (nI i = 0 ∨ nI i = 4) ↔ ¬ (nI i = 1 ∨ nI i = 2 ∨ nI i = 3) := by
    rw [show nI i = 0 ↔ i = 0 from nI_eq (b := 0) (by omega) (by omega), show nI i = 1 ↔ i = 1 from nI_eq (b := 1) (by omega) (by omega), show nI i = 2 ↔ i = 2 from nI_eq (b := 2) (by omega) (by omega), show nI i = 3 ↔ i = 3 from nI_eq (b := 3) (by omega) (by omega), show nI i = 4 ↔ i = 4 from nI_eq (b := 4) (by omega) (by omega)]
    omega
  exact ⟨fun z => ⟨_, rfl, by rw [if_pos (hp.mpr (of_decide_eq_false z))], mFr.rf⟩, fun z => ⟨_, rfl, by rw [if_neg (fun q => hp.mp q (b_t z))], mFr.rf⟩⟩
/-- looked, a sentence put, heard -/
theorem f_hear {Y : mY} {t : Int32} {M : Int64} (hY : cyX Y w) (hk : cyOK Y) (k f b g c : Int32) (hb : 0 ≤ q_bar Y.1.1 k f b g c) {Q : mW → Prop} (hQ : ∀ u, mFr sS w u → cyX Y u → fLook Y 46 t M u → fHear Y 46 (q_Sx k f b g c) M u → Q u) : mMv E MX3_look [.ref 46, .int t, .long M] w (fun u2 => mMv E MX7_put [.ref 47, .int k, .int f, .int b, .int g, .int c] u2 (fun u3 => mMv E MX3_listen [.ref 46] u3 Q)) := by
  refine (k_X3_look h46 hY hk t M).mono ?_
  rintro u1 ⟨f1, hl⟩
  have hY1 := hY.fr hk f1 (fS22 h46)
  refine (k_X7_put h47 k f b g c).mono ?_
  rintro u2 ⟨f2, hS⟩
  have g2 : mFr (gS 46) u1 u2 := f2.mono (fun c k q => Or.inl q)
  have hY2 := hY1.fr hk g2 (gS22 h46)
  have hl2 := hl.fr g2
  refine (k_X3_listen h46 hY2 hk M hl2.2.1).mono ?_
  rintro u3 ⟨f3, hh⟩
  have g3 : mFr (gS 46) u2 u3 := f3.mono (fun c k q => hgS q)
  have es : q_S u2 (46 + 1) = q_Sx k f b g c := by
    rw [show (46 + 1 : Nat) = 47 from rfl, hS]
    unfold q_Sx
    have hkk : ¬ k < 0 ∧ ¬ 4 < k := by
      apply Classical.byContradiction
      intro q
      rw [q_bar, if_pos q] at hb
      exact absurd hb (by decide)
    have hp : (k = 0 ∨ k = 4) ↔ ¬ (k = 1 ∨ k = 2 ∨ k = 3) := by
      obtain ⟨i, hi, rfl⟩ := i_in (m := 4) (by omega) hkk
      rw [show nI i = 0 ↔ i = 0 from nI_eq (b := 0) (by omega) (by omega), show nI i = 1 ↔ i = 1 from nI_eq (b := 1) (by omega) (by omega), show nI i = 2 ↔ i = 2 from nI_eq (b := 2) (by omega) (by omega), show nI i = 3 ↔ i = 3 from nI_eq (b := 3) (by omega) (by omega), show nI i = 4 ↔ i = 4 from nI_eq (b := 4) (by omega) (by omega)]
      omega
    by_cases z : k = 0 ∨ k = 4
    · rw [if_pos z, if_neg (hp.mp z)]
    · rw [if_neg z, if_pos (Classical.not_not.mp (fun q => z (hp.mpr q)))]
  rw [es] at hh
  exact hQ u3 (((f1.mono fsS).tr (g2.mono gsS)).tr (g3.mono gsS)) (hY2.fr hk g3 (gS22 h46)) (hl2.fr g3) hh
theorem x_so (hz : zOK Z) (h : zX Z w) (k f b g c : Int32) : mMi E MX8_so [.ref 0, .int k, .int f, .int b, .int g, .int c] w (fun v u => v = r_so Z k f b g c ∧ mFr xSc w u) := by
  unfold mMi
  refine mM_start rfl (Nat.le_of_ble_eq_true rfl) rfl (fun X C F => vX8_so_0 C F _ _ _ _ _ ?_)
  refine (k_X8_refusalOf h.1.1 _ _ _ _ _).mono ?_
  rintro v u ⟨rfl, rfl⟩
  rw [q_bar_0]
  refine ⟨fun h1 => ?_, fun h1 => ⟨_, rfl, by rw [r_so, if_pos h1], mFr.rf⟩⟩
  rw [h.2.1.1.1, h.2.1.1.2.2]
  refine f_hear h.1.1 hz.1 k f b g c h1 (fun u2 f2 hY hl hh => ?_)
  refine k_X1_everyone.mono ?_
  rintro v u3 ⟨rfl, rfl⟩
  rw [hY.2.1, q_evb _ hz.1.2.1]
  refine (k_X3_isSoSaidTo h46 hY hz.1 hl hh _).mono ?_
  rintro v u4 ⟨rfl, rfl⟩
  rw [q_b0]
  refine ⟨fun z => ⟨_, rfl, ?_, f2.mono sSx⟩, fun z => ⟨_, rfl, ?_, f2.mono sSx⟩⟩
  · rw [r_so, if_neg (nn0 h1), z]; rfl
  · rw [r_so, if_neg (nn0 h1), (Bool.not_eq_false _).mp z]; rfl
theorem x_coming (hz : zOK Z) (h : zX Z w) (n what : Int32) : mMi E MX8_coming [.ref 0, .int n, .int what] w (fun v u => v = r_coming Z n what ∧ mFr xSc w u) := by
  unfold mMi
  refine mM_start rfl (Nat.le_of_ble_eq_true rfl) rfl (fun X C F => vX8_coming_0 C F _ _ ?_)
  have no : ¬ (¬ n < 1 ∧ ¬ 20 < n) → ∃ v : Int32, (some (Value.int (-3)) : Option Value) = some (.int v) ∧ v = r_coming Z n what ∧ mFr xSc w w := fun q => ⟨_, rfl, by rw [r_coming, if_pos q], mFr.rf⟩
  refine ⟨fun z => no (fun q => q.1 z), fun z => ⟨fun z1 => no (fun q => q.2 z1), fun z1 => (k_X8_isBit _).mono ?_⟩⟩
  have h1 : ¬ n < 1 ∧ ¬ 20 < n := ⟨z, z1⟩
  rintro v u ⟨rfl, rfl⟩
  rw [q_b0]
  refine ⟨fun h2 => ?_, fun h2 => ⟨_, rfl, by rw [r_coming, if_neg (nn0 h1), if_pos (of_decide_eq_false h2)], mFr.rf⟩⟩
  have h2 := b_t h2
  have rr : r_coming Z n what = if what = 0 then q_com Z.1 Z.2.1.2.2 Z.2.1.1 n.toNatClampNeg else q_sum Z.1.2.1 (q_com Z.1 Z.2.1.2.2 Z.2.1.1 n.toNatClampNeg) Z.1.1.1 + 9999 := by rw [r_coming, if_neg (nn0 h1), if_neg (nn0 h2)]
  obtain ⟨j, hj, rfl⟩ := i_in (m := 20) (by omega) ⟨fun q => h1.1 (Int32.lt_trans q (by decide)), h1.2⟩
  rw [nI_clamp (by omega)] at rr
  rw [h.2.1.1.2.2]
  refine (k_X1_doers h.1.1 hz.1 _).mono ?_
  rintro v u ⟨rfl, rfl⟩
  rw [h.2.1.1.1]
  have loop : ∀ k i : Nat, i + k = j → mG X E MX8_coming 48 [.ref 0, .int (nI j), .int what, .int (q_ds (q_dd Z.1 Z.2.1.2.2) Z.1.1.2.1), .int (q_com Z.1 Z.2.1.2.2 Z.2.1.1 i), .int (nI i)] [] u := by
    intro k
    induction k with
    | zero =>
      intro i hi
      refine vX8_coming_48 C F _ _ _ _ _ ?_
      refine ⟨fun _ => ⟨fun z => (k_X1_sumOf h.1.1 hz.1 _).mono ?_, fun z => ⟨_, rfl, ?_, mFr.rf⟩⟩, fun q => absurd (nI_le (by omega) (by omega)) q⟩
      · rintro v u3 ⟨rfl, rfl⟩
        exact ⟨_, rfl, by rw [rr, if_neg z, show i = j by omega], mFr.rf⟩
      · rw [rr, if_pos z, show i = j by omega]
    | succ k ih =>
      intro i hi
      refine vX8_coming_48 C F _ _ _ _ _ ?_
      refine ⟨fun q => absurd q (nI_ge (by omega) (by omega)), fun _ => (k_X1_dawn h.1.1 hz.1 _ _).mono ?_⟩
      rintro v u3 ⟨rfl, rfl⟩
      rw [nI_1, q_dawn_dd hz.1]
      exact ih (i + 1) (by omega)
  exact loop j 0 (by omega)
theorem x_best (hz : zOK Z) (h : zX Z w) (what : Int32) : mMi E MX8_best [.ref 0, .int what] w (fun v u => v = r_best Z what ∧ mFr xSc w u) := by
  unfold mMi
  refine mM_start rfl (Nat.le_of_ble_eq_true rfl) rfl (fun X C F => vX8_best_0 C F _ ?_)
  have no : ¬ (what = 0 ∨ what = 1 ∨ what = 2) → ∃ v : Int32, (some (Value.int (-3)) : Option Value) = some (.int v) ∧ v = r_best Z what ∧ mFr xSc w w := fun q => ⟨_, rfl, by rw [r_best, if_pos q], mFr.rf⟩
  refine ⟨fun z => no (fun q => ((i_02 what).mpr q).1 z), fun z => ⟨fun z2 => ?_, fun z2 => no (fun q => z2 (Int32.not_lt.mp ((i_02 what).mpr q).2))⟩⟩
  have h1 := (i_02 what).mp ⟨z, Int32.not_lt.mpr z2⟩
  rw [h.2.1.1.1, h.2.1.1.2.2]
  refine (k_X6_seekBest h.1.1 hz.1 _ _).mono ?_
  rintro u2 ⟨f2, e⟩
  have e1 : u2.1 58 3 = (q_best Z.1 Z.2.1.2.2 Z.2.1.1).1 := by rw [← e]; rfl
  have e2 : u2.1 58 4 = (q_best Z.1 Z.2.1.2.2 Z.2.1.1).2.1 := by rw [← e]; rfl
  have e3 : u2.1 58 5 = (q_best Z.1 Z.2.1.2.2 Z.2.1.1).2.2 := by rw [← e]; rfl
  rw [e1, e2, e3]
  refine ⟨fun z => ⟨fun z2 => ⟨_, rfl, ?_, f2.mono sSx⟩, fun z2 => ⟨_, rfl, ?_, f2.mono sSx⟩⟩, fun z => ⟨_, rfl, ?_, f2.mono sSx⟩⟩
  · rw [r_best, if_neg (nn0 h1), if_neg z, if_neg z2]
  · rw [r_best, if_neg (nn0 h1), if_neg z, if_pos z2]
  · rw [r_best, if_neg (nn0 h1), if_pos z]
theorem x_empty (hz : zOK Z) (h : zX Z w) (p what : Int32) : mMi E MX8_empty [.ref 0, .int p, .int what] w (fun v u => v = r_empty Z p what ∧ mFr xSc w u) := by
  have h5 := hz.1.2.1
  unfold mMi
  refine mM_start rfl (Nat.le_of_ble_eq_true rfl) rfl (fun X C F => vX8_empty_0 C F _ _ ?_)
  refine (k_X1_hasOne p).mono ?_
  rintro v u ⟨rfl, rfl⟩
  rw [q_b0, h.1.1.2.1]
  refine ⟨fun h1 => (k_X8_isBit _).mono ?_, fun h1 => ⟨_, rfl, by rw [r_empty, if_pos (of_decide_eq_false h1)], mFr.rf⟩⟩
  have h1 := b_t h1
  rintro v u ⟨rfl, rfl⟩
  rw [q_b0]
  refine ⟨fun h3 => ?_, fun h3 => ⟨_, rfl, by rw [r_empty, if_neg (nn0 h1), if_pos (of_decide_eq_false h3)], mFr.rf⟩⟩
  have h3 := b_t h3
  have rr : r_empty Z p what = if what = 0 then (q_ask Z p 2).1 else (q_ask Z p 2).2 := by rw [r_empty, if_neg (nn0 h1), if_neg (nn0 h3)]
  obtain ⟨i, hi, rfl⟩ := i_one_of hz.1 h1
  rw [h.2.1.1.1, h.2.1.1.2.2]
  refine (k_X3_look h46 h.1.1 hz.1 _ _).mono ?_
  rintro u1 ⟨f1, hl⟩
  refine (k_X6_countEmpty (h.1.1.fr hz.1 f1 (fS22 h46)) hz.1 hl i).mono ?_
  rintro u2 ⟨f2, e⟩
  have ff : mFr xSc u u2 := ((f1.mono fsS).tr f2).mono sSx
  have ea : q_ask Z (nI i) 2 = q_2 u2 := by
    rw [e]; unfold q_ask q_aP; rw [nI_clamp (by omega), if_pos rfl]
  rw [ea] at rr
  refine ⟨fun z => ⟨_, rfl, by rw [rr, if_neg z]; rfl, ff⟩, fun z => ⟨_, rfl, by rw [rr, if_pos z]; rfl, ff⟩⟩
theorem x_said (hz : zOK Z) (h : zX Z w) (p did what : Int32) : mMi E MX8_said [.ref 0, .int p, .int did, .int what] w (fun v u => v = r_said Z p did what ∧ mFr xSc w u) := by
  have h5 := hz.1.2.1
  unfold mMi
  refine mM_start rfl (Nat.le_of_ble_eq_true rfl) rfl (fun X C F => vX8_said_0 C F _ _ _ ?_)
  refine (k_X1_hasOne p).mono ?_
  rintro v u ⟨rfl, rfl⟩
  rw [q_b0, h.1.1.2.1]
  refine ⟨fun h1 => (k_X8_isBit _).mono ?_, fun h1 => ⟨_, rfl, by rw [r_said, if_pos (of_decide_eq_false h1)], mFr.rf⟩⟩
  have h1 := b_t h1
  rintro v u ⟨rfl, rfl⟩
  rw [q_b0]
  refine ⟨fun h2 => ⟨_, rfl, by rw [r_said, if_neg (nn0 h1), if_pos (of_decide_eq_false h2)], mFr.rf⟩, fun h2 => (k_X8_isBit _).mono ?_⟩
  have h2 := b_t h2
  rintro v u ⟨rfl, rfl⟩
  rw [q_b0]
  refine ⟨fun h3 => ?_, fun h3 => ⟨_, rfl, by rw [r_said, if_neg (nn0 h1), if_neg (nn0 h2), if_pos (of_decide_eq_false h3)], mFr.rf⟩⟩
  have h3 := b_t h3
  have rr : r_said Z p did what = if what = 0 then (q_ask Z p did).1 else (q_ask Z p did).2 := by rw [r_said, if_neg (nn0 h1), if_neg (nn0 h2), if_neg (nn0 h3)]
  obtain ⟨i, hi, rfl⟩ := i_one_of hz.1 h1
  rw [h.2.1.1.1, h.2.1.1.2.2]
  refine (k_X3_look h46 h.1.1 hz.1 _ _).mono ?_
  rintro u1 ⟨f1, hl⟩
  have fin : ∀ dd : Int32, dd = did → mMv E MX6_countSaid [.ref 58, .int (nI i), .int dd] u1 (fun u5 => (¬ what = 0 → ∃ v : Int32, (some (Value.int (u5.1 58 7)) : Option Value) = some (.int v) ∧ v = r_said Z (nI i) did what ∧ mFr xSc u u5) ∧ (what = 0 → ∃ v : Int32, (some (Value.int (u5.1 58 6)) : Option Value) = some (.int v) ∧ v = r_said Z (nI i) did what ∧ mFr xSc u u5)) := by
    rintro dd rfl
    refine (k_X6_countSaid (h.1.1.fr hz.1 f1 (fS22 h46)) hz.1 hl hi dd).mono ?_
    rintro u2 ⟨f2, e⟩
    have ff : mFr xSc u u2 := ((f1.mono fsS).tr f2).mono sSx
    have d2 : ¬ dd = 2 := by rcases h2 with rfl | rfl <;> decide
    have ea : q_ask Z (nI i) dd = q_2 u2 := by
      rw [e]; unfold q_ask q_aP; rw [nI_clamp (by omega), if_neg d2]
    rw [ea] at rr
    exact ⟨fun z => ⟨_, rfl, by rw [rr, if_neg z]; rfl, ff⟩, fun z => ⟨_, rfl, by rw [rr, if_pos z]; rfl, ff⟩⟩
  exact ⟨fun z => fin 0 (h2.elim Eq.symm (fun q => absurd q z)), fun z => fin 1 z.symm⟩
theorem x_rests (hz : zOK Z) (h : zX Z w) (p q f b what : Int32) : mMi E MX8_rests [.ref 0, .int p, .int q, .int f, .int b, .int what] w (fun v u => v = r_rests Z.1 Z.2.1.2.2 Z.2.1.1 p q f b what ∧ mFr xSc w u) := by
  unfold mMi
  refine mM_start rfl (Nat.le_of_ble_eq_true rfl) rfl (fun X C F => vX8_rests_0 C F _ _ _ _ _ ?_)
  refine (k_X1_hasOne p).mono ?_
  rintro v u ⟨rfl, rfl⟩
  rw [q_b0, h.1.1.2.1]
  refine ⟨fun h1 => ⟨_, rfl, by rw [r_rests, if_pos (of_decide_eq_false h1)], mFr.rf⟩, fun h1 => (k_X1_hasOne q).mono ?_⟩
  have h1 := b_t h1
  rintro v u ⟨rfl, rfl⟩
  rw [q_b0, h.1.1.2.1]
  refine ⟨fun h2 => ⟨_, rfl, by rw [r_rests, if_neg (nn0 h1), if_pos (of_decide_eq_false h2)], mFr.rf⟩, fun h2 => ?_⟩
  have h2 := b_t h2
  refine ⟨fun h3 => ⟨_, rfl, by rw [r_rests, if_neg (nn0 h1), if_neg (nn0 h2), if_pos h3], mFr.rf⟩, fun h3 => (k_X1_hasFact f).mono ?_⟩
  rintro v u ⟨rfl, rfl⟩
  rw [q_b0, h.1.1.1]
  refine ⟨fun h4 => (k_X8_isBit _).mono ?_, fun h4 => ⟨_, rfl, by rw [r_rests, if_neg (nn0 h1), if_neg (nn0 h2), if_neg h3, if_pos (of_decide_eq_false h4)], mFr.rf⟩⟩
  have h4 := b_t h4
  rintro v u ⟨rfl, rfl⟩
  rw [q_b0]
  refine ⟨fun h5 => ⟨_, rfl, by rw [r_rests, if_neg (nn0 h1), if_neg (nn0 h2), if_neg h3, if_neg (nn0 h4), if_pos (of_decide_eq_false h5)], mFr.rf⟩, fun h5 => (k_X8_isBit _).mono ?_⟩
  have h5 := b_t h5
  rintro v u ⟨rfl, rfl⟩
  rw [q_b0]
  refine ⟨fun h6 => ?_, fun h6 => ⟨_, rfl, by rw [r_rests, if_neg (nn0 h1), if_neg (nn0 h2), if_neg h3, if_neg (nn0 h4), if_neg (nn0 h5), if_pos (of_decide_eq_false h6)], mFr.rf⟩⟩
  have h6 := b_t h6
  have rr : r_rests Z.1 Z.2.1.2.2 Z.2.1.1 p q f b what = if what = 0 then (q_rc (q_rs Z.1 Z.2.1.2.2 Z.2.1.1 p q f b) 4).1 else (q_rc (q_rs Z.1 Z.2.1.2.2 Z.2.1.1 p q f b) 4).2 := by
    rw [r_rests, if_neg (nn0 h1), if_neg (nn0 h2), if_neg h3, if_neg (nn0 h4), if_neg (nn0 h5), if_neg (nn0 h6)]
  rw [h.2.1.1.1, h.2.1.1.2.2]
  refine (k_X3_look h46 h.1.1 hz.1 _ _).mono ?_
  rintro u1 ⟨f1, hl⟩
  rw [show u1.2 39 3 = Z.2.1.2.2 by rw [(f1 39 3 (by unfold fS; omega)).2]; exact h.2.1.1.2.2]
  refine (k_X6_countRests (h.1.1.fr hz.1 f1 (fS22 h46)) hz.1 hl p q f b).mono ?_
  rintro u2 ⟨f2, e⟩
  have ff : mFr xSc u u2 := ((f1.mono fsS).tr f2).mono sSx
  rw [← e] at rr
  exact ⟨fun z => ⟨_, rfl, by rw [rr, if_neg z]; rfl, ff⟩, fun z => ⟨_, rfl, by rw [rr, if_pos z]; rfl, ff⟩⟩
theorem x_sure (hz : zOK Z) (h : zX Z w) (what : Int32) : mMi E MX8_sure [.ref 0, .int what] w (fun v u => v = r_sure Z.1 Z.2.1.2.2 Z.2.1.1 Z.2.2.2.2.2.1 Z.2.2.2.2.2.2.1 Z.2.2.2.2.2.2.2 what ∧ mFr xSc w u) := by
  have hb := h.2.2.2
  have hB := hz.2.2.2.2.2.2
  unfold mMi
  refine mM_start rfl (Nat.le_of_ble_eq_true rfl) rfl (fun X C F => vX8_sure_0 C F _ ?_)
  refine (k_X8_isBit _).mono ?_
  rintro v u ⟨rfl, rfl⟩
  rw [q_b0]
  refine ⟨fun h1 => ?_, fun h1 => ⟨_, rfl, by rw [r_sure, if_pos (of_decide_eq_false h1)], mFr.rf⟩⟩
  have h1 := b_t h1
  rw [h.2.1.1.1, h.2.1.1.2.2]
  refine (k_X3_look h46 h.1.1 hz.1 _ _).mono ?_
  rintro u1 ⟨f1, hl⟩
  refine (k_X6_outcomes (h.1.1.fr hz.1 f1 (fS22 h46)) hz.1 hl).mono ?_
  rintro v u2 ⟨rfl, f2⟩
  have f3 : mFr sS u u2 := (f1.mono fsS).tr f2
  have b2 : bX Z.2.2.2.2.2 u2 := hb.fr f3 (fun c k q => by unfold sS at q; omega)
  refine (k_X0_choose hB.1 b2.1 _).mono ?_
  rintro u3 ⟨f4, e⟩
  have ff : mFr xSc u u3 := (f3.mono sSx).tr (f4.mono (fun c k q => by unfold s43 at q; unfold xSc; omega))
  rw [q_ch_congr (fun i hi => b2.2 i hi)] at e
  refine ⟨fun z => ⟨_, rfl, ?_, ff⟩, fun z => ⟨_, rfl, ?_, ff⟩⟩
  · rw [r_sure, if_neg (nn0 h1), if_neg z, ← e]
  · rw [r_sure, if_neg (nn0 h1), if_pos z, ← e]
theorem x_plan (hz : zOK Z) (h : zX Z w) (dd what : Int32) : mMi E MX8_plan [.ref 0, .int dd, .int what] w (fun v u => v = r_plan Z.1 Z.2.1.2.2 Z.2.1.1 dd what ∧ mFr xSc w u) := by
  unfold mMi
  refine mM_start rfl (Nat.le_of_ble_eq_true rfl) rfl (fun X C F => vX8_plan_0 C F _ _ ?_)
  have no : ¬ (dd = 1 ∨ dd = 2) → ∃ v : Int32, (some (Value.int (-3)) : Option Value) = some (.int v) ∧ v = r_plan Z.1 Z.2.1.2.2 Z.2.1.1 dd what ∧ mFr xSc w w := fun q => ⟨_, rfl, by rw [r_plan, if_pos q], mFr.rf⟩
  refine ⟨fun z => no (fun q => ((i_12 dd).mpr q).1 z), fun z => ⟨fun z2 => no (fun q => ((i_12 dd).mpr q).2 z2), fun z2 => ?_⟩⟩
  have h1 := (i_12 dd).mp ⟨z, z2⟩
  have no : ¬ (what = 0 ∨ what = 1 ∨ what = 2) → ∃ v : Int32, (some (Value.int (-3)) : Option Value) = some (.int v) ∧ v = r_plan Z.1 Z.2.1.2.2 Z.2.1.1 dd what ∧ mFr xSc w w := fun q => ⟨_, rfl, by rw [r_plan, if_neg (nn0 h1), if_pos q], mFr.rf⟩
  refine ⟨fun z => no (fun q => ((i_02 what).mpr q).1 z), fun z => ⟨fun z2 => ?_, fun z2 => no (fun q => z2 (Int32.not_lt.mp ((i_02 what).mpr q).2))⟩⟩
  have h2 := (i_02 what).mp ⟨z, Int32.not_lt.mpr z2⟩
  rw [h.2.1.1.1, h.2.1.1.2.2]
  have fin : ∀ tw : Int32, tw = q_b (decide (dd = 2)) → mMv E MX6_seekPlan [.ref 58, .int Z.2.1.1, .long Z.2.1.2.2, .int tw] w (fun u1 => (¬ what = 0 → (¬ what = 1 → ∃ v : Int32, (some (Value.int (u1.1 58 5)) : Option Value) = some (.int v) ∧ v = r_plan Z.1 Z.2.1.2.2 Z.2.1.1 dd what ∧ mFr xSc w u1) ∧ (what = 1 → ∃ v : Int32, (some (Value.int (u1.1 58 4)) : Option Value) = some (.int v) ∧ v = r_plan Z.1 Z.2.1.2.2 Z.2.1.1 dd what ∧ mFr xSc w u1)) ∧ (what = 0 → ∃ v : Int32, (some (Value.int (u1.1 58 3 + 9999)) : Option Value) = some (.int v) ∧ v = r_plan Z.1 Z.2.1.2.2 Z.2.1.1 dd what ∧ mFr xSc w u1)) := by
    rintro tw rfl
    refine (k_X6_seekPlan h.1.1 hz.1 _ _ _).mono ?_
    rintro u2 ⟨f2, e⟩
    refine ⟨fun z => ⟨fun z2 => ⟨_, rfl, ?_, f2.mono sSx⟩, fun z2 => ⟨_, rfl, ?_, f2.mono sSx⟩⟩, fun z => ⟨_, rfl, ?_, f2.mono sSx⟩⟩
    · rw [r_plan, if_neg (nn0 h1), if_neg (nn0 h2), if_neg z, if_neg z2, ← e]; rfl
    · rw [r_plan, if_neg (nn0 h1), if_neg (nn0 h2), if_neg z, if_pos z2, ← e]; rfl
    · rw [r_plan, if_neg (nn0 h1), if_neg (nn0 h2), if_pos z, ← e]; rfl
  exact ⟨fun q => fin 0 (by rw [decide_eq_false q]; rfl), fun q => fin 1 (by rw [decide_eq_true q]; rfl)⟩
theorem x_sieges (hz : zOK Z) (h : zX Z w) (z n how : Int32) : mMi E MX8_sieges [.ref 0, .int z, .int n, .int how] w (fun v u => v = r_sieges Z.1 Z.2.1.2.2 Z.2.1.1 z n how ∧ mFr xSc w u) := by
  have h6 := hz.1.1
  unfold mMi
  refine mM_start rfl (Nat.le_of_ble_eq_true rfl) rfl (fun X C F => vX8_sieges_0 C F _ _ _ ?_)
  have no1 : ¬ (¬ z < 0 ∧ ¬ 9999 < z) → ∃ v : Int32, (some (Value.int (-3)) : Option Value) = some (.int v) ∧ v = r_sieges Z.1 Z.2.1.2.2 Z.2.1.1 z n how ∧ mFr xSc w w := fun q => ⟨_, rfl, by rw [r_sieges, if_pos q], mFr.rf⟩
  refine ⟨fun q => no1 (fun p => p.1 q), fun a1 => ⟨fun q => no1 (fun p => p.2 q), fun a2 => ?_⟩⟩
  have h1 : ¬ z < 0 ∧ ¬ 9999 < z := ⟨a1, a2⟩
  have no2 : ¬ (¬ n < 0 ∧ ¬ 9 < n) → ∃ v : Int32, (some (Value.int (-3)) : Option Value) = some (.int v) ∧ v = r_sieges Z.1 Z.2.1.2.2 Z.2.1.1 z n how ∧ mFr xSc w w := fun q => ⟨_, rfl, by rw [r_sieges, if_neg (nn0 h1), if_pos q], mFr.rf⟩
  refine ⟨fun q => no2 (fun p => p.1 q), fun a3 => ⟨fun q => no2 (fun p => p.2 q), fun a4 => ?_⟩⟩
  have h2 : ¬ n < 0 ∧ ¬ 9 < n := ⟨a3, a4⟩
  have no3 : ¬ (¬ how < 0 ∧ ¬ 2 < how) → ∃ v : Int32, (some (Value.int (-3)) : Option Value) = some (.int v) ∧ v = r_sieges Z.1 Z.2.1.2.2 Z.2.1.1 z n how ∧ mFr xSc w w := fun q => ⟨_, rfl, by rw [r_sieges, if_neg (nn0 h1), if_neg (nn0 h2), if_pos q], mFr.rf⟩
  refine ⟨fun q => no3 (fun p => p.1 q), fun a5 => ⟨fun a6 => ?_, fun q => no3 (fun p => q (Int32.not_lt.mp p.2))⟩⟩
  have h3 : ¬ how < 0 ∧ ¬ 2 < how := ⟨a5, Int32.not_lt.mpr a6⟩
  have ez : nI Z.1.1.1 = 0 ↔ Z.1.1.1 = 0 := nI_eq (b := 0) (by omega) (by omega)
  rw [h.1.1.1, ez]
  refine ⟨fun h4 => ?_, fun h4 => ⟨_, rfl, by rw [r_sieges, if_neg (nn0 h1), if_neg (nn0 h2), if_neg (nn0 h3), if_pos h4], mFr.rf⟩⟩
  obtain ⟨b, hb, rfl⟩ := i_in (m := 9) (by omega) h2
  have rr : r_sieges Z.1 Z.2.1.2.2 Z.2.1.1 z (nI b) how = q_sc Z.1 Z.2.1.2.2 Z.2.1.1 z how b := by
    rw [r_sieges, if_neg (nn0 h1), if_neg (nn0 h2), if_neg (nn0 h3), if_neg h4, nI_clamp (by omega)]
  have loop : ∀ k j : Nat, j + k = b → ∀ u2, mFr xSc w u2 → mG X E MX8_sieges 52 [.ref 0, .int z, .int (nI b), .int how, .int (q_sc Z.1 Z.2.1.2.2 Z.2.1.1 z how j), .int (nI j), .retAddr 0, .retAddr 0, .retAddr 0] [] u2 := by
    intro k
    induction k with
    | zero =>
      intro j hj u2 fu
      refine vX8_sieges_52 C F _ _ _ _ _ ?_
      exact ⟨fun _ => ⟨_, rfl, by rw [rr, show j = b by omega], fu⟩, fun h => absurd (nI_le (by omega) (by omega)) h⟩
    | succ k ih =>
      intro j hj u2 fu
      have hu := h.fr hz fu (fun c k q => Or.inl q)
      refine vX8_sieges_52 C F _ _ _ _ _ ?_
      refine ⟨fun h => absurd h (nI_ge (by omega) (by omega)), fun _ => ?_⟩
      show mMi E MX6_sumOfSiege [.ref 58, .int (q_dr z (nI j)), .int how, .int (u2.1 39 0), .long (u2.2 39 3)] u2 _
      rw [hu.2.1.1.1, hu.2.1.1.2.2]
      refine (k_X6_sumOfSiege hu.1.1 hz.1 (by omega) _ _ _ _).mono ?_
      rintro v u3 ⟨rfl, f3⟩
      have nx := ih (j + 1) (by omega) u3 (fu.tr (f3.mono sSx))
      rw [q_sc] at nx
      rw [nI_1]
      refine ⟨fun z => ?_, fun z => ?_⟩
      · rw [if_pos z] at nx; exact nx
      · rw [if_neg z] at nx; exact nx
  exact loop b 0 (by omega) w mFr.rf
theorem x_count (hz : zOK Z) (h : zX Z w) (what : Int32) : mMi E MX8_count [.ref 0, .int what] w (fun v u => v = r_count Z what ∧ mFr xSc w u) := by
  unfold mMi
  refine mM_start rfl (Nat.le_of_ble_eq_true rfl) rfl (fun X C F => vX8_count_0 C F _ ?_)
  rw [h.1.1.1, h.1.1.2.1, h.1.1.2.2.1, h.2.1.1.1, h.2.1.1.2.1, h.2.1.1.2.2, h.2.1.2.1.1, h.2.2.1.1, h.2.2.2.1]
  unfold r_count
  refine ⟨fun z => ⟨_, rfl, by rw [if_pos z], mFr.rf⟩, fun z0 => ⟨fun z => ⟨_, rfl, by rw [if_neg z0, if_pos z], mFr.rf⟩, fun z1 => ⟨fun z => ⟨_, rfl, by rw [if_neg z0, if_neg z1, if_pos z], mFr.rf⟩, fun z2 => ⟨fun z => ⟨_, rfl, by rw [if_neg z0, if_neg z1, if_neg z2, if_pos z], mFr.rf⟩, fun z3 => ⟨fun z => (k_X1_sumOf h.1.1 hz.1 _).mono ?_, fun z4 => ⟨fun z => ⟨_, rfl, by rw [if_neg z0, if_neg z1, if_neg z2, if_neg z3, if_neg z4, if_pos z], mFr.rf⟩, fun z5 => ⟨fun z => (k_X4_thingsBelieved _).mono ?_, fun z6 => ⟨fun z => ⟨_, rfl, by rw [if_neg z0, if_neg z1, if_neg z2, if_neg z3, if_neg z4, if_neg z5, if_neg z6, if_pos z], mFr.rf⟩, fun z7 => ⟨fun z => ⟨_, rfl, by rw [if_neg z0, if_neg z1, if_neg z2, if_neg z3, if_neg z4, if_neg z5, if_neg z6, if_neg z7, if_pos z], mFr.rf⟩, fun z8 => ⟨fun z => ⟨_, rfl, by rw [if_neg z0, if_neg z1, if_neg z2, if_neg z3, if_neg z4, if_neg z5, if_neg z6, if_neg z7, if_neg z8, if_pos z], mFr.rf⟩, fun z9 => ⟨_, rfl, by rw [if_neg z0, if_neg z1, if_neg z2, if_neg z3, if_neg z4, if_neg z5, if_neg z6, if_neg z7, if_neg z8, if_neg z9], mFr.rf⟩⟩⟩⟩⟩⟩⟩⟩⟩⟩⟩
  · rintro v u ⟨rfl, rfl⟩
    exact ⟨_, rfl, by rw [if_neg z0, if_neg z1, if_neg z2, if_neg z3, if_pos z], mFr.rf⟩
  · rintro v u ⟨rfl, rfl⟩
    exact ⟨_, rfl, by rw [if_neg z0, if_neg z1, if_neg z2, if_neg z3, if_neg z4, if_neg z5, if_pos z], mFr.rf⟩
end X8b
