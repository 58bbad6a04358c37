/-! ===== CONTRACTS: the reference: plans ===== -/
def pS : Nat → Nat → Prop := fun c k => lS c k ∨ (c = 75 ∧ k < 32)
theorem pSc : ∀ c k, pS c k → mSc c k := fun c k h => h.elim (lSc c k) (fun h => by unfold mSc; omega)
theorem pS_cy : ∀ c k, pS c k → ¬ mCy c k := fun c k h => mSc_cy c k (pSc c k h)
theorem c75_cy : ∀ c k, cS 75 c k → ¬ mCy c k := fun c k h => pS_cy c k (Or.inr h)
theorem q_pj_lt : ∀ j : Nat, j < 32 → q_pj j < 46000 := by decide
def r_plan (Y : mY) (M : Int64) (t dd what : Int32) : Int32 := if ¬ (dd = 1 ∨ dd = 2) then -3 else if ¬ (what = 0 ∨ what = 1 ∨ what = 2) then -3 else if what = 0 then (q_plan Y M t (q_b (decide (dd = 2)))).1 + 9999 else if what = 1 then (q_plan Y M t (q_b (decide (dd = 2)))).2.1 else (q_plan Y M t (q_b (decide (dd = 2)))).2.2
theorem i_12 (b : Int32) : (¬ b < 1 ∧ ¬ 2 < b) ↔ (b = 1 ∨ b = 2) := by
  constructor
  · rintro ⟨h1, h2⟩
    have h0 : ¬ b < 0 := fun q => h1 (Int32.lt_trans q (by decide))
    obtain ⟨j, hj, rfl⟩ := nI_of h0
    have a1 : ¬ j < 1 := fun q => h1 (show nI j < nI 1 from nI_lt q (by omega))
    have a2 : ¬ 2 < j := fun q => h2 (show nI 2 < nI j from nI_lt q hj)
    rcases (show j = 1 ∨ j = 2 by omega) with rfl | rfl
    · exact Or.inl rfl
    · exact Or.inr rfl
  · rintro (rfl | rfl) <;> decide
theorem i_02 (b : Int32) : (¬ b < 0 ∧ ¬ 2 < b) ↔ (b = 0 ∨ b = 1 ∨ b = 2) := by
  constructor
  · rintro ⟨h1, h2⟩
    obtain ⟨j, hj, rfl⟩ := nI_of h1
    have a2 : ¬ 2 < j := fun q => h2 (show nI 2 < nI j from nI_lt q hj)
    rcases (show j = 0 ∨ j = 1 ∨ j = 2 by omega) with rfl | rfl | rfl
    · exact Or.inl rfl
    · exact Or.inr (Or.inl rfl)
    · exact Or.inr (Or.inr rfl)
  · rintro (rfl | rfl | rfl) <;> decide
section K9p
variable {E : mEnv} {w : mW} {Y : mY} {t d : Int32} {M : Int64}
theorem k_X9_mostNext {a : Nat} (ha : mSh[a]? = some (.inl (0, 32, []))) (ha7 : a ≠ 67) (ha8 : a ≠ 68) (hY : cyM Y w) (hk : cyOK Y) (hM : q_ok M) (hs : snM (w.1 a) t d M) :
    mMi E MX9_mostNext [.ref 60, .ref a] w (fun v u => v = q_mt Y M t ∧ mFr lS w u) := by
  have h5 := hk.2.1
  have hn := q_arr ha
  have nl : ∀ k, ¬ lS a k := fun k h => by unfold lS at h; omega
  unfold mMi
  refine mM_start rfl (Nat.le_of_ble_eq_true rfl) rfl (fun X C F => vX9_mostNext_0 C F ha ?_)
  have inner : ∀ (j0 : Nat), j0 < 32 → ∀ (m : Int32), (∀ u, mFr lS w u → mG X E MX9_mostNext 31 [.ref 60, .ref a, .int (if q_vm Y.1.1 (q_dm (q_pj j0)) = true then q_mi Y M t (q_toS (q_dm (q_pj j0))) m Y.1.2.1 else m), .int (nI (q_pj (j0 + 1))), .retAddr 0, .retAddr 0] [] u) → ∀ k p : Nat, p + k = Y.1.2.1 → ∀ u x2, mFr lS w u → x2 = (if q_vm Y.1.1 (q_dm (q_pj j0)) = true then q_mi Y M t (q_toS (q_dm (q_pj j0))) m p else m) → mG X E MX9_mostNext 41 [.ref 60, .ref a, .int x2, .int (nI (q_pj j0)), .int (nI p), .retAddr 0] [] u := by
    intro j0 hj0 m hK k
    have hvl := q_pj_lt j0 hj0
    induction k with
    | zero =>
      intro p hp u x2 fu hx
      refine vX9_mostNext_41 C F ha _ _ _ ?_
      rw [(hY.fr fu lS_cy).2.1]
      refine ⟨fun _ => (k_X9_nextPlain hj0).mono ?_, fun h => absurd (nI_le (by omega) (by omega)) h⟩
      rintro v u2 ⟨rfl, rfl⟩
      have := hK u2 fu
      rw [hx, show p = Y.1.2.1 by omega]
      exact this
    | succ k ih =>
      intro p hp u x2 fu hx
      have hYu := hY.fr fu lS_cy
      have hsu := hs.keep fu nl
      refine vX9_mostNext_41 C F ha _ _ _ ?_
      rw [hYu.2.1]
      refine ⟨fun h => absurd h (nI_ge (by omega) (by omega)), fun _ => (k_X9_isSentence hYu hk hvl).mono ?_⟩
      rintro v u1 ⟨rfl, f1, hS⟩
      have fu1 := fu.tr (f1.mono lS_s60)
      have hY1 := hYu.fr f1 s60_cy
      have hs1 := hsu.keep f1 (fun k h => nl k (lS_s60 _ _ h))
      rw [q_b0]
      refine ⟨fun hv => (k_X9_nextPlain hj0).mono ?_, fun hv => ?_⟩
      · rintro v u2 ⟨rfl, rfl⟩
        have := hK u2 fu1
        rw [if_neg (by rw [hv]; decide)] at this hx
        rw [hx]
        exact this
      · have hv := (Bool.not_eq_false _).mp hv
        have hok := q_vm_ok hk.1 (q_dm_k hvl) hv
        rw [if_pos hv] at hx
        refine (k_X9_isSo ha ha8 hY1 hk hM hs1 hok hS _).mono ?_
        rintro v u2 ⟨rfl, f2⟩
        have hY2 := hY1.fr f2 c68_cy
        have hs2 := hs1.keep f2 (fun k h => nl k (lS_c68 _ _ h))
        have hS2 := (q_Sm_fr f2 c68_s).trans hS
        have fu2 := fu1.tr (f2.mono lS_c68)
        rw [q_b0, show (1 : Int32) <<< (nI p &&& 31) = q_1 p from rfl, nI_1]
        refine ⟨fun hz => ih (p + 1) (by omega) u2 _ fu2 ?_, fun hz => ?_⟩
        · rw [if_pos hv, q_mi, if_neg (by rw [hz]; decide)]; exact hx
        · have hz := (Bool.not_eq_false _).mp hz
          refine f_try ha sh67 ha7 hY2 hk hM hs2 hok hS2 _ (fun u3 f3 e0 _ => ?_)
          have fu3 := fu2.tr (f3.mono lS_c67)
          refine (k_X9_sumOf (hY2.fr f3 c67_cy) hk _).mono ?_
          rintro v u4 ⟨rfl, rfl⟩
          rw [e0]
          refine ⟨fun z => ih (p + 1) (by omega) u4 _ fu3 ?_, fun z => ih (p + 1) (by omega) u4 _ fu3 ?_⟩
          · rw [if_pos hv, q_mi, if_pos hz, ← hx, q_sx, if_neg (Int32.not_lt.mpr z)]
          · rw [if_pos hv, q_mi, if_pos hz, ← hx, q_sx, if_pos (Int32.not_le.mp z)]
  have main : ∀ k j : Nat, j + k = 32 → ∀ u x2, mFr lS w u → x2 = q_fo (fun j => q_vm Y.1.1 (q_dm (q_pj j))) (fun m j => q_mi Y M t (q_toS (q_dm (q_pj j))) m Y.1.2.1) (q_s0 Y M t) j → mG X E MX9_mostNext 31 [.ref 60, .ref a, .int x2, .int (nI (q_pj j)), .retAddr 0, .retAddr 0] [] u := by
    intro k
    induction k with
    | zero =>
      intro j hj u x2 fu hx
      have e : q_pj j = 46000 := by rw [show j = 32 by omega]; rfl
      refine vX9_mostNext_31 C F ha _ _ ?_
      rw [q_46 (by omega)]
      refine ⟨fun _ => ⟨_, rfl, ?_, fu⟩, fun h => absurd (by omega) h⟩
      unfold q_mt
      rw [q_fo_pl (fun m n => q_mi Y M t (q_toS n) m Y.1.2.1) _ hk.1, hx, show j = 32 by omega]
    | succ k ih =>
      intro j hj u x2 fu hx
      have hvl := q_pj_lt j (by omega)
      refine vX9_mostNext_31 C F ha _ _ ?_
      rw [q_46 (by omega)]
      refine ⟨fun h => absurd h (by omega), fun _ => inner j (by omega) x2 (fun u2 b1 => ih (j + 1) (by omega) u2 _ b1 ?_) Y.1.2.1 0 (by omega) u x2 fu ?_⟩
      · rw [q_fo, ← hx]
      · rw [q_mi, ite_self]
  refine f_try0 ha sh67 ha7 hY hk hs (fun u fu e0 _ => ?_)
  refine (k_X9_sumOf (hY.fr fu c67_cy) hk _).mono ?_
  rintro v u4 ⟨rfl, rfl⟩
  rw [e0]
  exact main 32 0 (by omega) u4 _ (fu.mono lS_c67) rfl
theorem k_X9_worthOf {a : Nat} (ha : mSh[a]? = some (.inl (0, 32, []))) (ha7 : a ≠ 67) (ha8 : a ≠ 68) (hY : cyM Y w) (hk : cyOK Y) (hM : q_ok M) (hs : snM (w.1 a) t d M) (dd : Int32) :
    mMi E MX9_worthOf [.ref 60, .ref a, .int dd] w (fun v u => v = (if dd = 1 then q_sum Y.2.1 t Y.1.1 else q_mt Y M t) ∧ mFr lS w u) := by
  unfold mMi
  refine mM_start rfl (Nat.le_of_ble_eq_true rfl) rfl (fun X C F => vX9_worthOf_0 C F ha _ ?_)
  refine ⟨fun z => (k_X9_mostNext ha ha7 ha8 hY hk hM hs).mono ?_, fun z => (k_X9_sumOf hY hk _).mono ?_⟩
  · rintro v u ⟨rfl, fu⟩
    exact ⟨_, rfl, by rw [if_neg z], fu⟩
  · rintro v u ⟨rfl, rfl⟩
    exact ⟨_, rfl, by rw [if_pos z, hs.1], mFr.rf⟩
theorem k_X9_plan (hY : cyM Y w) (hk : cyOK Y) (hM : q_ok M) (hs : snM (w.1 66) t d M) (dd what : Int32) :
    mMi E MX9_plan [.ref 60, .int dd, .int what] w (fun v u => v = r_plan Y M t dd what ∧ mFr mSc w u) := by
  have h5 := hk.2.1
  unfold mMi
  refine mM_start rfl (Nat.le_of_ble_eq_true rfl) rfl (fun X C F => vX9_plan_0 C F _ _ ?_)
  refine (k_X9_in _ _ _).mono ?_
  rintro v u ⟨rfl, rfl⟩
  rw [q_b0]
  refine ⟨fun h1 => ⟨_, rfl, by rw [r_plan, if_pos (fun z => of_decide_eq_false h1 ((i_12 dd).mpr z))], mFr.rf⟩, fun h1 => (k_X9_in _ _ _).mono ?_⟩
  have h1 := (i_12 dd).mp (of_decide_eq_true ((Bool.not_eq_false _).mp h1))
  rintro v u ⟨rfl, rfl⟩
  rw [q_b0]
  refine ⟨fun h2 => ?_, fun h2 => ⟨_, rfl, by rw [r_plan, if_neg (fun z => z h1), if_pos (fun z => of_decide_eq_false h2 ((i_02 what).mpr z))], mFr.rf⟩⟩
  have h2 := (i_02 what).mp (of_decide_eq_true ((Bool.not_eq_false _).mp h2))
  have rr : r_plan Y M t dd what = if what = 0 then (q_plan Y M t (q_b (decide (dd = 2)))).1 + 9999 else if what = 1 then (q_plan Y M t (q_b (decide (dd = 2)))).2.1 else (q_plan Y M t (q_b (decide (dd = 2)))).2.2 := by rw [r_plan, if_neg (fun z => z h1), if_neg (fun z => z h2)]
  have two : q_b (decide (dd = 2)) = 0 ↔ dd = 1 := by
    rcases h1 with rfl | rfl <;> decide
  generalize q_b (decide (dd = 2)) = tw at rr two
  have inner : ∀ (j0 : Nat), j0 < 32 → ∀ (st : mT3), (∀ u2 (s2 : mT3), mFr pS u u2 → s2 = (if q_vm Y.1.1 (q_dm (q_pj j0)) = true then q_pi Y M t tw (q_toS (q_dm (q_pj j0))) st Y.1.2.1 else st) → mG X E MX9_plan 61 [.ref 60, .int dd, .int what, .int s2.1, .int s2.2.1, .int s2.2.2, .int (nI (q_pj (j0 + 1))), .retAddr 0, .retAddr 0] [] u2) → ∀ k p : Nat, p + k = Y.1.2.1 → ∀ u2 (s2 : mT3), mFr pS u u2 → s2 = (if q_vm Y.1.1 (q_dm (q_pj j0)) = true then q_pi Y M t tw (q_toS (q_dm (q_pj j0))) st p else st) → mG X E MX9_plan 72 [.ref 60, .int dd, .int what, .int s2.1, .int s2.2.1, .int s2.2.2, .int (nI (q_pj j0)), .int (nI p), .retAddr 0] [] u2 := by
    intro j0 hj0 st hK k
    have hvl := q_pj_lt j0 hj0
    induction k with
    | zero =>
      intro p hp u2 s2 fu hx
      refine vX9_plan_72 C F _ _ _ _ _ _ _ ?_
      rw [(hY.fr fu pS_cy).2.1]
      refine ⟨fun _ => (k_X9_nextPlain hj0).mono ?_, fun h => absurd (nI_le (by omega) (by omega)) h⟩
      rintro v u3 ⟨rfl, rfl⟩
      rw [show p = Y.1.2.1 by omega] at hx
      exact hK u3 s2 fu hx
    | succ k ih =>
      intro p hp u2 s2 fu hx
      have hYu := hY.fr fu pS_cy
      have hsu := hs.keep fu (fun k h => mSc66 k (pSc _ _ h))
      refine vX9_plan_72 C F _ _ _ _ _ _ _ ?_
      rw [hYu.2.1]
      refine ⟨fun h => absurd h (nI_ge (by omega) (by omega)), fun _ => (k_X9_isSentence hYu hk hvl).mono ?_⟩
      rintro v u3 ⟨rfl, f1, hS⟩
      have fu1 := fu.tr (f1.mono (fun c k h => Or.inl (lS_s60 c k h)))
      have hY1 := hYu.fr f1 s60_cy
      have hs1 := hsu.keep f1 (fun k h => by unfold s60 at h; omega)
      rw [q_b0, nI_1]
      refine ⟨fun hv => ih (p + 1) (by omega) u3 s2 fu1 ?_, fun hv => ?_⟩
      · rw [if_neg (by rw [hv]; decide)] at hx ⊢; exact hx
      · have hv := (Bool.not_eq_false _).mp hv
        have hok := q_vm_ok hk.1 (q_dm_k hvl) hv
        rw [if_pos hv] at hx
        refine (k_X9_isSo sh66 (by omega) hY1 hk hM hs1 hok hS _).mono ?_
        rintro v u4 ⟨rfl, f2⟩
        have hY2 := hY1.fr f2 c68_cy
        have hs2 := hs1.keep f2 (fun k h => by unfold cS at h; omega)
        have hS2 := (q_Sm_fr f2 c68_s).trans hS
        have fu2 := fu1.tr (f2.mono (fun c k h => Or.inl (lS_c68 c k h)))
        rw [q_b0, show (1 : Int32) <<< (nI p &&& 31) = q_1 p from rfl]
        refine ⟨fun hz => ih (p + 1) (by omega) u4 s2 fu2 ?_, fun hz => ?_⟩
        · rw [if_pos hv, q_pi, if_neg (fun q => by rw [hz] at q; exact absurd q.1 (by decide))]; exact hx
        · have hz := (Bool.not_eq_false _).mp hz
          refine f_try sh66 sh75 (by omega) hY2 hk hM hs2 hok hS2 _ (fun u5 f3 e0 hs5 => ?_)
          have fu3 := fu2.tr (f3.mono (fun c k h => Or.inr h))
          refine (k_X9_worthOf sh75 (by omega) (by omega) (hY2.fr f3 c75_cy) hk (q_Ms_ok hM hok (q_1 p) _ h5).1 hs5 dd).mono ?_
          rintro v u6 ⟨rfl, f6⟩
          have fu6 := fu3.tr (f6.mono (fun c k h => Or.inl h))
          have ev : (if dd = 1 then q_sum Y.2.1 (q_dawn Y (q_ad Y (q_toS (q_dm (q_pj j0))) M (q_1 p)) t) Y.1.1 else q_mt Y (q_Ms Y (q_toS (q_dm (q_pj j0))) M (q_1 p) Y.1.2.1) (q_dawn Y (q_ad Y (q_toS (q_dm (q_pj j0))) M (q_1 p)) t)) = q_sp2 Y (q_toS (q_dm (q_pj j0))) M t (q_1 p) tw := by
            unfold q_sp2
            by_cases z : dd = 1
            · rw [if_pos z, if_pos (two.mpr z)]; rfl
            · rw [if_neg z, if_neg (fun q => z (two.mp q))]
          rw [ev]
          refine ⟨fun z => ih (p + 1) (by omega) u6 s2 fu6 ?_, fun z => ih (p + 1) (by omega) u6 (q_sp2 Y (q_toS (q_dm (q_pj j0))) M t (q_1 p) tw, nI (q_pj j0), nI p) fu6 ?_⟩
          · rw [if_pos hv, q_pi, ← hx, if_neg (fun q => absurd q.2 (Int32.not_lt.mpr z))]
          · rw [if_pos hv, q_pi, ← hx, if_pos ⟨hz, Int32.not_le.mp z⟩, q_nm_dm]
  have main : ∀ k j : Nat, j + k = 32 → ∀ u2 (s2 : mT3), mFr pS u u2 → s2 = q_fo (fun j => q_vm Y.1.1 (q_dm (q_pj j))) (fun st j => q_pi Y M t tw (q_toS (q_dm (q_pj j))) st Y.1.2.1) (q_sp0 Y M t tw, -1, -1) j → mG X E MX9_plan 61 [.ref 60, .int dd, .int what, .int s2.1, .int s2.2.1, .int s2.2.2, .int (nI (q_pj j)), .retAddr 0, .retAddr 0] [] u2 := by
    intro k
    induction k with
    | zero =>
      intro j hj u2 s2 fu hx
      have e : q_pj j = 46000 := by rw [show j = 32 by omega]; rfl
      have fin : q_plan Y M t tw = s2 := by
        unfold q_plan
        rw [q_fo_pl (fun st n => q_pi Y M t tw (q_toS n) st Y.1.2.1) _ hk.1, hx, show j = 32 by omega]
      refine vX9_plan_61 C F _ _ _ _ _ _ ?_
      rw [q_46 (by omega)]
      refine ⟨fun _ => ⟨fun z => ⟨fun z2 => ⟨_, rfl, ?_, fu.mono pSc⟩, fun z2 => ⟨_, rfl, ?_, fu.mono pSc⟩⟩, fun z => ⟨_, rfl, ?_, fu.mono pSc⟩⟩, fun h => absurd (by omega) h⟩
      · rw [rr, if_neg z, if_neg z2, fin]
      · rw [rr, if_neg z, if_pos z2, fin]
      · rw [rr, if_pos z, fin]
    | succ k ih =>
      intro j hj u2 s2 fu hx
      have hvl := q_pj_lt j (by omega)
      refine vX9_plan_61 C F _ _ _ _ _ _ ?_
      rw [q_46 (by omega)]
      refine ⟨fun h => absurd h (by omega), fun _ => inner j (by omega) s2 (fun u3 s3 b1 b2 => ih (j + 1) (by omega) u3 s3 b1 ?_) Y.1.2.1 0 (by omega) u2 s2 fu ?_⟩
      · rw [q_fo, ← hx]; exact b2
      · rw [q_pi, ite_self]
  refine f_try0 sh66 sh75 (by omega) hY hk hs (fun u3 f3 e0 hs5 => ?_)
  refine (k_X9_worthOf sh75 (by omega) (by omega) (hY.fr f3 c75_cy) hk hM hs5 dd).mono ?_
  rintro v u6 ⟨rfl, f6⟩
  have ev : (if dd = 1 then q_sum Y.2.1 (q_dawn Y (q_dd Y M) t) Y.1.1 else q_mt Y M (q_dawn Y (q_dd Y M) t)) = q_sp0 Y M t tw := by
    unfold q_sp0
    by_cases z : dd = 1
    · rw [if_pos z, if_pos (two.mpr z)]; rfl
    · rw [if_neg z, if_neg (fun q => z (two.mp q))]
  rw [ev]
  exact main 32 0 (by omega) u6 (_, -1, -1) ((f3.mono (fun c k h => Or.inr h)).tr (f6.mono (fun c k h => Or.inl h))) rfl
end K9p
