/-! ===== CONTRACTS: the reference: sieges ===== -/
def q_dx (z k : Int32) : Int64 := (((7919 : Int64) * (z.toInt64)) + ((6151 : Int64) * (k.toInt64))) + (1 : Int64)
def q_dr (z k : Int32) : Int32 := ((q_dx z k * q_dx z k) - (q_dx z k * q_dx z k) / (65521 : Int64) * (65521 : Int64)).toInt32
theorem q_bm {x : Int} (h1 : 0 ≤ x) (h2 : x < 2 ^ 60) : x.bmod (2 ^ 64) = x := Int.bmod_eq_of_le (by omega) (by omega)
theorem q_dr_nat {a b : Nat} (ha : a ≤ 9999) (hb : b < 9) : ∃ r : Nat, r < 65521 ∧ q_dr (nI a) (nI b) = nI r := by
  have ea : (nI a).toInt64.toInt = (a : Int) := by rw [Int32.toInt_toInt64, nI_toInt (by omega)]
  have eb : (nI b).toInt64.toInt = (b : Int) := by rw [Int32.toInt_toInt64, nI_toInt (by omega)]
  have ex : (q_dx (nI a) (nI b)).toInt = 7919 * (a : Int) + 6151 * (b : Int) + 1 := by
    unfold q_dx
    have p1 : ((7919 : Int64) * (nI a).toInt64).toInt = 7919 * (a : Int) := by
      rw [Int64.toInt_mul, ea, show (7919 : Int64).toInt = 7919 by decide, q_bm (by omega) (by omega)]
    have p2 : ((6151 : Int64) * (nI b).toInt64).toInt = 6151 * (b : Int) := by
      rw [Int64.toInt_mul, eb, show (6151 : Int64).toInt = 6151 by decide, q_bm (by omega) (by omega)]
    rw [Int64.toInt_add, Int64.toInt_add, p1, p2, show (1 : Int64).toInt = 1 by decide, q_bm (x := 7919 * (a : Int) + 6151 * (b : Int)) (by omega) (by omega), q_bm (by omega) (by omega)]
  generalize hN : 7919 * a + 6151 * b + 1 = N at *
  have eN : (q_dx (nI a) (nI b)).toInt = (N : Int) := by rw [ex]; omega
  have hl : N < 100000000 := by omega
  have hl2 : N * N < 10000000000000000 := Nat.lt_of_lt_of_le (Nat.mul_lt_mul_of_lt_of_le hl (Nat.le_of_lt hl) (by omega)) (by decide)
  have exx : (q_dx (nI a) (nI b) * q_dx (nI a) (nI b)).toInt = ((N * N : Nat) : Int) := by
    rw [Int64.toInt_mul, eN, ← Int.natCast_mul, q_bm (by omega) (by omega)]
  unfold q_dr
  generalize q_dx (nI a) (nI b) * q_dx (nI a) (nI b) = S at exx
  generalize N * N = K at exx hl2
  have ed : (S / (65521 : Int64)).toInt = ((K / 65521 : Nat) : Int) := by
    rw [Int64.toInt_div, exx, show (65521 : Int64).toInt = 65521 by decide, Int.tdiv_eq_ediv_of_nonneg (by omega), q_bm (by omega) (by omega)]
    omega
  have em : (S / (65521 : Int64) * (65521 : Int64)).toInt = ((K / 65521 * 65521 : Nat) : Int) := by
    rw [Int64.toInt_mul, ed, show (65521 : Int64).toInt = 65521 by decide, q_bm (by omega) (by omega)]
    omega
  have es : (S - S / (65521 : Int64) * (65521 : Int64)).toInt = ((K % 65521 : Nat) : Int) := by
    rw [Int64.toInt_sub, exx, em, q_bm (by omega) (by omega)]
    omega
  refine ⟨K % 65521, Nat.mod_lt _ (by omega), ?_⟩
  apply Int32.toInt_inj.mp
  rw [Int64.toInt_toInt32, es, nI_toInt (by omega)]
  exact Int.bmod_eq_of_le (by omega) (by omega)
def q_sc (Y : mY) (M : Int64) (t z how : Int32) : Nat → Int32
  | 0 => 0
  | k + 1 => if q_sg Y M t (q_dr z (nI k)) how < 0 then q_sc Y M t z how k else q_sc Y M t z how k + 1
def r_sieges (Y : mY) (M : Int64) (t z n how : Int32) : Int32 := if ¬ (¬ z < 0 ∧ ¬ 9999 < z) then -3 else if ¬ (¬ n < 0 ∧ ¬ 9 < n) then -3 else if ¬ (¬ how < 0 ∧ ¬ 2 < how) then -3 else if Y.1.1 = 0 then -4 else q_sc Y M t z how n.toNatClampNeg
def dS : Nat → Nat → Prop := fun c k => lS c k ∨ (c = 69 ∧ k < 32)
theorem dSc : ∀ c k, dS c k → mSc c k := fun c k h => h.elim (lSc c k) (fun h => by unfold mSc; omega)
theorem dS_cy : ∀ c k, dS c k → ¬ mCy c k := fun c k h => mSc_cy c k (dSc c k h)
theorem i_in {v : Int32} {m : Nat} (hm : m < 2 ^ 31) (h : ¬ v < 0 ∧ ¬ nI m < v) : ∃ j : Nat, j ≤ m ∧ v = nI j := by
  obtain ⟨j, hj, rfl⟩ := nI_of h.1
  exact ⟨j, Nat.le_of_not_lt (fun q => h.2 (nI_lt q hj)), rfl⟩
section K9g
variable {E : mEnv} {w : mW} {Y : mY} {t d : Int32} {M : Int64}
theorem k_X9_isSaved (hY : cyM Y w) (hk : cyOK Y) (hM : q_ok M) (hs : snM (w.1 66) t d M) (hn : 0 < Y.1.1) {r : Nat} (hr : r < 65521) (how : Int32) :
    mMi E MX9_isSaved [.ref 60, .int (nI r), .int how] w (fun v u => v = q_b (!decide (q_sg Y M t (nI r) how < 0)) ∧ mFr dS w u) := by
  have h5 := hk.2.1
  have h6 := hk.1
  have n0 : ¬ nI Y.1.1 = 0 := nI_ne0 hn (by omega)
  have e8 : nI r / 8 = nI (r / 8) := pk_div (d := 8) (by omega) (by omega) (by omega)
  have e64 : nI r / 64 = nI (r / 64) := pk_div (d := 64) (by omega) (by omega) (by omega)
  have r8 : nI (r / 8) - nI (r / 8) / nI Y.1.1 * nI Y.1.1 = nI (r / 8 % Y.1.1) := pk_rem (by omega) hn (by omega)
  have r64 : nI (r / 64) - nI (r / 64) / 2 * 2 = nI (r / 64 % 2) := pk_rem (d := 2) (by omega) (by omega) (by omega)
  have l8 : r / 8 % Y.1.1 < Y.1.1 := Nat.mod_lt _ hn
  have b64 : nI (r / 64 % 2) = 0 ∨ nI (r / 64 % 2) = 1 := q_01n (Nat.mod_lt _ (by omega))
  unfold mMi
  refine mM_start rfl (Nat.le_of_ble_eq_true rfl) rfl (fun X C F => vX9_isSaved_0 C F _ _ ?_)
  refine (k_X9_copy (x := 0) (y := 0) sh66 sh69 (by omega) (by omega) (by omega) (by omega) (by omega)).mono ?_
  rintro u1 ⟨f1, r1⟩
  have g1 : mFr (cS 69) w u1 := f1.mono (fun c k h => by unfold cS; omega)
  have c69 : ∀ c k, cS 69 c k → ¬ mCy c k := fun c k h => dS_cy c k (Or.inr h)
  have hs1 : snM (u1.1 69) t d M := hs.fr (fun k hk => by have := r1 k hk; simpa using this)
  have hY1 := hY.fr g1 c69
  rw [hY1.1, hs1.1]
  generalize hw2 : mPI u1 69 0 (t ^^^ ((1 : Int32) <<< ((nI r - nI r / nI Y.1.1 * nI Y.1.1) &&& 31))) = w2
  have g2 : mFr (cS 69) w w2 := by rw [← hw2]; exact g1.tr (mFr.pi (S := cS 69) ⟨rfl, by omega⟩)
  have hY2 := hY.fr g2 c69
  have hs2 : snM (w2.1 69) (q_tn (nI Y.1.1) (nI r) t) d M := by
    rw [← hw2]
    exact ⟨mPI_at _ _ _ _, by rw [mPI_col (by omega)]; exact hs1.2.1, fun p f hp hf => by rw [mPI_col (by omega)]; exact hs1.2.2 p f hp hf⟩
  have toD : ∀ {T : Nat → Nat → Prop} {a b : mW}, mFr T a b → (∀ c k, T c k → lS c k) → mFr dS a b := fun f h => f.mono (fun c k z => Or.inl (h c k z))
  have gD : mFr dS w w2 := g2.mono (fun c k h => Or.inr h)
  refine ⟨n0, fun h1 => ?_, fun h1 => ?_⟩
  · have key : q_sg Y M t (nI r) how = q_s0 Y (if how = 2 then q_gu M (nI (r / 8 % Y.1.1)) (nI (r / 64 % 2)) Y.1.2.1 else M) (q_tn (nI Y.1.1) (nI r) t) := by
      rw [q_sg, if_neg h1, e8, r8, e64, r64]
    have fin : ∀ u N, mFr dS w u → cyM Y u → snM (u.1 69) (q_tn (nI Y.1.1) (nI r) t) d N → N = (if how = 2 then q_gu M (nI (r / 8 % Y.1.1)) (nI (r / 64 % 2)) Y.1.2.1 else M) → mMv E MX9_pass [.ref 60, .ref 69] u (fun u3 => mMi E MX9_sumOf [.ref 60, .int (u3.1 69 0)] u3 (fun v2 u4 => (v2 < 0 → ∃ v : Int32, (some (Value.int 0) : Option Value) = some (.int v) ∧ v = q_b (!decide (q_sg Y M t (nI r) how < 0)) ∧ mFr dS w u4) ∧ (¬ v2 < 0 → ∃ v : Int32, (some (Value.int 1) : Option Value) = some (.int v) ∧ v = q_b (!decide (q_sg Y M t (nI r) how < 0)) ∧ mFr dS w u4))) := by
      rintro u N fu hYu hsu rfl
      refine f_pass sh69 hYu hk hsu (fun u4 f4 => ?_)
      have f5 : mFr dS w u4 := fu.tr (f4.mono (fun c k h => Or.inr (by unfold aS at h; omega)))
      rw [← key]
      refine ⟨fun z => ⟨_, rfl, ?_, f5⟩, fun z => ⟨_, rfl, ?_, f5⟩⟩
      · rw [decide_eq_true z]; rfl
      · rw [decide_eq_false z]; rfl
    have loop : ∀ k p : Nat, p + k = Y.1.2.1 → ∀ u, mFr dS w u → (how = 2 ∨ p = 0) → q_ok (q_gu M (nI (r / 8 % Y.1.1)) (nI (r / 64 % 2)) p) → snM (u.1 69) (q_tn (nI Y.1.1) (nI r) t) d (q_gu M (nI (r / 8 % Y.1.1)) (nI (r / 64 % 2)) p) → mG X E MX9_isSaved 62 [.ref 60, .int (nI r), .int how, .int (nI p)] [] u := by
      intro k
      induction k with
      | zero =>
        intro p hp u fu ho hok hsu
        have hYu := hY.fr fu dS_cy
        refine vX9_isSaved_62 C F _ _ _ ?_
        rw [hYu.2.1]
        refine ⟨fun _ => fin u _ fu hYu hsu ?_, fun h => absurd (nI_le (by omega) (by omega)) h⟩
        by_cases z : how = 2
        · rw [if_pos z, show p = Y.1.2.1 by omega]
        · rw [if_neg z]
          rcases ho with q | q
          · exact absurd q z
          · rw [q]; rfl
      | succ k ih =>
        intro p hp u fu ho hok hsu
        have hYu := hY.fr fu dS_cy
        refine vX9_isSaved_62 C F _ _ _ ?_
        rw [hYu.2.1, hYu.1]
        refine ⟨fun h => absurd h (nI_ge (by omega) (by omega)), fun _ => ⟨fun z => fin u _ fu hYu hsu ?_, fun z => ?_⟩⟩
        · rw [if_neg z]
          rcases ho with q | q
          · exact absurd q z
          · rw [q]; rfl
        · rw [e8, r8, e64, r64, q_6p, show (2 : Int32) + nI (6 * p) = nI (2 + 6 * p) from q_k 2 _, nI_add, nI_clamp (by omega), nI_1]
          refine ⟨n0, vp_in_nI (by omega) (by omega), ?_⟩
          rintro w3 rfl
          refine ih (p + 1) (by omega) _ (fu.tr (mFr.pi (S := dS) (Or.inr ⟨rfl, by omega⟩))) (Or.inl z) ?_ ?_
          · exact q_sn_ok hok (by omega) (by omega) b64
          · exact snM_put hsu hok (by omega) (by omega) b64 (mPI_at _ _ _ _) (fun k _ h => mPI_col h)
    exact loop Y.1.2.1 0 (by omega) w2 gD (Or.inr rfl) hM hs2
  · refine (k_X9_layBest sh69 (by omega) (by omega) hY2 hk hM hs2).mono ?_
    rintro u3 ⟨f3, h3⟩
    have f5 : mFr dS w u3 := gD.tr (f3.mono (fun c k h => Or.inl h))
    have e3 : u3.1 60 34 = q_sg Y M t (nI r) how := by
      rw [q_sg, if_pos h1]
      show (q_m3 u3).1 = _
      rw [h3]
    rw [e3]
    refine ⟨fun z => ⟨_, rfl, ?_, f5⟩, fun z => ⟨_, rfl, ?_, f5⟩⟩
    · rw [decide_eq_true z]; rfl
    · rw [decide_eq_false z]; rfl
theorem k_X9_sieges (hY : cyM Y w) (hk : cyOK Y) (hM : q_ok M) (hs : snM (w.1 66) t d M) (z n how : Int32) :
    mMi E MX9_sieges [.ref 60, .int z, .int n, .int how] w (fun v u => v = r_sieges Y M t z n how ∧ mFr mSc w u) := by
  have h6 := hk.1
  unfold mMi
  refine mM_start rfl (Nat.le_of_ble_eq_true rfl) rfl (fun X C F => vX9_sieges_0 C F _ _ _ ?_)
  refine (k_X9_in _ _ _).mono ?_
  rintro v u ⟨rfl, rfl⟩
  rw [q_b0]
  refine ⟨fun h1 => ⟨_, rfl, by rw [r_sieges, if_pos (of_decide_eq_false h1)], mFr.rf⟩, fun h1 => (k_X9_in _ _ _).mono ?_⟩
  have h1 := of_decide_eq_true ((Bool.not_eq_false _).mp h1)
  rintro v u ⟨rfl, rfl⟩
  rw [q_b0]
  refine ⟨fun h2 => ⟨_, rfl, by rw [r_sieges, if_neg (fun q => q h1), if_pos (of_decide_eq_false h2)], mFr.rf⟩, fun h2 => (k_X9_in _ _ _).mono ?_⟩
  have h2 := of_decide_eq_true ((Bool.not_eq_false _).mp h2)
  rintro v u ⟨rfl, rfl⟩
  rw [q_b0, hY.1]
  refine ⟨fun h3 => ?_, fun h3 => ⟨_, rfl, by rw [r_sieges, if_neg (fun q => q h1), if_neg (fun q => q h2), if_pos (of_decide_eq_false h3)], mFr.rf⟩⟩
  have h3 := of_decide_eq_true ((Bool.not_eq_false _).mp h3)
  have ez : nI Y.1.1 = 0 ↔ Y.1.1 = 0 := nI_eq (b := 0) (by omega) (by omega)
  rw [ez]
  refine ⟨fun h4 => ?_, fun h4 => ⟨_, rfl, by rw [r_sieges, if_neg (fun q => q h1), if_neg (fun q => q h2), if_neg (fun q => q h3), if_pos h4], mFr.rf⟩⟩
  obtain ⟨a, ha, rfl⟩ := i_in (m := 9999) (by omega) h1
  obtain ⟨b, hb, rfl⟩ := i_in (m := 9) (by omega) h2
  have rr : r_sieges Y M t (nI a) (nI b) how = q_sc Y M t (nI a) how b := by
    rw [r_sieges, if_neg (fun q => q h1), if_neg (fun q => q h2), if_neg (fun q => q h3), if_neg h4, nI_clamp (by omega)]
  have loop : ∀ k j : Nat, j + k = b → ∀ u2, mFr mSc u u2 → mG X E MX9_sieges 49 [.ref 60, .int (nI a), .int (nI b), .int how, .int (q_sc Y M t (nI a) how j), .int (nI j), .retAddr 0, .retAddr 0, .retAddr 0] [] u2 := by
    intro k
    induction k with
    | zero =>
      intro j hj u2 fu
      refine vX9_sieges_49 C F _ _ _ _ _ ?_
      exact ⟨fun _ => ⟨_, rfl, by rw [rr, show j = b by omega], fu⟩, fun h => absurd (nI_le (by omega) (by omega)) h⟩
    | succ k ih =>
      intro j hj u2 fu
      obtain ⟨r, hr, er⟩ := q_dr_nat (a := a) (b := j) ha (by omega)
      refine vX9_sieges_49 C F _ _ _ _ _ ?_
      refine ⟨fun h => absurd h (nI_ge (by omega) (by omega)), fun _ => ?_⟩
      show mMi E MX9_isSaved [.ref 60, .int (q_dr (nI a) (nI j)), .int how] u2 _
      rw [er]
      refine (k_X9_isSaved (hY.fr fu mSc_cy) hk hM (hs.keep fu mSc66) (by omega) hr how).mono ?_
      rintro v u3 ⟨rfl, f3⟩
      have fu3 := fu.tr (f3.mono dSc)
      have nx := ih (j + 1) (by omega) u3 fu3
      rw [q_sc, er] at nx
      rw [q_b0, nI_1]
      refine ⟨fun z => ?_, fun z => ?_⟩
      · rw [if_pos (by simpa using z)] at nx
        rw [show q_sc Y M t (nI a) how j + 0 = q_sc Y M t (nI a) how j by simp]
        exact nx
      · rw [if_neg (by simpa using z)] at nx
        exact nx
  exact loop b 0 (by omega) u mFr.rf
end K9g
