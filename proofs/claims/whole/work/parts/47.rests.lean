/-! ===== CONTRACTS: the reference: rests, and the scratch of both sides ===== -/
def mSc : Nat → Nat → Prop := fun c k => (c = 60 ∧ ((8 ≤ k ∧ k ≤ 17) ∨ (29 ≤ k ∧ k ≤ 36))) ∨ c = 65 ∨ c = 67 ∨ c = 68 ∨ c = 69 ∨ c = 74 ∨ c = 75
def xSc : Nat → Nat → Prop := fun c k => (46 ≤ c ∧ c ≤ 59) ∨ (c = 22 ∧ 3 ≤ k) ∨ (25 ≤ c ∧ c ≤ 38) ∨ (c = 43 ∧ (k = 3 ∨ k = 4))
theorem lSc : ∀ c k, lS c k → mSc c k := fun c k h => by unfold lS at h; unfold mSc; omega
theorem mSc_cy : ∀ c k, mSc c k → ¬ mCy c k := fun c k h => by unfold mSc at h; unfold mCy; omega
theorem mSc66 : ∀ k, ¬ mSc 66 k := fun k h => by unfold mSc at h; omega
theorem q_sn_ok {M : Int64} (hM : q_ok M) {p f : Nat} (hp : p < 5) (hf : f < 6) {b : Int32} (hb : b = 0 ∨ b = 1) : q_ok (q_sn M (nI p) (nI f) b) := q_ok_wm hM (q_can_hd (hM.2 p hp) hb hf) hp
theorem snM_put {r s : Nat → Int32} {t d : Int32} {M : Int64} (h : snM r t d M) (hM : q_ok M) {p f : Nat} (hp : p < 5) (hf : f < 6) {b : Int32} (hb : b = 0 ∨ b = 1) (e0 : s (2 + 6 * p + f) = b) (e1 : ∀ k, k < 32 → k ≠ 2 + 6 * p + f → s k = r k) : snM s t d (q_sn M (nI p) (nI f) b) := by
  refine ⟨(e1 0 (by omega) (by omega)).trans h.1, (e1 1 (by omega) (by omega)).trans h.2.1, fun q g hq hg => ?_⟩
  unfold q_sn
  rw [q_mo_wm _ (q_can_hd (hM.2 p hp) hb hf).1 hp hq]
  by_cases e : q = p
  · subst e
    rw [if_pos rfl, q_bel_hd _ hb hf hg]
    by_cases e2 : g = f
    · subst e2; rw [if_pos rfl]; exact e0
    · rw [if_neg e2, e1 _ (by omega) (by omega)]; exact h.2.2 q g hq hg
  · rw [if_neg e, e1 _ (by omega) (by omega)]; exact h.2.2 q g hq hg
def q_rd (s : Nat → Int32) : Nat → mT2
  | 0 => (0, -1)
  | i + 1 => if q_rP s (3 - i) = true then ((q_rd s i).1 + 1, nI (3 - i)) else q_rd s i
theorem q_rd_rc (s : Nat → Int32) : q_rd s 4 = q_rc s 4 := by
  have d1 : ¬ (1 : Int32) = 0 := by decide
  have d2 : ¬ (1 : Int32) + 1 = 0 := by decide
  have d3 : ¬ (1 : Int32) + 1 + 1 = 0 := by decide
  have z : (0 : Int32) + 1 = 1 := by decide
  simp only [q_rd, q_rc, q_ci, show 3 - 0 = 3 from rfl, show 3 - 1 = 2 from rfl, show 3 - 2 = 1 from rfl, show 3 - 3 = 0 from rfl]
  cases q_rP s 0 <;> cases q_rP s 1 <;> cases q_rP s 2 <;> cases q_rP s 3 <;> simp [d1, d2, d3, z]
/-- one of the people, a fact, a bit -/
abbrev i_one (Y : mY) (p : Int32) : Prop := ¬ p < 0 ∧ ¬ nI Y.1.2.1 ≤ p
abbrev i_fact (Y : mY) (f : Int32) : Prop := ¬ f < 0 ∧ ¬ nI Y.1.1 ≤ f
abbrev i_bit (b : Int32) : Prop := b = 0 ∨ b = 1
theorem i_one_of {Y : mY} (hk : cyOK Y) {p : Int32} (h : i_one Y p) : ∃ i : Nat, i < Y.1.2.1 ∧ p = nI i := by
  have h5 := hk.2.1
  obtain ⟨j, hj, rfl⟩ := nI_of h.1
  exact ⟨j, Nat.lt_of_not_le (fun q => h.2 (nI_le q (by omega))), rfl⟩
theorem i_fact_of {Y : mY} (hk : cyOK Y) {p : Int32} (h : i_fact Y p) : ∃ i : Nat, i < Y.1.1 ∧ p = nI i := by
  have h5 := hk.1
  obtain ⟨j, hj, rfl⟩ := nI_of h.1
  exact ⟨j, Nat.lt_of_not_le (fun q => h.2 (nI_le q (by omega))), rfl⟩
def r_rests (Y : mY) (M : Int64) (t p q f b what : Int32) : Int32 := if ¬ i_one Y p then -2 else if ¬ i_one Y q then -2 else if p = q then -2 else if ¬ i_fact Y f then -2 else if ¬ i_bit b then -3 else if ¬ i_bit what then -3 else if what = 0 then (q_rc (q_rs Y M t p q f b) 4).1 else (q_rc (q_rs Y M t p q f b) 4).2
theorem i_bit1 {b : Int32} (h : i_bit b) : (1 : Int32) - b = 0 ∨ (1 : Int32) - b = 1 := by
  rcases h with rfl | rfl
  · exact Or.inr (by decide)
  · exact Or.inl (by decide)
theorem r_c1 : ∀ j : Nat, j < 4 → (nI j ≤ 1 ↔ ¬ j / 2 = 1) := by decide
theorem r_c2 : ∀ j : Nat, j < 4 → (nI j - nI j / 2 * 2 = 1 ↔ j % 2 = 1) := by decide
section K9r
variable {E : mEnv} {w : mW} {Y : mY} {t d : Int32} {M : Int64}
/-- behind the tries: a night, and its sum -/
theorem f_pass {a : Nat} (ha : mSh[a]? = some (.inl (0, 32, []))) (hY : cyM Y w) (hk : cyOK Y) (hs : snM (w.1 a) t d M) {Q : Int32 → mW → Prop} (hQ : ∀ u, mFr (aS a) w u → Q (q_s0 Y M t) u) : mMv E MX9_pass [.ref 60, .ref a] w (fun u1 => mMi E MX9_sumOf [.ref 60, .int (u1.1 a 0)] u1 Q) := by
  have hn := q_arr ha
  refine (k_X9_pass ha hY hk hs).mono ?_
  rintro u ⟨f, e0, -⟩
  refine (k_X9_sumOf (hY.fr f (fun c k h => by unfold aS at h; unfold mCy; omega)) hk _).mono ?_
  rintro v u2 ⟨rfl, rfl⟩
  rw [e0]
  exact hQ u2 f
theorem k_X9_sumBy (hY : cyM Y w) (hk : cyOK Y) (hM : q_ok M) (hs : snM (w.1 66) t d M) {p q f : Nat} (hp : p < Y.1.2.1) (hq : q < Y.1.2.1) (hf : f < Y.1.1) {b : Int32} (hb : i_bit b) {j : Nat} (hj : j < 4) :
    mMi E MX9_sumBy [.ref 60, .int (nI p), .int (nI q), .int (nI f), .int b, .int (nI j)] w (fun v u => v = q_rs Y M t (nI p) (nI q) (nI f) b j ∧ mFr lS w u) := by
  have h5 := hk.2.1
  have h6 := hk.1
  unfold mMi
  refine mM_start rfl (Nat.le_of_ble_eq_true rfl) rfl (fun X C F => vX9_sumBy_0 C F _ _ _ _ _ ?_)
  refine (k_X9_copy (x := 0) (y := 0) sh66 sh67 (by omega) (by omega) (by omega) (by omega) (by omega)).mono ?_
  rintro u1 ⟨f1, r1⟩
  have g1 : mFr (cS 67) w u1 := f1.mono (fun c k h => by unfold cS; omega)
  have hs1 : snM (u1.1 67) t d M := hs.fr (fun k hk => by have := r1 k hk; simpa using this)
  rw [q_6p, q_6p, show (2 : Int32) + nI (6 * p) = nI (2 + 6 * p) from q_k 2 _, show (2 : Int32) + nI (6 * q) = nI (2 + 6 * q) from q_k 2 _, nI_add, nI_add, nI_clamp (by omega), nI_clamp (by omega), r_c1 j hj, r_c2 j hj]
  have fin : ∀ x y : Int32, i_bit x → i_bit y → x = (if j / 2 = 1 then b else 1 - b) → y = (if j % 2 = 1 then b else 1 - b) → ∀ w2 : mW, w2 = mPI (mPI u1 67 (2 + 6 * p + f) x) 67 (2 + 6 * q + f) y → mMv E MX9_pass [.ref 60, .ref 67] w2 (fun u2 => mMi E MX9_sumOf [.ref 60, .int (u2.1 67 0)] u2 (fun v1 u3 => ∃ v : Int32, (some (Value.int v1) : Option Value) = some (.int v) ∧ v = q_rs Y M t (nI p) (nI q) (nI f) b j ∧ mFr lS w u3)) := by
    rintro x y hx hy ex ey w2 rfl
    have hsa : snM ((mPI u1 67 (2 + 6 * p + f) x).1 67) t d (q_sn M (nI p) (nI f) x) := snM_put hs1 hM (by omega) (by omega) hx (mPI_at _ _ _ _) (fun k _ h => mPI_col h)
    have hsb : snM ((mPI (mPI u1 67 (2 + 6 * p + f) x) 67 (2 + 6 * q + f) y).1 67) t d (q_sn (q_sn M (nI p) (nI f) x) (nI q) (nI f) y) := snM_put hsa (q_sn_ok hM (by omega) (by omega) hx) (by omega) (by omega) hy (mPI_at _ _ _ _) (fun k _ h => mPI_col h)
    have g2 : mFr (cS 67) w (mPI (mPI u1 67 (2 + 6 * p + f) x) 67 (2 + 6 * q + f) y) := g1.tr ((mFr.pi (S := cS 67) ⟨rfl, by omega⟩).tr (mFr.pi (S := cS 67) ⟨rfl, by omega⟩))
    refine f_pass sh67 (hY.fr g2 c67_cy) hk hsb (fun u fu => ⟨_, rfl, ?_, (g2.mono lS_c67).tr (fu.mono (fun c k h => by unfold aS at h; unfold lS; omega))⟩)
    unfold q_rs; rw [← ex, ← ey]
  have vi : ∀ p : Nat, p < Y.1.2.1 → vp_in (nI (2 + 6 * p + f)) 32 := fun p hp => vp_in_nI (by omega) (by omega)
  refine ⟨fun a1 => ⟨vi p hp, ?_⟩, fun a1 => ⟨vi p hp, ?_⟩⟩
  · rintro w1 rfl
    exact ⟨fun a2 => ⟨vi q hq, fin _ _ (i_bit1 hb) (i_bit1 hb) (by rw [if_neg a1]) (by rw [if_neg a2])⟩, fun a2 => ⟨vi q hq, fin _ _ (i_bit1 hb) hb (by rw [if_neg a1]) (by rw [if_pos a2])⟩⟩
  · have a1 := Classical.not_not.mp a1
    rintro w1 rfl
    exact ⟨fun a2 => ⟨vi q hq, fin _ _ hb (i_bit1 hb) (by rw [if_pos a1]) (by rw [if_neg a2])⟩, fun a2 => ⟨vi q hq, fin _ _ hb hb (by rw [if_pos a1]) (by rw [if_pos a2])⟩⟩
theorem r_dn : ∀ i : Nat, i < 4 → (i < 3 → nI (3 - i) + (-1 : Int32) = nI (3 - (i + 1))) ∧ (i = 3 → nI (3 - i) + (-1 : Int32) < 0) := by decide
theorem k_X9_rests (hY : cyM Y w) (hk : cyOK Y) (hM : q_ok M) (hs : snM (w.1 66) t d M) (p q f b what : Int32) :
    mMi E MX9_rests [.ref 60, .int p, .int q, .int f, .int b, .int what] w (fun v u => v = r_rests Y M t p q f b what ∧ mFr mSc w u) := by
  unfold mMi
  refine mM_start rfl (Nat.le_of_ble_eq_true rfl) rfl (fun X C F => vX9_rests_0 C F _ _ _ _ _ ?_)
  refine (k_X9_isOne hY hk _).mono ?_
  rintro v u ⟨rfl, rfl⟩
  rw [q_b0]
  refine ⟨fun h1 => ⟨_, rfl, by rw [r_rests, if_pos (of_decide_eq_false h1)], mFr.rf⟩, fun h1 => (k_X9_isOne hY hk _).mono ?_⟩
  have h1 := of_decide_eq_true ((Bool.not_eq_false _).mp h1)
  rintro v u ⟨rfl, rfl⟩
  rw [q_b0]
  refine ⟨fun h2 => ⟨_, rfl, by rw [r_rests, if_neg (fun z => z h1), if_pos (of_decide_eq_false h2)], mFr.rf⟩, fun h2 => ?_⟩
  have h2 := of_decide_eq_true ((Bool.not_eq_false _).mp h2)
  refine ⟨fun h3 => ⟨_, rfl, by rw [r_rests, if_neg (fun z => z h1), if_neg (fun z => z h2), if_pos h3], mFr.rf⟩, fun h3 => (k_X9_isFact hY hk _).mono ?_⟩
  rintro v u ⟨rfl, rfl⟩
  rw [q_b0]
  refine ⟨fun h4 => (k_X9_in _ _ _).mono ?_, fun h4 => ⟨_, rfl, by rw [r_rests, if_neg (fun z => z h1), if_neg (fun z => z h2), if_neg h3, if_pos (of_decide_eq_false h4)], mFr.rf⟩⟩
  have h4 := of_decide_eq_true ((Bool.not_eq_false _).mp h4)
  rintro v u ⟨rfl, rfl⟩
  rw [q_b0]
  refine ⟨fun h5 => ⟨_, rfl, by rw [r_rests, if_neg (fun z => z h1), if_neg (fun z => z h2), if_neg h3, if_neg (fun z => z h4), if_pos (fun z => of_decide_eq_false h5 ((q_bit b).mpr z))], mFr.rf⟩, fun h5 => (k_X9_in _ _ _).mono ?_⟩
  have h5 := (q_bit b).mp (of_decide_eq_true ((Bool.not_eq_false _).mp h5))
  rintro v u ⟨rfl, rfl⟩
  rw [q_b0]
  refine ⟨fun h6 => ?_, fun h6 => ⟨_, rfl, by rw [r_rests, if_neg (fun z => z h1), if_neg (fun z => z h2), if_neg h3, if_neg (fun z => z h4), if_neg (fun z => z h5), if_pos (fun z => of_decide_eq_false h6 ((q_bit what).mpr z))], mFr.rf⟩⟩
  have h6 := (q_bit what).mp (of_decide_eq_true ((Bool.not_eq_false _).mp h6))
  have rr : r_rests Y M t p q f b what = if what = 0 then (q_rd (q_rs Y M t p q f b) 4).1 else (q_rd (q_rs Y M t p q f b) 4).2 := by
    rw [r_rests, if_neg (fun z => z h1), if_neg (fun z => z h2), if_neg h3, if_neg (fun z => z h4), if_neg (fun z => z h5), if_neg (fun z => z h6), q_rd_rc]
  obtain ⟨p, hp, rfl⟩ := i_one_of hk h1
  obtain ⟨q, hq, rfl⟩ := i_one_of hk h2
  obtain ⟨f, hf, rfl⟩ := i_fact_of hk h4
  have fin : ∀ (st : mT2) (x8 : Int32) u2, x8 < 0 → st = q_rd (q_rs Y M t (nI p) (nI q) (nI f) b) 4 → mFr lS u u2 → mG X E MX9_rests 64 [.ref 60, .int (nI p), .int (nI q), .int (nI f), .int b, .int what, .int st.1, .int st.2, .int x8, .retAddr 0] [] u2 := by
    intro st x8 u2 hx e fu
    refine vX9_rests_64 C F _ _ _ _ _ _ _ _ ?_
    refine ⟨fun _ => ⟨fun z => ⟨_, rfl, ?_, fu.mono lSc⟩, fun z => ⟨_, rfl, ?_, fu.mono lSc⟩⟩, fun z => absurd hx z⟩
    · rw [rr, if_neg z, e]
    · rw [rr, if_pos z, e]
  have loop : ∀ k i : Nat, i + k = 4 → 0 < k → ∀ (st : mT2) u2, st = q_rd (q_rs Y M t (nI p) (nI q) (nI f) b) i → mFr lS u u2 → mG X E MX9_rests 64 [.ref 60, .int (nI p), .int (nI q), .int (nI f), .int b, .int what, .int st.1, .int st.2, .int (nI (3 - i)), .retAddr 0] [] u2 := by
    intro k
    induction k with
    | zero => intro i _ h; omega
    | succ k ih =>
      intro i hi _ st u2 e fu
      have next : ∀ (st : mT2) u2, st = q_rd (q_rs Y M t (nI p) (nI q) (nI f) b) (i + 1) → mFr lS u u2 → mG X E MX9_rests 64 [.ref 60, .int (nI p), .int (nI q), .int (nI f), .int b, .int what, .int st.1, .int st.2, .int (nI (3 - i) + (-1 : Int32)), .retAddr 0] [] u2 := by
        intro st u2 e fu
        rcases Nat.eq_zero_or_pos k with z | z
        · exact fin st _ u2 ((r_dn i (by omega)).2 (by omega)) (by rw [e, show i + 1 = 4 by omega]) fu
        · rw [(r_dn i (by omega)).1 (by omega)]
          exact ih (i + 1) (by omega) z st u2 e fu
      have hj : 3 - i < 4 := by omega
      have st0 : ∀ u2, mFr lS u u2 → cyM Y u2 ∧ snM (u2.1 66) t d M := fun u2 fu => ⟨hY.fr fu lS_cy, hs.keep fu (fun k h => by unfold lS at h; omega)⟩
      refine vX9_rests_64 C F _ _ _ _ _ _ _ _ ?_
      refine ⟨fun z => absurd z (fun z => by rw [show (0 : Int32) = nI 0 from rfl, nI_ltI (by omega) (by omega)] at z; omega), fun _ => (k_X9_sumBy (st0 _ fu).1 hk hM (st0 _ fu).2 hp hq hf h5 hj).mono ?_⟩
      rintro v u3 ⟨rfl, f3⟩
      have fu3 := fu.tr f3
      rw [(r_x2 _ hj).1]
      refine (k_X9_sumBy (st0 _ fu3).1 hk hM (st0 _ fu3).2 hp hq hf h5 (r_x2 _ hj).2).mono ?_
      rintro v u4 ⟨rfl, f4⟩
      have fu4 := fu3.tr f4
      refine ⟨fun z => next st u4 ?_ fu4, fun z => ?_⟩
      · rw [q_rd, if_neg, e]
        unfold q_rP; rw [decide_eq_true z, Bool.not_true, Bool.false_and]; decide
      · rw [(r_x1 _ hj).1]
        refine (k_X9_sumBy (st0 _ fu4).1 hk hM (st0 _ fu4).2 hp hq hf h5 (r_x1 _ hj).2).mono ?_
        rintro v u5 ⟨rfl, f5⟩
        have fu5 := fu4.tr f5
        refine ⟨fun z2 => next st u5 ?_ fu5, fun z2 => next (st.1 + 1, nI (3 - i)) u5 ?_ fu5⟩
        · rw [q_rd, if_neg, e]
          unfold q_rP; rw [decide_eq_true z2, decide_eq_false z]; decide
        · rw [q_rd, if_pos, e]
          unfold q_rP; rw [decide_eq_false z2, decide_eq_false z]; rfl
  exact loop 4 0 (by omega) (by omega) (0, -1) u rfl mFr.rf
end K9r
