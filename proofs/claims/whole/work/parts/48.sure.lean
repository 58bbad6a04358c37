/-! ===== CONTRACTS: the reference: layCanBe, sure ===== -/
def q_6b (t : Int32) : Prop := ∀ j, 6 ≤ j → j < 32 → q_g t j = false
theorem q_6b_bc {t : Int32} (h : q_6b t) {f : Nat} (hf : f < 6) {b : Int32} (hb : b = 0 ∨ b = 1) : q_6b (q_bc t (nI f) b) := by
  intro j h1 h2
  rw [q_g_bc t hb (by omega) h2, if_neg (by omega)]
  exact h j h1 h2
theorem q_6b_pp {Y : mY} (hk : cyOK Y) {d : Nat → Bool} {t : Int32} (h : q_6b t) : ∀ n, n ≤ Y.1.2.1 → q_6b (q_pp Y.2.2.1 d t n) := by
  intro n
  induction n with
  | zero => intro _; exact h
  | succ n ih =>
    intro hn
    have i := ih (by omega)
    rw [q_pp]
    split
    · obtain ⟨-, -, -, ⟨x, hx, ex⟩, hb, -⟩ := hk.2.2.2.2.1 n (by omega)
      rw [ex]
      exact q_6b_bc i (by have := hk.1; omega) hb
    · exact i
theorem q_6b_cs {Y : mY} (hk : cyOK Y) {t : Int32} (h : q_6b t) : ∀ n, n ≤ Y.1.2.2 → q_6b (q_cs Y.2.2.2 t n) := by
  intro n
  induction n with
  | zero => intro _; exact h
  | succ n ih =>
    intro hn
    have i := ih (by omega)
    rw [q_cs]
    split
    · obtain ⟨-, -, ⟨x, hx, ex⟩, hb⟩ := hk.2.2.2.2.2 n (by omega)
      rw [ex]
      exact q_6b_bc i (by have := hk.1; omega) hb
    · exact i
theorem q_6b_dawn {Y : mY} (hk : cyOK Y) (d : Nat → Bool) {t : Int32} (h : q_6b t) : q_6b (q_dawn Y d t) := q_6b_cs hk (q_6b_pp hk h _ (Nat.le_refl _)) _ (Nat.le_refl _)
theorem q_6b_lt {t : Int32} (h : q_6b t) : ∃ m : Nat, m < 64 ∧ t = nI m := q_toNat (n := 6) (by omega) h
theorem q_G1m : ∀ m : Nat, m < 64 → ∀ k : Nat, k < 64 → q_G ((1 : Int64) <<< ((nI m).toInt64 &&& 63)) k = decide (k = m) := by decide +kernel
/-- what can be, by the row of the reference -/
def q_cb (w : mW) (O : Int64) : Prop := ∀ k, k < 64 → w.1 74 k = q_b (q_G O k)
theorem q_cb_or {w : mW} {O : Int64} (h : q_cb w O) {m : Nat} (hm : m < 64) : q_cb (mPI w 74 m 1) (O ||| ((1 : Int64) <<< ((nI m).toInt64 &&& 63))) := by
  intro k hk
  rw [q_G_or, q_G1m m hm k hk]
  by_cases e : k = m
  · subst e; rw [mPI_at]; simp [q_b]
  · rw [mPI_col e, h k hk]; simp [e]
theorem q_cb_fr {w u : mW} {O : Int64} (h : q_cb w O) {T : Nat → Nat → Prop} (f : mFr T w u) (hT : ∀ k, ¬ T 74 k) : q_cb u O := fun k hk => ((f 74 k (hT k)).1).trans (h k hk)
def kS : Nat → Nat → Prop := fun c k => lS c k ∨ c = 74
theorem kSc : ∀ c k, kS c k → mSc c k := fun c k h => h.elim (lSc c k) (fun h => by unfold mSc; omega)
theorem kS_cy : ∀ c k, kS c k → ¬ mCy c k := fun c k h => mSc_cy c k (kSc c k h)
theorem lS74 : ∀ k, ¬ lS 74 k := fun k h => by unfold lS at h; omega
theorem q_64 {j : Nat} (hj : j < 2 ^ 31) : ((64 : Int32) ≤ nI j) = (64 ≤ j) := by rw [show (64 : Int32) = nI 64 from rfl, nI_leI (by omega) hj]
section K9s
variable {E : mEnv} {w : mW} {Y : mY} {t d : Int32} {M : Int64}
theorem l_X9_can1 {X : mX} {Qm : Option Value → mW → Prop} (C : mCtx X E MX9_layCanBe) (F : mFin X E MX9_layCanBe Qm) (hk : cyOK Y) (hM : q_ok M) (ht : q_6b t) {j0 : Nat} (hj0 : j0 < 9200) (O : Int64) (w0 : mW) (hY0 : cyM Y w0) (hs0 : snM (w0.1 66) t d M)
    (hK : ∀ u, mFr kS w0 u → q_cb u (if q_vm Y.1.1 (q_dm (q_vj j0)) = true then q_oc Y M t (q_toS (q_dm (q_vj j0))) O Y.1.2.1 else O) → mG X E MX9_layCanBe 56 [.ref 60, .int (nI (q_vj (j0 + 1))), .retAddr 0] [] u) :
    ∀ k p : Nat, p + k = Y.1.2.1 → ∀ u, mFr kS w0 u → q_cb u (if q_vm Y.1.1 (q_dm (q_vj j0)) = true then q_oc Y M t (q_toS (q_dm (q_vj j0))) O p else O) → mG X E MX9_layCanBe 65 [.ref 60, .int (nI (q_vj j0)), .int (nI p)] [] u := by
  have h5 := hk.2.1
  have hvl : q_vj j0 < 46000 := by unfold q_vj; omega
  intro k
  induction k with
  | zero =>
    intro p hp u fu hc
    refine vX9_layCanBe_65 C F _ _ ?_
    rw [(hY0.fr fu kS_cy).2.1]
    refine ⟨fun _ => (k_X9_nextNumber hj0).mono ?_, fun h => absurd (nI_le (by omega) (by omega)) h⟩
    rintro v u2 ⟨rfl, rfl⟩
    refine hK u2 fu ?_
    rw [show p = Y.1.2.1 by omega] at hc
    exact hc
  | succ k ih =>
    intro p hp u fu hc
    have hYu := hY0.fr fu kS_cy
    have hsu := hs0.keep fu (fun k h => mSc66 k (kSc _ _ h))
    refine vX9_layCanBe_65 C F _ _ ?_
    rw [hYu.2.1]
    refine ⟨fun h => absurd h (nI_ge (by omega) (by omega)), fun _ => (k_X9_isSentence hYu hk hvl).mono ?_⟩
    rintro v u1 ⟨rfl, f1, hS⟩
    have fu1 := fu.tr (f1.mono (fun c k h => Or.inl (lS_s60 c k h)))
    have hc1 := q_cb_fr hc f1 (fun k h => by unfold s60 at h; omega)
    have hY1 := hYu.fr f1 s60_cy
    have hs1 := hsu.keep f1 (fun k h => by unfold s60 at h; omega)
    rw [q_b0]
    refine ⟨fun hv => (k_X9_nextNumber hj0).mono ?_, fun hv => ?_⟩
    · rintro v u2 ⟨rfl, rfl⟩
      refine hK u2 fu1 ?_
      rw [if_neg (by rw [hv]; decide)] at hc1 ⊢
      exact hc1
    · have hv := (Bool.not_eq_false _).mp hv
      have hok := q_vm_ok hk.1 (q_dm_k hvl) hv
      rw [if_pos hv] at hc1
      refine (k_X9_isSo sh66 (by omega) hY1 hk hM hs1 hok hS _).mono ?_
      rintro v u2 ⟨rfl, f2⟩
      have hY2 := hY1.fr f2 c68_cy
      have hs2 := hs1.keep f2 (fun k h => by unfold cS at h; omega)
      have hS2 := (q_Sm_fr f2 c68_s).trans hS
      have fu2 := fu1.tr (f2.mono (fun c k h => Or.inl (lS_c68 c k h)))
      have hc2 := q_cb_fr hc1 f2 (fun k h => by unfold cS at h; omega)
      rw [q_b0, show (1 : Int32) <<< (nI p &&& 31) = q_1 p from rfl, nI_1]
      refine ⟨fun hz => ih (p + 1) (by omega) u2 fu2 ?_, fun hz => ?_⟩
      · rw [if_pos hv, q_oc, if_neg (by rw [hz]; decide)]; exact hc2
      · have hz := (Bool.not_eq_false _).mp hz
        refine f_try sh66 sh67 (by omega) hY2 hk hM hs2 hok hS2 _ (fun u3 f3 e0 _ => ?_)
        have fu3 := fu2.tr (f3.mono (fun c k h => Or.inl (lS_c67 c k h)))
        have hc3 := q_cb_fr hc2 f3 (fun k h => by unfold cS at h; omega)
        obtain ⟨m, hm, em⟩ := q_6b_lt (q_6b_dawn hk (q_ad Y (q_toS (q_dm (q_vj j0))) M (q_1 p)) ht)
        rw [e0, em, nI_clamp (by omega)]
        refine ⟨vp_in_nI (by omega) (by omega), ?_⟩
        rintro w1 rfl
        refine ih (p + 1) (by omega) _ (fu3.tr (mFr.pi (S := kS) (Or.inr rfl))) ?_
        rw [if_pos hv, q_oc, if_pos hz, em]
        exact q_cb_or hc3 hm
theorem k_X9_layCanBe (hY : cyM Y w) (hk : cyOK Y) (hM : q_ok M) (hs : snM (w.1 66) t d M) (ht : q_6b t) : mMv E MX9_layCanBe [.ref 60] w (fun u => mFr kS w u ∧ q_cb u (q_out Y M t)) := by
  unfold mMv
  refine mM_start rfl (Nat.le_of_ble_eq_true rfl) rfl (fun X C F => vX9_layCanBe_0 C F ?_)
  have main : ∀ k j : Nat, j + k = 9200 → ∀ u, mFr kS w u → q_cb u (q_fo (fun j => q_vm Y.1.1 (q_dm (q_vj j))) (fun st j => q_oc Y M t (q_toS (q_dm (q_vj j))) st Y.1.2.1) ((1 : Int64) <<< ((q_dawn Y (q_dd Y M) t).toInt64 &&& 63)) j) → mG X E MX9_layCanBe 56 [.ref 60, .int (nI (q_vj j)), .retAddr 0] [] u := by
    intro k
    induction k with
    | zero =>
      intro j hj u fu hc
      have e : q_vj j = 46000 := by unfold q_vj; omega
      refine vX9_layCanBe_56 C F _ ?_
      rw [q_46 (by omega)]
      refine ⟨fun _ => ⟨rfl, fu, ?_⟩, fun h => absurd (by omega) h⟩
      unfold q_out
      rw [q_fo_all (fun st n => q_oc Y M t (q_toS n) st Y.1.2.1) _ hk.1, ← show j = 9200 by omega]
      exact hc
    | succ k ih =>
      intro j hj u fu hc
      have hvl : q_vj j < 46000 := by unfold q_vj; omega
      refine vX9_layCanBe_56 C F _ ?_
      rw [q_46 (by omega)]
      refine ⟨fun h => absurd h (by omega), fun _ => ?_⟩
      refine l_X9_can1 C F hk hM ht (j0 := j) (by omega) (w0 := u) (hY.fr fu kS_cy) (hs.keep fu (fun k h => mSc66 k (kSc _ _ h))) (fun u2 b1 b2 => ih (j + 1) (by omega) u2 (fu.tr b1) ?_) Y.1.2.1 0 (by omega) u mFr.rf (O := q_fo (fun j => q_vm Y.1.1 (q_dm (q_vj j))) (fun st j => q_oc Y M t (q_toS (q_dm (q_vj j))) st Y.1.2.1) ((1 : Int64) <<< ((q_dawn Y (q_dd Y M) t).toInt64 &&& 63)) j) ?_
      · rw [q_fo]; exact b2
      · rw [q_oc, ite_self]; exact hc
  have loop : ∀ k i : Nat, i + k = 64 → ∀ u, mFr kS w u → (∀ j, j < i → u.1 74 j = 0) → mG X E MX9_layCanBe 2 [.ref 60, .int (nI i), .retAddr 0] [] u := by
    intro k
    induction k with
    | zero =>
      intro i hi u fu hz
      refine vX9_layCanBe_2 C F _ ?_
      rw [q_64 (by omega)]
      refine ⟨fun _ => ?_, fun h => absurd (by omega) h⟩
      refine f_try0 sh66 sh67 (by omega) (hY.fr fu kS_cy) hk (hs.keep fu (fun k h => mSc66 k (kSc _ _ h))) (fun u2 f2 e0 _ => ?_)
      obtain ⟨m, hm, em⟩ := q_6b_lt (q_6b_dawn hk (q_dd Y M) ht)
      rw [e0, em, nI_clamp (by omega)]
      refine ⟨vp_in_nI (by omega) (by omega), ?_⟩
      rintro w1 rfl
      refine main 9200 0 (by omega) _ ((fu.tr (f2.mono (fun c k h => Or.inl (lS_c67 c k h)))).tr (mFr.pi (S := kS) (Or.inr rfl))) ?_
      rw [q_fo, em]
      intro k hk'
      rw [q_G1m m hm k hk']
      by_cases e : k = m
      · subst e; rw [mPI_at]; simp [q_b]
      · rw [mPI_col e, (f2 74 k (by unfold cS; omega)).1, hz k (by omega)]; simp [e, q_b]
    | succ k ih =>
      intro i hi u fu hz
      refine vX9_layCanBe_2 C F _ ?_
      rw [q_64 (by omega), nI_clamp (by omega)]
      refine ⟨fun h => absurd h (by omega), fun _ => ⟨vp_in_nI (by omega) (by omega), ?_⟩⟩
      rintro w1 rfl
      rw [nI_1]
      refine ih (i + 1) (by omega) _ (fu.tr (mFr.pi (S := kS) (Or.inr rfl))) (fun j hj => ?_)
      by_cases e : j = i
      · subst e; rw [mPI_at]
      · rw [mPI_col e]; exact hz j (by omega)
  exact loop 64 0 (by omega) w mFr.rf (fun j hj => absurd hj (by omega))
/-! sure -/
theorem q_wn_congr {bf bp cf cp : Nat → Int32} {set k : Int32} : ∀ n, (∀ i, i < n → bf i = cf i ∧ bp i = cp i) → q_wn bf bp set k n = q_wn cf cp set k n := by
  intro n
  induction n with
  | zero => intro _; rfl
  | succ n ih => intro h; rw [q_wn, q_wn, ih (fun i hi => h i (by omega)), (h n (by omega)).1, (h n (by omega)).2]
theorem q_wo_congr {o : Nat → Bool} {bf bp cf cp : Nat → Int32} {n : Nat} {set w0 : Int32} (h : ∀ i, i < n → bf i = cf i ∧ bp i = cp i) : ∀ j, q_wo o bf bp n set w0 j = q_wo o cf cp n set w0 j := by
  intro j
  induction j with
  | zero => rfl
  | succ j ih => rw [q_wo, q_wo, ih, q_wn_congr n h]
theorem q_ch_congr {o : Nat → Bool} {bf bp cf cp : Nat → Int32} {n : Nat} {w0 : Int32} (h : ∀ i, i < n → bf i = cf i ∧ bp i = cp i) : ∀ s, q_ch o bf bp n w0 s = q_ch o cf cp n w0 s := by
  intro s
  induction s with
  | zero => rfl
  | succ s ih => rw [q_ch, q_ch, ih, q_wo_congr h]
/-- no win passes the prizes -/
theorem q_wn_le {bf bp : Nat → Int32} {set k : Int32} : ∀ n, n ≤ 5 → (∀ i, i < n → q_lt (bf i) 6 ∧ q_lt (bp i) 100) → -(99 * n : Int) ≤ (q_wn bf bp set k n).toInt ∧ (q_wn bf bp set k n).toInt ≤ 100 * n := by
  intro n
  induction n with
  | zero => intro _ _; rw [q_wn, show (0 : Int32).toInt = 0 from by decide]; omega
  | succ n ih =>
    intro hn h
    obtain ⟨i1, i2⟩ := ih (by omega) (fun i hi => h i (by omega))
    obtain ⟨⟨x, hx, ex⟩, y, hy, ey⟩ := h n (by omega)
    rw [q_wn]
    split
    · rw [ex, ey]
      have a1 : -(99 : Int) ≤ ((100 : Int32) * q_bt k (nI x) - nI y).toInt ∧ ((100 : Int32) * q_bt k (nI x) - nI y).toInt ≤ 100 := by
        have z : ∀ y : Nat, y < 100 → (-(99 : Int) ≤ ((100 : Int32) * 0 - nI y).toInt ∧ ((100 : Int32) * 0 - nI y).toInt ≤ 100) ∧ (-(99 : Int) ≤ ((100 : Int32) * 1 - nI y).toInt ∧ ((100 : Int32) * 1 - nI y).toInt ≤ 100) := by decide +kernel
        rcases q_bt01 k (k := x) (by omega) with q | q
        · rw [q]; exact (z y hy).1
        · rw [q]; exact (z y hy).2
      generalize (100 : Int32) * q_bt k (nI x) - nI y = g at a1 ⊢
      rw [Int32.toInt_add]
      have : (q_wn bf bp set k n).toInt + g.toInt = ((q_wn bf bp set k n).toInt + g.toInt).bmod (2 ^ 32) := by
        rw [Int.bmod_eq_of_le (by omega) (by omega)]
      rw [← this]
      omega
    · omega
theorem q_wo_some {o : Nat → Bool} {bf bp : Nat → Int32} {n : Nat} {set : Int32} (hn : n ≤ 5) (h : ∀ i, i < n → q_lt (bf i) 6 ∧ q_lt (bp i) 100) : ∀ j, ((∃ i, i < j ∧ o i = true) → q_wo o bf bp n set 500 j = q_wo o bf bp n set 99999 j) ∧ ((¬ ∃ i, i < j ∧ o i = true) → q_wo o bf bp n set 500 j = 500 ∧ q_wo o bf bp n set 99999 j = 99999) := by
  have lt9 : ∀ k, q_wn bf bp set k n < 99999 := by
    intro k
    have := q_wn_le (set := set) (k := k) n hn h
    rw [Int32.lt_iff_toInt_lt, show (99999 : Int32).toInt = 99999 by decide]; omega
  have le5 : ∀ k, q_wn bf bp set k n ≤ 500 := by
    intro k
    have := q_wn_le (set := set) (k := k) n hn h
    rw [Int32.le_iff_toInt_le, show (500 : Int32).toInt = 500 by decide]; omega
  intro j
  induction j with
  | zero => exact ⟨fun ⟨i, hi, _⟩ => absurd hi (by omega), fun _ => ⟨rfl, rfl⟩⟩
  | succ j ih =>
    rw [q_wo, q_wo]
    by_cases oj : o j = true
    · rw [if_pos oj, if_pos oj]
      refine ⟨fun _ => ?_, fun q => absurd ⟨j, by omega, oj⟩ q⟩
      by_cases e : ∃ i, i < j ∧ o i = true
      · rw [ih.1 e]
      · obtain ⟨e1, e2⟩ := ih.2 e
        rw [e1, e2, if_pos (lt9 _)]
        by_cases l : q_wn bf bp set (nI j) n < 500
        · rw [if_pos l]
        · rw [if_neg l]
          exact Int32.le_antisymm (Int32.not_lt.mp l) (le5 _)
    · rw [if_neg oj, if_neg oj]
      refine ⟨fun ⟨i, hi, ho⟩ => ih.1 ⟨i, ?_, ho⟩, fun q => ih.2 (fun ⟨i, hi, ho⟩ => q ⟨i, by omega, ho⟩)⟩
      have : i ≠ j := fun e => oj (by rw [← e]; exact ho)
      omega
theorem q_ch_some {o : Nat → Bool} {bf bp : Nat → Int32} {n : Nat} (hn : n ≤ 5) (h : ∀ i, i < n → q_lt (bf i) 6 ∧ q_lt (bp i) 100) (ho : ∃ i, i < 64 ∧ o i = true) : ∀ s, q_ch o bf bp n 500 s = q_ch o bf bp n 99999 s := by
  intro s
  induction s with
  | zero => rfl
  | succ s ih => rw [q_ch, q_ch, ih, (q_wo_some hn h 64).1 ho]
theorem q_oc_mono {Y : mY} {S : mS} {O : Int64} {i : Nat} (h : q_G O i = true) : ∀ n, q_G (q_oc Y M t S O n) i = true := by
  intro n
  induction n with
  | zero => exact h
  | succ n ih =>
    rw [q_oc]; split
    · rw [q_G_or, ih, Bool.true_or]
    · exact ih
theorem q_out_some (hk : cyOK Y) (ht : q_6b t) : ∃ i, i < 64 ∧ q_G (q_out Y M t) i = true := by
  obtain ⟨m, hm, em⟩ := q_6b_lt (q_6b_dawn hk (q_dd Y M) ht)
  refine ⟨m, hm, ?_⟩
  unfold q_out
  have : ∀ n, q_G (q_fo (fun a => q_vs Y.1.1 (q_dc a)) (fun st a => q_oc Y M t (q_toS (q_dc a)) st Y.1.2.1) ((1 : Int64) <<< ((q_dawn Y (q_dd Y M) t).toInt64 &&& 63)) n) m = true := by
    intro n
    induction n with
    | zero => rw [q_fo, em, q_G1m m hm m hm]; simp
    | succ n ih =>
      rw [q_fo]; split
      · exact q_oc_mono ih _
      · exact ih
  exact this 720
/-- the bets of both -/
def betOK (Y : mY) (n : Nat) (bf bp : Nat → Int32) : Prop := n ≤ 5 ∧ ∀ i, i < n → q_lt (bf i) 6 ∧ q_lt (bp i) 100
def r_sure (Y : mY) (M : Int64) (t : Int32) (n : Nat) (bf bp : Nat → Int32) (what : Int32) : Int32 := if ¬ i_bit what then -3 else if what = 0 then (q_ch (q_G (q_out Y M t)) bf bp n 500 (2 ^ n - 1)).2 else (q_ch (q_G (q_out Y M t)) bf bp n 500 (2 ^ n - 1)).1
theorem q_bt_b {b : Bool} : q_b b = 0 ↔ ¬ b = true := by cases b <;> decide
theorem k_X9_sure (hY : cyM Y w) (hk : cyOK Y) (hM : q_ok M) (hs : snM (w.1 66) t d M) (ht : q_6b t) {n : Nat} (h28 : w.1 60 28 = nI n) (hB : betOK Y n (fun i => w.1 73 (2 * i)) (fun i => w.1 73 (2 * i + 1))) (what : Int32) :
    mMi E MX9_sure [.ref 60, .int what] w (fun v u => v = r_sure Y M t n (fun i => w.1 73 (2 * i)) (fun i => w.1 73 (2 * i + 1)) what ∧ mFr mSc w u) := by
  have hn := hB.1
  have h32 := q_pow32 hn
  have hpos : 0 < 2 ^ n := Nat.pow_pos (by omega)
  unfold mMi
  refine mM_start rfl (Nat.le_of_ble_eq_true rfl) rfl (fun X C F => vX9_sure_0 C F _ ?_)
  refine (k_X9_in _ _ _).mono ?_
  rintro v u ⟨rfl, rfl⟩
  rw [q_b0]
  refine ⟨fun h1 => ?_, fun h1 => ⟨_, rfl, by rw [r_sure, if_pos (fun z => of_decide_eq_false h1 ((q_bit what).mpr z))], mFr.rf⟩⟩
  have h1 := (q_bit what).mp (of_decide_eq_true ((Bool.not_eq_false _).mp h1))
  refine (k_X9_layCanBe hY hk hM hs ht).mono ?_
  rintro w1 ⟨f1, hc⟩
  have e28 : w1.1 60 28 = nI n := by rw [(f1 60 28 (by unfold kS lS; omega)).1]; exact h28
  have e73 : ∀ i, w1.1 73 i = u.1 73 i := fun i => (f1 73 i (by unfold kS lS; omega)).1
  generalize hbf : (fun i => u.1 73 (2 * i)) = bf at hB ⊢
  generalize hbp : (fun i => u.1 73 (2 * i + 1)) = bp at hB ⊢
  have ebf : ∀ i, w1.1 73 (2 * i) = bf i := fun i => by rw [e73, ← hbf]
  have ebp : ∀ i, w1.1 73 (2 * i + 1) = bp i := fun i => by rw [e73, ← hbp]
  have l3 : ∀ (x1 x2 x3 x4 x5 : Int32) (j : Nat), j < 64 → mG X E MX9_sure 42 [.ref 60, .int x1, .int x2, .int x3, .int x4, .int (if q_G (q_out Y M t) j = true then (if q_wn bf bp x4 (nI j) n < x5 then q_wn bf bp x4 (nI j) n else x5) else x5), .int (nI (j + 1)), .retAddr 0, .retAddr 0] [] w1 → ∀ k i : Nat, i + k = n → mG X E MX9_sure 55 [.ref 60, .int x1, .int x2, .int x3, .int x4, .int x5, .int (nI j), .int (q_wn bf bp x4 (nI j) i), .int (nI i)] [] w1 := by
    intro x1 x2 x3 x4 x5 j hj K k
    induction k with
    | zero =>
      intro i hi
      refine vX9_sure_55 C F _ _ _ _ _ _ _ _ ?_
      rw [e28, nI_clamp (by omega), hc j hj, nI_1 j, q_bt_b]
      refine ⟨fun _ => ⟨vp_in_nI (by omega) (by omega), fun z => ?_, fun z => ⟨fun z2 => ?_, fun z2 => ?_⟩⟩, fun h => absurd (nI_le (by omega) (by omega)) h⟩
      · rw [if_neg z] at K; exact K
      · rw [show i = n by omega] at z2
        rw [if_pos (Classical.not_not.mp z), if_neg (Int32.not_lt.mpr z2)] at K; exact K
      · rw [show i = n by omega] at z2 ⊢
        rw [if_pos (Classical.not_not.mp z), if_pos (Int32.not_le.mp z2)] at K; exact K
    | succ k ih =>
      intro i hi
      have nx := ih (i + 1) (by omega)
      rw [q_wn] at nx
      obtain ⟨⟨x, hx, ex⟩, -⟩ := hB.2 i (by omega)
      refine vX9_sure_55 C F _ _ _ _ _ _ _ _ ?_
      rw [e28]
      refine ⟨fun h => absurd h (nI_ge (by omega) (by omega)), fun _ => (k_X9_has _ _).mono ?_⟩
      rintro v u2 ⟨rfl, rfl⟩
      rw [q_b0, nI_1 i]
      refine ⟨fun z => ?_, fun z => ?_⟩
      · rw [show q_wn bf bp x4 (nI j) i + 0 = q_wn bf bp x4 (nI j) i by simp]
        rw [if_neg (of_decide_eq_false z)] at nx
        exact nx
      · rw [if_pos (of_decide_eq_true ((Bool.not_eq_false _).mp z))] at nx
        rw [show (2 : Int32) * nI i = nI (2 * i) from pk_mul 2 i, nI_clamp (by omega), ebf, show nI (2 * i) + 1 = nI (2 * i + 1) from q_k _ 1]
        refine ⟨vp_in_nI (by omega) (by omega), (k_X9_has _ _).mono ?_⟩
        rintro v u3 ⟨rfl, rfl⟩
        rw [q_b0, nI_clamp (by omega), ebp]
        refine ⟨fun z2 => ⟨vp_in_nI (by omega) (by omega), ?_⟩, fun z2 => ⟨vp_in_nI (by omega) (by omega), ?_⟩⟩
        · have : q_bt (nI j) (bf i) = 0 := by
            rcases q_bt01 (nI j) (k := x) (by omega) with q | q
            · rw [ex]; exact q
            · rw [← ex] at q; exact absurd q (of_decide_eq_false z2)
          rw [this] at nx
          exact nx
        · rw [of_decide_eq_true ((Bool.not_eq_false _).mp z2)] at nx
          exact nx
  have l2 : ∀ (x1 x2 x3 x4 : Int32), ((q_wo (q_G (q_out Y M t)) bf bp n x4 99999 64 ≤ x3 → mG X E MX9_sure 23 [.ref 60, .int x1, .int x2, .int x3, .int (x4 + 1), .retAddr 0, .retAddr 0, .retAddr 0, .retAddr 0] [] w1) ∧ (¬ q_wo (q_G (q_out Y M t)) bf bp n x4 99999 64 ≤ x3 → mG X E MX9_sure 23 [.ref 60, .int x1, .int x4, .int (q_wo (q_G (q_out Y M t)) bf bp n x4 99999 64), .int (x4 + 1), .retAddr 0, .retAddr 0, .retAddr 0, .retAddr 0] [] w1)) → ∀ k j : Nat, j + k = 64 → mG X E MX9_sure 42 [.ref 60, .int x1, .int x2, .int x3, .int x4, .int (q_wo (q_G (q_out Y M t)) bf bp n x4 99999 j), .int (nI j), .retAddr 0, .retAddr 0] [] w1 := by
    intro x1 x2 x3 x4 K k
    induction k with
    | zero =>
      intro j hj
      refine vX9_sure_42 C F _ _ _ _ _ _ ?_
      rw [q_64 (by omega), show j = 64 by omega]
      exact ⟨fun _ => K, fun h => absurd (by omega) h⟩
    | succ k ih =>
      intro j hj
      have nx := ih (j + 1) (by omega)
      rw [q_wo] at nx
      refine vX9_sure_42 C F _ _ _ _ _ _ ?_
      rw [q_64 (by omega)]
      exact ⟨fun h => absurd h (by omega), fun _ => l3 x1 x2 x3 x4 _ j (by omega) nx n 0 (by omega)⟩
  have l1 : ∀ k s : Nat, s + k = 2 ^ n - 1 → ∀ st : mT2, st = q_ch (q_G (q_out Y M t)) bf bp n 99999 s → mG X E MX9_sure 23 [.ref 60, .int what, .int st.1, .int st.2, .int (nI (s + 1)), .retAddr 0, .retAddr 0, .retAddr 0, .retAddr 0] [] w1 := by
    intro k
    induction k with
    | zero =>
      intro s hs2 st e
      refine vX9_sure_23 C F _ _ _ _ ?_
      rw [e28, q_pow _ hn]
      have fin : q_ch (q_G (q_out Y M t)) bf bp n 500 (2 ^ n - 1) = st := by
        rw [q_ch_some hn hB.2 (q_out_some hk ht), e, show s = 2 ^ n - 1 by omega]
      refine ⟨fun _ => ⟨fun z => ⟨_, rfl, ?_, f1.mono kSc⟩, fun z => ⟨_, rfl, ?_, f1.mono kSc⟩⟩, fun h => absurd (nI_le (by omega) (by omega)) h⟩
      · rw [r_sure, if_neg (fun q => q h1), if_neg z, hbf, hbp, fin]
      · rw [r_sure, if_neg (fun q => q h1), if_pos z, hbf, hbp, fin]
    | succ k ih =>
      intro s hs2 st e
      refine vX9_sure_23 C F _ _ _ _ ?_
      rw [e28, q_pow _ hn]
      refine ⟨fun h => absurd h (nI_ge (by omega) (by omega)), fun _ => l2 _ _ _ _ ?_ 64 0 (by omega)⟩
      rw [nI_1]
      refine ⟨fun z => ih (s + 1) (by omega) st ?_, fun z => ih (s + 1) (by omega) (nI (s + 1), q_wo (q_G (q_out Y M t)) bf bp n (nI (s + 1)) 99999 64) ?_⟩
      · rw [q_ch, ← e, if_neg (Int32.not_lt.mpr z)]
      · rw [q_ch, ← e, if_pos (Int32.not_le.mp z)]
  exact l1 (2 ^ n - 1) 0 (by omega) (0, 0) rfl
end K9s
