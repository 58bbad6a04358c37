/-! ===== THE REFERENCE READS: tokens, words as numbers ===== -/
def q_val (a : Nat → Nat) : Nat → Nat
  | 0 => 0
  | k + 1 => 27 * q_val a k + a k
theorem q_val_inj {a b : Nat → Nat} : ∀ n m, (∀ i, i < n → 1 ≤ a i ∧ a i ≤ 26) → (∀ i, i < m → 1 ≤ b i ∧ b i ≤ 26) → (q_val a n = q_val b m ↔ n = m ∧ ∀ i, i < n → a i = b i) := by
  intro n
  induction n with
  | zero =>
    intro m ha hb
    cases m with
    | zero => exact ⟨fun _ => ⟨rfl, fun i hi => absurd hi (by omega)⟩, fun _ => rfl⟩
    | succ m =>
      have := hb m (by omega)
      exact ⟨fun h => by rw [q_val, q_val] at h; omega, fun h => absurd h.1 (by omega)⟩
  | succ n ih =>
    intro m ha hb
    cases m with
    | zero =>
      have := ha n (by omega)
      exact ⟨fun h => by rw [q_val, q_val] at h; omega, fun h => absurd h.1 (by omega)⟩
    | succ m =>
      have h1 := ha n (by omega)
      have h2 := hb m (by omega)
      have i := ih m (fun i hi => ha i (by omega)) (fun i hi => hb i (by omega))
      constructor
      · intro h
        rw [q_val, q_val] at h
        have e1 : q_val a n = q_val b m := by omega
        have e2 : a n = b m := by omega
        obtain ⟨j1, j2⟩ := i.mp e1
        refine ⟨by omega, fun x hx => ?_⟩
        by_cases z : x = n
        · rw [z, e2, j1]
        · exact j2 x (by omega)
      · rintro ⟨h, hh⟩
        have h : n = m := by omega
        subst h
        rw [q_val, q_val, hh n (by omega), (i.mpr ⟨rfl, fun x hx => hh x (by omega)⟩)]
theorem q_val_lt {a : Nat → Nat} : ∀ n, (∀ i, i < n → 1 ≤ a i ∧ a i ≤ 26) → q_val a n < 27 ^ n := by
  intro n
  induction n with
  | zero => intro _; exact (by decide : (0 : Nat) < 27 ^ 0)
  | succ n ih =>
    intro h
    have := h n (by omega)
    have := ih (fun i hi => h i (by omega))
    rw [q_val, Nat.pow_succ]
    omega
theorem p_let {x : Int32} (h : p_lc x = 1) : ∃ d : Nat, 1 ≤ d ∧ d ≤ 26 ∧ x = nI (96 + d) := by
  unfold p_lc at h
  split at h
  · rename_i b
    obtain ⟨j, hj, rfl⟩ := nI_of (x := x) (fun q => b.1 (Int32.lt_trans q (by decide)))
    have b1 : ¬ j < 97 := fun q => b.1 (show nI j < nI 97 from nI_lt q (by omega))
    have b2 : ¬ 122 < j := fun q => b.2 (show nI 122 < nI j from nI_lt q hj)
    exact ⟨j - 96, by omega, by omega, by rw [show 96 + (j - 96) = j by omega]⟩
  · split at h <;> exact absurd h (by decide)
def p_dg (x : Int32) : Nat := x.toNatClampNeg - 96
theorem p_dg_of {x : Int32} (h : p_lc x = 1) : 1 ≤ p_dg x ∧ p_dg x ≤ 26 ∧ x = nI (96 + p_dg x) := by
  obtain ⟨d, h1, h2, rfl⟩ := p_let h
  unfold p_dg
  rw [nI_clamp (by omega), show 96 + d - 96 = d by omega]
  exact ⟨h1, h2, rfl⟩
theorem q_w9 : ∀ k : Nat, k < 9 → ∀ i : Nat, i < mStN.getD k 0 → p_lc ((mStB.getD k []).getD i 0) = 1 := by decide +kernel
def q_wv (k : Nat) : Nat := ([66175, 149125, 1489, 1776129921, 1758676, 165590316, 1965486658967694, 1629833, 10497936] : List Nat).getD k 0
theorem q_wv_eq : ∀ k : Nat, k < 9 → q_val (fun i => p_dg ((mStB.getD k []).getD i 0)) (mStN.getD k 0) = q_wv k := by decide +kernel
theorem p_eq_iff (T : Nat → Int32) (s k : Nat) : ∀ n, p_eq T s k n = true ↔ ∀ i, i < n → (mStB.getD k []).getD i 0 = T (s + i) := by
  intro n
  induction n with
  | zero => exact ⟨fun _ i hi => absurd hi (by omega), fun _ => rfl⟩
  | succ n ih =>
    rw [p_eq, Bool.and_eq_true, ih, decide_eq_true_iff]
    constructor
    · rintro ⟨h1, h2⟩ i hi
      by_cases e : i = n
      · rw [e]; exact h2
      · exact h1 i (by omega)
    · intro h
      exact ⟨fun i hi => h i (by omega), h n (by omega)⟩
theorem p_is_iff {T : Nat → Int32} {s e : Nat} (hl : ∀ j, s ≤ j → j < e → p_lc (T j) = 1) {k : Nat} (hk : k < 9) : p_is T s e k = true ↔ q_val (fun i => p_dg (T (s + i))) (e - s) = q_wv k := by
  rw [← q_wv_eq k hk, q_val_inj (e - s) (mStN.getD k 0) (fun i hi => ⟨(p_dg_of (hl (s + i) (by omega) (by omega))).1, (p_dg_of (hl (s + i) (by omega) (by omega))).2.1⟩) (fun i hi => ⟨(p_dg_of (q_w9 k hk i hi)).1, (p_dg_of (q_w9 k hk i hi)).2.1⟩)]
  unfold p_is
  rw [Bool.and_eq_true, decide_eq_true_iff, p_eq_iff]
  constructor
  · rintro ⟨h1, h2⟩
    exact ⟨h1.symm, fun i hi => by rw [← h2 i (by omega)]⟩
  · rintro ⟨h1, h2⟩
    refine ⟨h1.symm, fun i hi => ?_⟩
    rw [(p_dg_of (q_w9 k hk i hi)).2.2, (p_dg_of (hl (s + i) (by omega) (by omega))).2.2, h2 i (by omega)]
/-- a token as the reference holds it -/
def p_tv (T : Nat → Int32) (t : mTk) : Int64 := if t.2.2 = 0 then -2 else if t.2.2 = 1 then (if t.2.1 - t.1 ≤ 11 then lN (q_val (fun i => p_dg (T (t.1 + i))) (t.2.1 - t.1)) else -4) else if t.2.2 = 2 then (if t.2.1 - t.1 ≤ 2 then -1 else -4) else if T t.1 = 59 then -3 else -4
def p_rs (k : Int32) : Int32 := if k = -1 then -1 else if k = 0 then 7 else if k = 8 then 8 else k - 1
def q_so9 (x : Int64) : Int32 := if x = 149125 then 0 else if x = 1489 then 1 else if x = 1776129921 then 2 else if x = 1758676 then 3 else if x = 165590316 then 4 else if x = 1965486658967694 then 5 else if x = 1629833 then 6 else if x = 66175 then 7 else if x = 10497936 then 8 else -1
theorem lN_ne {V : Nat} (h : V < 2 ^ 63) {c : Int64} (hc : c.toInt < 0) : ¬ lN V = c := fun q => by rw [← q, pk_lT h] at hc; omega
theorem q_p11 {n : Nat} (h : n ≤ 11) {V : Nat} (hV : V < 27 ^ n) : V < 2 ^ 60 := Nat.lt_of_lt_of_le hV (Nat.le_trans (Nat.pow_le_pow_right (by omega) h) (by decide))
def tkM (T : Nat → Int32) (t : mTk) (w : mW) : Prop := w.1 60 8 = nI t.2.1 ∧ w.1 60 9 = nI t.1 ∧ w.2 60 10 = p_tv T t ∧ (t.2.2 = 2 ∧ t.2.1 - t.1 ≤ 2 → w.1 60 12 = p_nb T t.1 (t.2.1 - t.1))
def nT : Nat → Nat → Prop := fun c k => c = 60 ∧ 8 ≤ k ∧ k ≤ 12
theorem nT_t : ∀ c k, nT c k → ¬ c = 64 ∧ ¬ (c = 60 ∧ k = 6) := fun c k h => by unfold nT at h; omega
section R9
variable {E : mEnv} {w : mW} {T : Nat → Int32} {L : Nat}
theorem p_so9 {i : Nat} (hi : i ≤ L) : q_so9 (p_tv T (p_tok T L i)) = p_rs (p_wd T (p_tok T L i)) := by
  obtain ⟨t1, t2, t3, t4, t5⟩ := p_tok_ok T hi
  have tl := p_tok3 T hi
  generalize p_tok T L i = t at *
  obtain ⟨s, e, c⟩ := t
  dsimp only at *
  unfold p_tv p_wd
  dsimp only
  by_cases h1 : c = 1
  · rw [if_neg (by omega), if_pos h1, if_pos h1]
    have hl : ∀ j, s ≤ j → j < e → p_lc (T j) = 1 := fun j a b => by rw [← h1]; exact (t5 (by omega)).2.2 j a b
    by_cases h11 : e - s ≤ 11
    · rw [if_pos h11]
      have hV := q_p11 h11 (q_val_lt (a := fun i => p_dg (T (s + i))) (e - s) (fun i hi => ⟨(p_dg_of (hl (s + i) (by omega) (by omega))).1, (p_dg_of (hl (s + i) (by omega) (by omega))).2.1⟩))
      have w : ∀ k, k < 9 → (p_is T s e k = true ↔ q_val (fun i => p_dg (T (s + i))) (e - s) = q_wv k) := fun k hk => p_is_iff hl hk
      generalize q_val (fun i => p_dg (T (s + i))) (e - s) = V at hV w ⊢
      have eq : ∀ n : Nat, n < 2 ^ 60 → (lN V = lN n ↔ V = n) := fun n hn => pk_lEQ (by omega) (by omega)
      unfold p_wf p_wf p_wf p_wf p_wf p_wf p_wf p_wf p_wf p_wf
      simp only [w 0 (by omega), w 1 (by omega), w 2 (by omega), w 3 (by omega), w 4 (by omega), w 5 (by omega), w 6 (by omega), w 7 (by omega), w 8 (by omega), Nat.zero_add, Nat.reduceAdd]
      unfold q_so9
      rw [show (149125 : Int64) = lN 149125 from rfl, show (1489 : Int64) = lN 1489 from rfl, show (1776129921 : Int64) = lN 1776129921 from rfl, show (1758676 : Int64) = lN 1758676 from rfl, show (165590316 : Int64) = lN 165590316 from rfl, show (1965486658967694 : Int64) = lN 1965486658967694 from rfl, show (1629833 : Int64) = lN 1629833 from rfl, show (66175 : Int64) = lN 66175 from rfl, show (10497936 : Int64) = lN 10497936 from rfl]
      simp only [eq 149125 (by omega), eq 1489 (by omega), eq 1776129921 (by omega), eq 1758676 (by omega), eq 165590316 (by omega), eq 1965486658967694 (by omega), eq 1629833 (by omega), eq 66175 (by omega), eq 10497936 (by omega)]
      simp only [show q_wv 0 = 66175 from rfl, show q_wv 1 = 149125 from rfl, show q_wv 2 = 1489 from rfl, show q_wv 3 = 1776129921 from rfl, show q_wv 4 = 1758676 from rfl, show q_wv 5 = 165590316 from rfl, show q_wv 6 = 1965486658967694 from rfl, show q_wv 7 = 1629833 from rfl, show q_wv 8 = 10497936 from rfl]
      clear w eq t5 hl
      by_cases e0 : V = 66175
      · subst e0; decide
      by_cases e1 : V = 149125
      · subst e1; decide
      by_cases e2 : V = 1489
      · subst e2; decide
      by_cases e3 : V = 1776129921
      · subst e3; decide
      by_cases e4 : V = 1758676
      · subst e4; decide
      by_cases e5 : V = 165590316
      · subst e5; decide
      by_cases e6 : V = 1965486658967694
      · subst e6; decide
      by_cases e7 : V = 1629833
      · subst e7; decide
      by_cases e8 : V = 10497936
      · subst e8; decide
      rw [if_neg e1, if_neg e2, if_neg e3, if_neg e4, if_neg e5, if_neg e6, if_neg e7, if_neg e0, if_neg e8, if_neg e0, if_neg e1, if_neg e2, if_neg e3, if_neg e4, if_neg e5, if_neg e6, if_neg e7, if_neg e8]
      decide
    · rw [if_neg h11]
      have no : ∀ k, k < 9 → p_is T s e k = false := fun k hk => by
        have : ∀ k : Nat, k < 9 → mStN.getD k 0 ≤ 11 := by decide
        unfold p_is
        rw [decide_eq_false (by have := this k hk; omega), Bool.false_and]
      have : ∀ n k, k + n = 9 → p_wf T s e n k = -1 := by
        intro n
        induction n with
        | zero => intro k _; rfl
        | succ n ih => intro k hk; rw [p_wf, if_neg (by rw [no k (by omega)]; decide)]; exact ih (k + 1) (by omega)
      rw [this 9 0 rfl]
      decide
  · rw [if_neg h1, if_neg h1]
    split
    · decide
    · split
      · split <;> decide
      · split <;> decide
theorem k_X9_sortOf {x : Int64} (hx : w.2 60 10 = x) : mMi E MX9_sortOf [.ref 60] w (fun v u => v = q_so9 x ∧ u = w) := by
  unfold mMi
  refine mM_start rfl (Nat.le_of_ble_eq_true rfl) rfl (fun X C F => vX9_sortOf_0 C F ?_)
  have fin : ∀ c : Int32, c = q_so9 x → ∃ v : Int32, (some (Value.int c) : Option Value) = some (.int v) ∧ v = q_so9 x ∧ w = w := fun c hc => ⟨_, rfl, hc, rfl⟩
  simp only [q_lcmp, hx]
  clear F C hx fin
  unfold q_so9
  repeat' (first | (refine And.intro ?_ ?_) | intro _)
  all_goals (refine ⟨_, rfl, ?_, trivial⟩; simp_all)
theorem k_X9_nextToken (hL : L ≤ 160) (hs : tMo (L, T) w) {i : Nat} (hi : i ≤ L) (h8 : w.1 60 8 = nI i) : mMv E MX9_nextToken [.ref 60] w (fun u => mFr nT w u ∧ tkM T (p_tok T L i) u) := by
  unfold mMv
  refine mM_start rfl (Nat.le_of_ble_eq_true rfl) rfl (fun X C F => ?_)
  have pi : ∀ {k : Nat} (u : mW) (v : Int32), 8 ≤ k → k ≤ 12 → mFr nT u (mPI u 60 k v) := fun u v h1 h2 => mFr.pi (S := nT) ⟨rfl, h1, h2⟩
  have pl : ∀ (u : mW) (v : Int64), mFr nT u (mPL u 60 10 v) := fun u v => mFr.pl (S := nT) ⟨rfl, by omega, by omega⟩
  have c1 : ∀ x : Int32, (¬ x < 97 ∧ ¬ 122 < x) ↔ p_lc x = 1 := fun x => by
    unfold p_lc
    constructor
    · intro h; rw [if_pos h]
    · intro h
      split at h
      · assumption
      · split at h <;> exact absurd h (by decide)
  have c2 : ∀ x : Int32, ¬ p_lc x = 1 → ((¬ x < 48 ∧ ¬ 57 < x) ↔ p_lc x = 2) := fun x h1 => by
    have n1 : ¬ (¬ x < 97 ∧ ¬ 122 < x) := fun q => h1 ((c1 x).mp q)
    unfold p_lc
    rw [if_neg n1]
    constructor
    · intro h; rw [if_pos h]
    · intro h
      split at h
      · assumption
      · exact absurd h (by decide)
  have c2' : ∀ x : Int32, (¬ x < 48 ∧ ¬ 57 < x) ↔ p_lc x = 2 := fun x => by
    by_cases h1 : p_lc x = 1
    · refine ⟨fun q => ?_, fun q => absurd (h1.symm.trans q) (by decide)⟩
      obtain ⟨d, d1, d2, rfl⟩ := p_let h1
      exact absurd (show nI 57 < nI (96 + d) from nI_lt (by omega) (by omega)) q.2
    · exact c2 x h1
  -- a word's letters
  have word : ∀ s, s < L → p_lc (T s) = 1 → p_sk T L (L - i) i = s → ∀ k e, e + k = L → s ≤ e → (s = e → k = L - s) → (s < e → p_ru T L 1 k e = p_ru T L 1 (L - (s + 1)) (s + 1)) → (∀ j, s ≤ j → j < e → p_lc (T j) = 1) → ∀ u, mFr nT w u → u.1 60 9 = nI s → u.1 60 8 = nI e → u.2 60 10 = (if e - s ≤ 11 then lN (q_val (fun i => p_dg (T (s + i))) (e - s)) else -4) → mG X E MX9_nextToken 101 [.ref 60] [] u := by
    intro s hsL hs1 hsk
    have fin : ∀ e u, s < e → e ≤ L → p_ru T L 1 (L - (s + 1)) (s + 1) = e → mFr nT w u → u.1 60 9 = nI s → u.1 60 8 = nI e → u.2 60 10 = (if e - s ≤ 11 then lN (q_val (fun i => p_dg (T (s + i))) (e - s)) else -4) → ((nI e - nI s ≤ 11 → (none : Option Value) = none ∧ mFr nT w (mPL u 60 10 (u.2 60 10)) ∧ tkM T (p_tok T L i) (mPL u 60 10 (u.2 60 10))) ∧ (¬ nI e - nI s ≤ 11 → (none : Option Value) = none ∧ mFr nT w (mPL u 60 10 (-4)) ∧ tkM T (p_tok T L i) (mPL u 60 10 (-4)))) := by
      intro e u hse heL he fu a9 a8 a10
      have et : p_tok T L i = (s, e, 1) := by
        unfold p_tok
        rw [hsk, if_neg (by omega), if_neg (by rw [hs1]; decide), hs1, he]
      have tv : p_tv T (s, e, 1) = (if e - s ≤ 11 then lN (q_val (fun i => p_dg (T (s + i))) (e - s)) else -4) := rfl
      rw [pk_sub (by omega), show (11 : Int32) = nI 11 from rfl, nI_leI (by omega) (by omega), et]
      refine ⟨fun z => ⟨rfl, fu.tr (pl _ _), a8, a9, ?_, fun q => absurd (show (1 : Nat) = 2 from q.1) (by decide)⟩, fun z => ⟨rfl, fu.tr (pl _ _), a8, a9, ?_, fun q => absurd (show (1 : Nat) = 2 from q.1) (by decide)⟩⟩
      · rw [mPL_at, tv]; exact a10
      · rw [mPL_at, tv, if_neg z]
    intro k
    induction k with
    | zero =>
      intro e he hse h0 hr hl u fu a9 a8 a10
      have hsu := hs.fr fu nT_t
      have hse2 : s < e := by
        rcases Nat.lt_or_ge s e with q | q
        · exact q
        · have := h0 (by omega); omega
      refine vX9_nextToken_101 C F ?_
      rw [a8, a9, hsu.1]
      exact ⟨fun _ => fin e u hse2 (by omega) (hr hse2).symm fu a9 a8 a10, fun q => absurd (nI_le (by show L ≤ e; omega) (by omega)) q⟩
    | succ k ih =>
      intro e he hse h0 hr hl u fu a9 a8 a10
      have hsu := hs.fr fu nT_t
      refine vX9_nextToken_101 C F ?_
      rw [a8, a9, hsu.1, nI_clamp (by omega), hsu.2 e (by show e < L; omega)]
      refine ⟨fun q => absurd q (nI_ge (by show e < L; omega) (by show L < 2 ^ 31; omega)), fun _ => ⟨vp_in_nI (by omega) (by omega), (k_X9_in _ _ _).mono ?_⟩⟩
      rintro v u2 ⟨rfl, rfl⟩
      rw [q_b0, a8, a9, a10, nI_clamp (by omega), hsu.2 e (by show e < L; omega), nI_1]
      refine ⟨fun z => ?_, fun z => ?_⟩
      · have z : ¬ p_lc (T e) = 1 := fun q => of_decide_eq_false z ((c1 _).mpr q)
        have hse2 : s < e := by
          rcases Nat.lt_or_ge s e with q | q
          · exact q
          · rw [show e = s by omega] at z; exact absurd hs1 z
        have hr := hr hse2
        rw [p_ru, if_neg (fun q => z q.2)] at hr
        have := fin e u2 hse2 (by omega) hr.symm fu a9 a8 a10
        rw [a10] at this
        exact this
      · have z : p_lc (T e) = 1 := (c1 _).mp (b_t z)
        obtain ⟨g1, g2, g3⟩ := p_dg_of z
        have hl2 : ∀ j, s ≤ j → j < e + 1 → p_lc (T j) = 1 := fun j a b => by
          by_cases q : j = e
          · rw [q]; exact z
          · exact hl j a (by omega)
        have hr2 : p_ru T L 1 k (e + 1) = p_ru T L 1 (L - (s + 1)) (s + 1) := by
          rcases Nat.lt_or_ge s e with q | q
          · have hr := hr q
            rw [p_ru, if_pos ⟨by omega, z⟩] at hr
            exact hr
          · rw [show e = s by omega, show k = L - (s + 1) by omega]
        rw [pk_sub hse, show (11 : Int32) = nI 11 from rfl, nI_leI (by omega) (by omega)]
        refine ⟨fun y => ih (e + 1) (by omega) (by omega) (fun q => by omega) (fun _ => hr2) hl2 _ (fu.tr ((pl _ _).tr (pi _ _ (by omega) (by omega)))) ?_ (mPI_at _ _ _ _) ?_, fun y => ⟨vp_in_nI (by omega) (by omega), ih (e + 1) (by omega) (by omega) (fun q => by omega) (fun _ => hr2) hl2 _ (fu.tr ((pl _ _).tr (pi _ _ (by omega) (by omega)))) ?_ (mPI_at _ _ _ _) ?_⟩⟩
        · rw [mPI_col (by omega)]; exact a9
        · show (mPL u2 60 10 (-4)).2 60 10 = _
          rw [mPL_at, if_neg (by omega)]
        · rw [mPI_col (by omega)]; exact a9
        · have key : (27 : Int64) * lN (q_val (fun i => p_dg (T (s + i))) (e - s)) + (T e).toInt64 - 96 = lN (27 * q_val (fun i => p_dg (T (s + i))) (e - s) + p_dg (T e)) := by
            have g4 : (T e).toInt64 = lN (96 + p_dg (T e)) := (congrArg Int32.toInt64 g3).trans (nI_l (by omega))
            rw [g4, show (27 : Int64) = lN 27 from rfl, show (96 : Int64) = lN 96 from rfl, lN_mul, lN_add, lN_sub (by omega)]
            exact congrArg lN (by omega)
          refine (mPL_at u2 60 10 _).trans ?_
          rw [if_pos (show e - s ≤ 11 by omega), if_pos (show e + 1 - s ≤ 11 by omega), show e + 1 - s = (e - s) + 1 by omega, q_val, show s + (e - s) = e by omega]
          exact key
  -- a number's digits
  have numb : ∀ s, s < L → p_lc (T s) = 2 → p_sk T L (L - i) i = s → ∀ k e, e + k = L → s ≤ e → (s = e → k = L - s) → (s < e → p_ru T L 2 k e = p_ru T L 2 (L - (s + 1)) (s + 1)) → ∀ u, mFr nT w u → u.1 60 9 = nI s → u.1 60 8 = nI e → u.1 60 11 = nI (e - s) → u.1 60 12 = p_nb T s (min (e - s) 2) → mG X E MX9_nextToken 241 [.ref 60] [] u := by
    intro s hsL hs1 hsk
    have fin : ∀ e u, s < e → e ≤ L → p_ru T L 2 (L - (s + 1)) (s + 1) = e → mFr nT w u → u.1 60 9 = nI s → u.1 60 8 = nI e → u.1 60 12 = p_nb T s (min (e - s) 2) → ((nI (e - s) ≤ 2 → (none : Option Value) = none ∧ mFr nT w (mPL u 60 10 (-1)) ∧ tkM T (p_tok T L i) (mPL u 60 10 (-1))) ∧ (¬ nI (e - s) ≤ 2 → (none : Option Value) = none ∧ mFr nT w (mPL u 60 10 (-4)) ∧ tkM T (p_tok T L i) (mPL u 60 10 (-4)))) := by
      intro e u hse heL he fu a9 a8 a12
      have et : p_tok T L i = (s, e, 2) := by
        unfold p_tok
        rw [hsk, if_neg (by omega), if_neg (by rw [hs1]; decide), hs1, he]
      have tv : p_tv T (s, e, 2) = (if e - s ≤ 2 then -1 else -4) := rfl
      rw [show (2 : Int32) = nI 2 from rfl, nI_leI (by omega) (by omega), et]
      refine ⟨fun z => ⟨rfl, fu.tr (pl _ _), a8, a9, ?_, fun q => ?_⟩, fun z => ⟨rfl, fu.tr (pl _ _), a8, a9, ?_, fun q => absurd q.2 z⟩⟩
      · rw [mPL_at, tv, if_pos z]
      · rw [Nat.min_eq_left z] at a12; exact a12
      · rw [mPL_at, tv, if_neg z]
    intro k
    induction k with
    | zero =>
      intro e he hse h0 hr u fu a9 a8 a11 a12
      have hsu := hs.fr fu nT_t
      have hse2 : s < e := by
        rcases Nat.lt_or_ge s e with q | q
        · exact q
        · have := h0 (by omega); omega
      refine vX9_nextToken_241 C F ?_
      rw [a8, a11, hsu.1]
      exact ⟨fun _ => fin e u hse2 (by omega) (hr hse2).symm fu a9 a8 a12, fun q => absurd (nI_le (by show L ≤ e; omega) (by omega)) q⟩
    | succ k ih =>
      intro e he hse h0 hr u fu a9 a8 a11 a12
      have hsu := hs.fr fu nT_t
      refine vX9_nextToken_241 C F ?_
      rw [a8, a11, hsu.1, nI_clamp (by omega), hsu.2 e (by show e < L; omega)]
      refine ⟨fun q => absurd q (nI_ge (by show e < L; omega) (by show L < 2 ^ 31; omega)), fun _ => ⟨vp_in_nI (by omega) (by omega), (k_X9_in _ _ _).mono ?_⟩⟩
      rintro v u2 ⟨rfl, rfl⟩
      rw [q_b0, a8, a11, a12, nI_clamp (by omega), hsu.2 e (by show e < L; omega), nI_1, nI_1]
      refine ⟨fun z => ?_, fun z => ?_⟩
      · have z : ¬ p_lc (T e) = 2 := fun q => of_decide_eq_false z ((c2' _).mpr q)
        have hse2 : s < e := by
          rcases Nat.lt_or_ge s e with q | q
          · exact q
          · rw [show e = s by omega] at z; exact absurd hs1 z
        have hr := hr hse2
        rw [p_ru, if_neg (fun q => z q.2)] at hr
        exact fin e u2 hse2 (by omega) hr.symm fu a9 a8 a12
      · have z : p_lc (T e) = 2 := (c2' _).mp (b_t z)
        have hr2 : p_ru T L 2 k (e + 1) = p_ru T L 2 (L - (s + 1)) (s + 1) := by
          rcases Nat.lt_or_ge s e with q | q
          · have hr := hr q
            rw [p_ru, if_pos ⟨by omega, z⟩] at hr
            exact hr
          · rw [show e = s by omega, show k = L - (s + 1) by omega]
        rw [show (2 : Int32) = nI 2 from rfl, nI_leI (by omega) (by omega)]
        have f3 : ∀ x y z : Int32, mFr nT w (mPI (mPI (mPI u2 60 12 x) 60 11 y) 60 8 z) := fun x y z => fu.tr (((pi _ _ (by omega) (by omega)).tr (pi _ _ (by omega) (by omega))).tr (pi _ _ (by omega) (by omega)))
        refine ⟨fun y => ih (e + 1) (by omega) (by omega) (fun q => by omega) (fun _ => hr2) _ (f3 _ _ _) ?_ (mPI_at _ _ _ _) ?_ ?_, fun y => ⟨vp_in_nI (by omega) (by omega), ?_⟩⟩
        · rw [mPI_col (by omega), mPI_col (by omega), mPI_col (by omega)]; exact a9
        · rw [mPI_col (by omega), mPI_at, show e - s + 1 = e + 1 - s by omega]
        · rw [mPI_col (by omega), mPI_col (by omega), mPI_at, Nat.min_eq_right y, Nat.min_eq_right (by omega)]
        · rintro w1 rfl
          refine ih (e + 1) (by omega) (by omega) (fun q => by omega) (fun _ => hr2) _ (f3 _ _ _) ?_ (mPI_at _ _ _ _) ?_ ?_
          · rw [mPI_col (by omega), mPI_col (by omega), mPI_col (by omega)]; exact a9
          · rw [mPI_col (by omega), mPI_at, show e - s + 1 = e + 1 - s by omega]
          · rw [mPI_col (by omega), mPI_col (by omega), mPI_at, Nat.min_eq_left (by omega), Nat.min_eq_left (by omega), show e + 1 - s = (e - s) + 1 by omega, p_nb, show s + (e - s) = e by omega]
  have loop : ∀ k j : Nat, j + k = L → p_sk T L k j = p_sk T L (L - i) i → ∀ u, mFr nT w u → u.1 60 8 = nI j → mG X E MX9_nextToken 0 [.ref 60] [] u := by
    intro k
    induction k with
    | zero =>
      intro j hj hk u fu a8
      have hsu := hs.fr fu nT_t
      have ej : j = L := by omega
      refine vX9_nextToken_0 C F ?_
      rw [a8, hsu.1]
      refine ⟨fun _ => ⟨fun q => absurd (by rw [ej]) q, fun _ => ⟨rfl, fu.tr ((((pi _ _ (by omega) (by omega)).tr (pi _ _ (by omega) (by omega))).tr (pi _ _ (by omega) (by omega))).tr (pl _ _)), ?_⟩⟩, fun q => absurd (nI_le (by show L ≤ j; omega) (by omega)) q⟩
      have et : p_tok T L i = (j, j, 0) := by
        unfold p_tok
        rw [← hk, p_sk, if_pos (by omega)]
      rw [et]
      refine ⟨?_, ?_, mPL_at _ _ _ _, fun q => absurd (show (0 : Nat) = 2 from q.1) (by decide)⟩
      · show (mPI (mPI (mPI u 60 9 (nI j)) 60 11 0) 60 12 0).1 60 8 = nI j
        rw [mPI_col (by omega), mPI_col (by omega), mPI_col (by omega)]; exact a8
      · show (mPI (mPI (mPI u 60 9 (nI j)) 60 11 0) 60 12 0).1 60 9 = nI j
        rw [mPI_col (by omega), mPI_col (by omega), mPI_at]
    | succ k ih =>
      intro j hj hk u fu a8
      have hsu := hs.fr fu nT_t
      have e1 : u.1 64 j = T j := hsu.2 j (by show j < L; omega)
      refine vX9_nextToken_0 C F ?_
      rw [a8, hsu.1, nI_clamp (by omega), e1, nI_1]
      refine ⟨fun q => absurd q (nI_ge (by show j < L; omega) (by show L < 2 ^ 31; omega)), fun _ => ⟨vp_in_nI (by omega) (by omega), fun z => ⟨fun _ => ⟨vp_in_nI (by omega) (by omega), ?_⟩, fun q => absurd ((nI_eq (by omega) (by show L < 2 ^ 31; omega)).mp q) (by show ¬ j = L; omega)⟩, fun z => ?_⟩⟩
      · rw [p_sk, if_neg (fun q => z q.2)] at hk
        generalize hu3 : mPI (mPI (mPI u 60 9 (nI j)) 60 11 0) 60 12 0 = u3
        have fu3 : mFr nT w u3 := by rw [← hu3]; exact fu.tr (((pi _ _ (by omega) (by omega)).tr (pi _ _ (by omega) (by omega))).tr (pi _ _ (by omega) (by omega)))
        have b8 : u3.1 60 8 = nI j := by rw [← hu3, mPI_col (by omega), mPI_col (by omega), mPI_col (by omega)]; exact a8
        have b9 : u3.1 60 9 = nI j := by rw [← hu3, mPI_col (by omega), mPI_col (by omega), mPI_at]
        have b11 : u3.1 60 11 = nI 0 := by rw [← hu3, mPI_col (by omega), mPI_at]; rfl
        have b12 : u3.1 60 12 = 0 := by rw [← hu3, mPI_at]
        have e3 : u3.1 64 j = T j := (hs.fr fu3 nT_t).2 j (by show j < L; omega)
        refine (k_X9_in _ _ _).mono ?_
        rintro v u4 ⟨rfl, rfl⟩
        rw [q_b0, b8, nI_clamp (by omega), e3]
        refine ⟨fun y => ⟨vp_in_nI (by omega) (by omega), (k_X9_in _ _ _).mono ?_⟩, fun y => ?_⟩
        · have y : ¬ p_lc (T j) = 1 := fun q => of_decide_eq_false y ((c1 _).mpr q)
          rintro v u5 ⟨rfl, rfl⟩
          rw [q_b0, b8, nI_clamp (by omega), e3, nI_1]
          refine ⟨fun x => ⟨vp_in_nI (by omega) (by omega), ?_⟩, fun x => ?_⟩
          · have x : ¬ p_lc (T j) = 2 := fun q => of_decide_eq_false x ((c2' _).mpr q)
            have l3 : p_lc (T j) = 3 := by rcases p_lc_in (T j) with q | q | q; exact absurd q y; exact absurd q x; exact q
            have et : p_tok T L i = (j, j + 1, 3) := by
              unfold p_tok
              rw [← hk, if_neg (by omega), if_pos l3]
            rw [et]
            have tv : p_tv T (j, j + 1, 3) = if T j = 59 then -3 else -4 := rfl
            refine ⟨fun t => ⟨rfl, fu3.tr ((pl _ _).tr (pi _ _ (by omega) (by omega))), mPI_at _ _ _ _, ?_, ?_, fun q => absurd (show (3 : Nat) = 2 from q.1) (by decide)⟩, fun t => ⟨rfl, fu3.tr ((pl _ _).tr (pi _ _ (by omega) (by omega))), mPI_at _ _ _ _, ?_, ?_, fun q => absurd (show (3 : Nat) = 2 from q.1) (by decide)⟩⟩
            · rw [mPI_col (by omega)]; exact b9
            · show (mPL u5 60 10 (-4)).2 60 10 = _
              rw [mPL_at, tv, if_neg t]
            · rw [mPI_col (by omega)]; exact b9
            · show (mPL u5 60 10 (-3)).2 60 10 = _
              rw [mPL_at, tv, if_pos t]
          · have x : p_lc (T j) = 2 := (c2' _).mp (b_t x)
            refine numb j (by omega) x hk.symm (k + 1) j (by omega) (Nat.le_refl _) (fun _ => by omega) (fun q => absurd q (by omega)) u5 fu3 b9 b8 ?_ ?_
            · rw [b11, Nat.sub_self]
            · rw [b12, Nat.sub_self]; rfl
        · have y : p_lc (T j) = 1 := (c1 _).mp (b_t y)
          refine word j (by omega) y hk.symm (k + 1) j (by omega) (Nat.le_refl _) (fun _ => by omega) (fun q => absurd q (by omega)) (fun x h1 h2 => absurd h2 (by omega)) _ (fu3.tr (pl _ _)) b9 b8 ?_
          rw [mPL_at, Nat.sub_self, if_pos (by omega)]; rfl
      · rw [p_sk, if_pos ⟨by omega, z⟩] at hk
        exact ih (j + 1) (by omega) hk _ (fu.tr (pi _ _ (by omega) (by omega))) (mPI_at _ _ _ _)
  exact loop (L - i) i (by omega) rfl w mFr.rf h8
end R9
