/-! ===== THE CLASS READS ===== -/
def tS : Nat → Nat → Prop := fun c k => c = 22 ∧ (k = 4 ∨ k = 5 ∨ k = 6)
def tkX (t : mTk) (w : mW) : Prop := w.1 22 4 = nI t.1 ∧ w.1 22 5 = nI t.2.1 ∧ w.1 22 6 = nI t.2.2
def c3X (c : mC3) (w : mW) : Prop := w.1 22 7 = nI c.1 ∧ w.1 22 8 = nI c.2.1 ∧ w.1 22 9 = nI c.2.2
theorem tS_s : ∀ c k, tS c k → ¬ c = 23 ∧ ¬ (c = 22 ∧ k = 1) := fun c k h => by unfold tS at h; omega
theorem c3X.fr {c : mC3} {w u : mW} {S : Nat → Nat → Prop} (h : c3X c w) (f : mFr S w u) (hS : ∀ c k, S c k → ¬ (c = 22 ∧ (k = 7 ∨ k = 8 ∨ k = 9))) : c3X c u :=
  ⟨(f 22 7 (fun q => hS _ _ q ⟨rfl, Or.inl rfl⟩)).1.trans h.1, (f 22 8 (fun q => hS _ _ q ⟨rfl, Or.inr (Or.inl rfl)⟩)).1.trans h.2.1, (f 22 9 (fun q => hS _ _ q ⟨rfl, Or.inr (Or.inr rfl)⟩)).1.trans h.2.2⟩
section X5
variable {E : mEnv} {w : mW} {T : Nat → Int32} {L : Nat}
theorem k_X5_sortOf (x : Int32) : mMi E MX5_sortOf [.int x] w (fun v u => v = nI (p_lc x) ∧ u = w) := by
  unfold mMi
  refine mM_start rfl (Nat.le_of_ble_eq_true rfl) rfl (fun X C F => vX5_sortOf_0 C F _ ?_)
  unfold p_lc
  refine ⟨fun a => ⟨fun b => ⟨_, rfl, ?_, rfl⟩, fun b => ⟨fun d => ⟨_, rfl, ?_, rfl⟩, fun d => ⟨_, rfl, ?_, rfl⟩⟩⟩, fun a => ⟨fun a2 => ⟨fun b => ⟨_, rfl, ?_, rfl⟩, fun b => ⟨fun d => ⟨_, rfl, ?_, rfl⟩, fun d => ⟨_, rfl, ?_, rfl⟩⟩⟩, fun a2 => ⟨_, rfl, ?_, rfl⟩⟩⟩
  · rw [if_neg (fun q => q.1 a), if_neg (fun q => q.1 b)]; rfl
  · rw [if_neg (fun q => q.1 a), if_neg (fun q => q.2 d)]; rfl
  · rw [if_neg (fun q => q.1 a), if_pos ⟨b, d⟩]; rfl
  · rw [if_neg (fun q => q.2 a2), if_neg (fun q => q.1 b)]; rfl
  · rw [if_neg (fun q => q.2 a2), if_neg (fun q => q.2 d)]; rfl
  · rw [if_neg (fun q => q.2 a2), if_pos ⟨b, d⟩]; rfl
  · rw [if_pos ⟨a, a2⟩]; rfl
theorem k_X5_nextToken (hL : L ≤ 160) (hs : sX (L, T) w) {i : Nat} (hi : i ≤ L) (h5 : w.1 22 5 = nI i) : mMv E MX5_nextToken [.ref 22] w (fun u => mFr tS w u ∧ tkX (p_tok T L i) u) := by
  unfold mMv
  refine mM_start rfl (Nat.le_of_ble_eq_true rfl) rfl (fun X C F => vX5_nextToken_0 C F ?_)
  rw [h5]
  have lc : ∀ x : Int32, nI (p_lc x) = 3 ↔ p_lc x = 3 := fun x => nI_eq (b := 3) (by rcases p_lc_in x with z | z | z <;> omega) (by omega)
  have loop2 : ∀ (s c : Nat), s < L → c = p_lc (T s) → p_sk T L (L - i) i = s → (c = 3 → ∀ u, mFr tS w u → u.1 22 4 = nI s → u.1 22 5 = nI (s + 1) → u.1 22 6 = nI c → mG X E MX5_nextToken 97 [.ref 22] [] u) ∧ (¬ c = 3 → ∀ k e, e + k = L → s < e → p_ru T L c k e = p_ru T L c (L - (s + 1)) (s + 1) → ∀ u, mFr tS w u → u.1 22 4 = nI s → u.1 22 5 = nI e → u.1 22 6 = nI c → mG X E MX5_nextToken 97 [.ref 22] [] u) := by
    intro s c hs2 hc hsk
    have hc3 : c < 4 := by rcases p_lc_in (T s) with z | z | z <;> omega
    have e3 : nI c = 3 ↔ c = 3 := nI_eq (b := 3) (by omega) (by omega)
    refine ⟨fun c3 u fu a4 a5 a6 => ?_, fun c3 k => ?_⟩
    · refine vX5_nextToken_97 C F ?_
      rw [a6, e3]
      refine ⟨fun _ => ⟨rfl, fu, ?_⟩, fun q => absurd c3 q⟩
      have : p_tok T L i = (s, s + 1, 3) := by
        unfold p_tok
        rw [hsk, if_neg (by omega), ← hc, if_pos c3]
      rw [this]
      exact ⟨a4, a5, by rw [a6, c3]⟩
    · have fin : ∀ e u, p_ru T L c (L - (s + 1)) (s + 1) = e → mFr tS w u → u.1 22 4 = nI s → u.1 22 5 = nI e → u.1 22 6 = nI c → tkX (p_tok T L i) u := by
        intro e u he fu a4 a5 a6
        have : p_tok T L i = (s, e, c) := by
          unfold p_tok
          rw [hsk, if_neg (by omega), ← hc, if_neg c3, he]
        rw [this]
        exact ⟨a4, a5, a6⟩
      induction k with
      | zero =>
        intro e he hse hr u fu a4 a5 a6
        have hsu := hs.fr fu tS_s
        refine vX5_nextToken_97 C F ?_
        rw [a6, e3, a5, hsu.1]
        exact ⟨fun q => absurd q c3, fun _ => ⟨fun _ => ⟨rfl, fu, fin e u hr.symm fu a4 a5 a6⟩, fun q => absurd (nI_le (by omega) (by omega)) q⟩⟩
      | succ k ih =>
        intro e he hse hr u fu a4 a5 a6
        have hsu := hs.fr fu tS_s
        refine vX5_nextToken_97 C F ?_
        rw [a6, e3, a5, hsu.1, nI_clamp (by omega), hsu.2 e (by show e < L; omega)]
        refine ⟨fun q => absurd q c3, fun _ => ⟨fun q => absurd q (nI_ge (by show e < L; omega) (by show L < 2 ^ 31; omega)), fun _ => ⟨vp_in_nI (by omega) (by omega), (k_X5_sortOf _).mono ?_⟩⟩⟩
        rintro v u2 ⟨rfl, rfl⟩
        rw [a6, a5, nI_1]
        have ec : nI (p_lc (T e)) = nI c ↔ p_lc (T e) = c := nI_eq (by rcases p_lc_in (T e) with z | z | z <;> omega) (by omega)
        rw [ec]
        rw [p_ru] at hr
        refine ⟨fun z => ⟨rfl, fu, fin e u2 ?_ fu a4 a5 a6⟩, fun z => ?_⟩
        · rw [if_neg (fun q => z q.2)] at hr; exact hr.symm
        · rw [if_pos ⟨by omega, z⟩] at hr
          refine ih (e + 1) (by omega) (by omega) hr _ (fu.tr (mFr.pi (S := tS) ⟨rfl, Or.inr (Or.inl rfl)⟩)) ?_ (mPI_at _ _ _ _) ?_
          · rw [mPI_col (by omega)]; exact a4
          · rw [mPI_col (by omega)]; exact a6
  have loop : ∀ k j : Nat, j + k = L → p_sk T L k j = p_sk T L (L - i) i → ∀ u, mFr tS w u → u.1 22 4 = nI j → mG X E MX5_nextToken 8 [.ref 22] [] u := by
    intro k
    induction k with
    | zero =>
      intro j hj hk u fu a4
      have hsu := hs.fr fu tS_s
      refine vX5_nextToken_8 C F ?_
      rw [a4, hsu.1]
      refine ⟨fun _ => ⟨fun q => absurd q (nI_nlt (by show L ≤ j; omega) (by omega)), fun _ => ⟨rfl, fu.tr ((mFr.pi (S := tS) ⟨rfl, Or.inr (Or.inl rfl)⟩).tr (mFr.pi (S := tS) ⟨rfl, Or.inr (Or.inr rfl)⟩)), ?_⟩⟩, fun q => absurd (nI_le (by show L ≤ j; omega) (by omega)) q⟩
      have : p_tok T L i = (j, j, 0) := by
        unfold p_tok
        rw [← hk, p_sk, if_pos (by omega)]
      rw [this]
      refine ⟨?_, ?_, mPI_at _ _ _ _⟩
      · rw [mPI_col (by omega), mPI_col (by omega)]; exact a4
      · rw [mPI_col (by omega), mPI_at]
    | succ k ih =>
      intro j hj hk u fu a4
      have hsu := hs.fr fu tS_s
      refine vX5_nextToken_8 C F ?_
      rw [a4, hsu.1, nI_clamp (by omega), hsu.2 j (by show j < L; omega), nI_1]
      refine ⟨fun q => absurd q (nI_ge (by show j < L; omega) (by show L < 2 ^ 31; omega)), fun _ => ⟨vp_in_nI (by omega) (by omega), fun z => ⟨fun _ => ⟨vp_in_nI (by omega) (by omega), (k_X5_sortOf _).mono ?_⟩, fun q => absurd (nI_lt (by show j < L; omega) (by show L < 2 ^ 31; omega)) q⟩, fun z => ?_⟩⟩
      · rintro v u2 ⟨rfl, rfl⟩
        rw [p_sk, if_neg (fun q => z q.2)] at hk
        have f2 : ∀ x y z t : Int32, mFr tS w (mPI (mPI (mPI (mPI u 22 5 x) 22 6 y) 22 6 z) 22 5 t) := fun x y z t => fu.tr ((((mFr.pi (S := tS) ⟨rfl, Or.inr (Or.inl rfl)⟩).tr (mFr.pi (S := tS) ⟨rfl, Or.inr (Or.inr rfl)⟩)).tr (mFr.pi (S := tS) ⟨rfl, Or.inr (Or.inr rfl)⟩)).tr (mFr.pi (S := tS) ⟨rfl, Or.inr (Or.inl rfl)⟩))
        rw [mPI_col (show (5 : Nat) ≠ 6 by omega), mPI_at, nI_1]
        obtain ⟨l1, l2⟩ := loop2 j (p_lc (T j)) (by omega) rfl hk.symm
        have b4 : ∀ x y z t : Int32, (mPI (mPI (mPI (mPI u 22 5 x) 22 6 y) 22 6 z) 22 5 t).1 22 4 = nI j := fun x y z t => by rw [mPI_col (by omega), mPI_col (by omega), mPI_col (by omega), mPI_col (by omega)]; exact a4
        have b6 : ∀ x y z t : Int32, (mPI (mPI (mPI (mPI u 22 5 x) 22 6 y) 22 6 z) 22 5 t).1 22 6 = z := fun x y z t => by rw [mPI_col (by omega), mPI_at]
        by_cases c3 : p_lc (T j) = 3
        · exact l1 c3 _ (f2 _ _ _ _) (b4 _ _ _ _) (mPI_at _ _ _ _) (b6 _ _ _ _)
        · exact l2 c3 (L - (j + 1)) (j + 1) (by omega) (by omega) rfl _ (f2 _ _ _ _) (b4 _ _ _ _) (mPI_at _ _ _ _) (b6 _ _ _ _)
      · rw [p_sk, if_pos ⟨by omega, z⟩] at hk
        exact ih (j + 1) (by omega) hk _ (fu.tr (mFr.pi (S := tS) ⟨rfl, Or.inl rfl⟩)) (mPI_at _ _ _ _)
  exact loop (L - i) i (by omega) rfl _ (mFr.pi (S := tS) ⟨rfl, Or.inl rfl⟩) (mPI_at _ _ _ _)
theorem k_X5_isToken (hL : L ≤ 160) (hs : sX (L, T) w) {t : mTk} (ht : tkX t w) (h1 : t.1 ≤ t.2.1) (h2 : t.2.1 ≤ L) {k : Nat} (hk : k < 13) : mMi E MX5_isToken [.ref 22, .ref (100 + k)] w (fun v u => v = q_b (p_is T t.1 t.2.1 k) ∧ u = w) := by
  have h12 := q_n13 k hk
  unfold mMi
  refine mM_start rfl (Nat.le_of_ble_eq_true rfl) rfl (fun X C F => vX5_isToken_0 C F ⟨⟨k, hk, rfl⟩, ?_⟩)
  refine (k_J0_length hk).mono ?_
  rintro v u ⟨rfl, rfl⟩
  rw [ht.1, ht.2.1, pk_sub h1, nI_eq (by omega) (by omega)]
  refine ⟨fun z => ?_, fun z => ⟨_, rfl, by rw [p_is, decide_eq_false z]; rfl, rfl⟩⟩
  have loop : ∀ m i : Nat, i + m = mStN.getD k 0 → p_eq T t.1 k i = true → mG X E MX5_isToken 20 [.ref 22, .ref (100 + k), .int (nI i)] [] u := by
    intro m
    induction m with
    | zero =>
      intro i hi he
      refine vX5_isToken_20 C F _ ⟨⟨k, hk, rfl⟩, (k_J0_length hk).mono ?_⟩
      rintro v u2 ⟨rfl, rfl⟩
      exact ⟨fun _ => ⟨_, rfl, by rw [p_is, decide_eq_true z, ← show i = mStN.getD k 0 by omega, he]; rfl, rfl⟩, fun q => absurd (nI_le (by omega) (by omega)) q⟩
    | succ m ih =>
      intro i hi he
      refine vX5_isToken_20 C F _ ⟨⟨k, hk, rfl⟩, (k_J0_length hk).mono ?_⟩
      rintro v u2 ⟨rfl, rfl⟩
      refine ⟨fun q => absurd q (nI_ge (by omega) (by omega)), fun _ => ⟨⟨k, hk, rfl⟩, (k_J0_charAt hk (by omega)).mono ?_⟩⟩
      rintro v u3 ⟨rfl, rfl⟩
      rw [ht.1, nI_add, nI_clamp (by omega), hs.2 (t.1 + i) (by show t.1 + i < L; omega), nI_1]
      refine ⟨vp_in_nI (by omega) (by omega), fun y => ih (i + 1) (by omega) (by rw [p_eq, he, decide_eq_true y]; rfl), fun y => ⟨_, rfl, ?_, rfl⟩⟩
      have : ∀ n, i + 1 ≤ n → p_eq T t.1 k n = false := by
        intro n
        induction n with
        | zero => intro h; omega
        | succ n ihn =>
          intro h
          rw [p_eq]
          by_cases e : i = n
          · rw [← e, decide_eq_false y, Bool.and_false]
          · rw [ihn (by omega), Bool.false_and]
      rw [p_is, this _ (by omega), Bool.and_false]; rfl
  exact loop (mStN.getD k 0) 0 (by omega) rfl
theorem k_X5_textOf {k : Nat} (hk : k < 9) : mMr E MX5_textOf [.int (nI k)] w (fun v u => v = 100 + k ∧ u = w) := by
  unfold mMr
  refine mM_start rfl (Nat.le_of_ble_eq_true rfl) rfl (fun X C F => vX5_textOf_0 C F _ ?_)
  have e : ∀ j : Nat, j < 9 → (nI k = nI j ↔ k = j) := fun j hj => nI_eq (by omega) (by omega)
  rw [show nI k = 0 ↔ k = 0 from e 0 (by omega), show nI k = 1 ↔ k = 1 from e 1 (by omega), show nI k = 2 ↔ k = 2 from e 2 (by omega), show nI k = 3 ↔ k = 3 from e 3 (by omega), show nI k = 4 ↔ k = 4 from e 4 (by omega), show nI k = 5 ↔ k = 5 from e 5 (by omega), show nI k = 6 ↔ k = 6 from e 6 (by omega), show nI k = 7 ↔ k = 7 from e 7 (by omega)]
  refine ⟨fun z => ⟨_, rfl, by omega, rfl⟩, fun z0 => ⟨fun z => ⟨_, rfl, by omega, rfl⟩, fun z1 => ⟨fun z => ⟨_, rfl, by omega, rfl⟩, fun z2 => ⟨fun z => ⟨_, rfl, by omega, rfl⟩, fun z3 => ⟨fun z => ⟨_, rfl, by omega, rfl⟩, fun z4 => ⟨fun z => ⟨_, rfl, by omega, rfl⟩, fun z5 => ⟨fun z => ⟨_, rfl, by omega, rfl⟩, fun z6 => ⟨fun z => ⟨_, rfl, by omega, rfl⟩, fun z7 => ⟨_, rfl, by omega, rfl⟩⟩⟩⟩⟩⟩⟩⟩⟩
theorem k_X5_wordOfToken (hL : L ≤ 160) (hs : sX (L, T) w) {t : mTk} (ht : tkX t w) (h1 : t.1 ≤ t.2.1) (h2 : t.2.1 ≤ L) (h3 : t.2.2 < 4) : mMi E MX5_wordOfToken [.ref 22] w (fun v u => v = p_wd T t ∧ u = w) := by
  unfold mMi
  refine mM_start rfl (Nat.le_of_ble_eq_true rfl) rfl (fun X C F => vX5_wordOfToken_0 C F ?_)
  rw [ht.2.2, show nI t.2.2 = 1 ↔ t.2.2 = 1 from nI_eq (b := 1) (by omega) (by omega)]
  unfold p_wd
  refine ⟨fun z => ?_, fun z => ⟨_, rfl, by rw [if_neg z], rfl⟩⟩
  have loop : ∀ n k : Nat, k + n = 9 → p_wf T t.1 t.2.1 n k = p_wf T t.1 t.2.1 9 0 → mG X E MX5_wordOfToken 12 [.ref 22, .int (nI k)] [] w := by
    intro n
    induction n with
    | zero =>
      intro k hk he
      refine vX5_wordOfToken_12 C F _ ?_
      rw [show (9 : Int32) = nI 9 from rfl]
      exact ⟨fun _ => ⟨_, rfl, by rw [p_wd, if_pos z, ← he]; rfl, rfl⟩, fun q => absurd (nI_le (by omega) (by omega)) q⟩
    | succ n ih =>
      intro k hk he
      rw [p_wf] at he
      refine vX5_wordOfToken_12 C F _ ?_
      rw [show (9 : Int32) = nI 9 from rfl]
      refine ⟨fun q => absurd q (nI_ge (by omega) (by omega)), fun _ => (k_X5_textOf (by omega)).mono ?_⟩
      rintro v u ⟨rfl, rfl⟩
      refine (k_X5_isToken hL hs ht h1 h2 (by omega)).mono ?_
      rintro v u ⟨rfl, rfl⟩
      rw [q_b0, nI_1]
      refine ⟨fun y => ih (k + 1) (by omega) ?_, fun y => ⟨_, rfl, ?_, rfl⟩⟩
      · rw [if_neg (by rw [y]; decide)] at he; exact he
      · rw [if_pos ((Bool.not_eq_false _).mp y)] at he; rw [p_wd, if_pos z]; exact he
  exact loop 9 0 (by omega) rfl
theorem p_wf_in (s e : Nat) : ∀ n k, k + n = 9 → p_wf T s e n k = -1 ∨ ∃ j : Nat, j < 9 ∧ p_wf T s e n k = nI j := by
  intro n
  induction n with
  | zero => intro k _; exact Or.inl rfl
  | succ n ih =>
    intro k hk
    rw [p_wf]
    split
    · exact Or.inr ⟨k, by omega, rfl⟩
    · exact ih (k + 1) (by omega)
theorem p_wd_in (t : mTk) : p_wd T t = -1 ∨ ∃ j : Nat, j < 9 ∧ p_wd T t = nI j := by
  unfold p_wd
  split
  · exact p_wf_in _ _ 9 0 rfl
  · exact Or.inl rfl
theorem p_dig {x : Int32} (h : p_lc x = 2) : ∃ d : Nat, d < 10 ∧ x = nI (48 + d) := by
  unfold p_lc at h
  split at h
  · exact absurd h (by decide)
  · split at h
    · rename_i a b
      obtain ⟨j, hj, rfl⟩ := nI_of (x := x) (fun q => b.1 (Int32.lt_trans q (by decide)))
      have b1 : ¬ j < 48 := fun q => b.1 (show nI j < nI 48 from nI_lt q (by omega))
      have b2 : ¬ 57 < j := fun q => b.2 (show nI 57 < nI j from nI_lt q hj)
      exact ⟨j - 48, by omega, by rw [show 48 + (j - 48) = j by omega]⟩
    · exact absurd h (by decide)
theorem p_nb_in {s : Nat} : ∀ k, k ≤ 2 → (∀ j, s ≤ j → j < s + k → p_lc (T j) = 2) → ∃ n : Nat, n < 10 ^ k ∧ p_nb T s k = nI n := by
  intro k
  induction k with
  | zero => intro _ _; exact ⟨0, by decide, rfl⟩
  | succ k ih =>
    intro hk h
    obtain ⟨n, hn, en⟩ := ih (by omega) (fun j a b => h j a (by omega))
    obtain ⟨d, hd, ed⟩ := p_dig (h (s + k) (by omega) (by omega))
    refine ⟨10 * n + d, by rw [Nat.pow_succ]; omega, ?_⟩
    rw [p_nb, en, ed, show (10 : Int32) * nI n = nI (10 * n) from pk_mul 10 n, nI_add, show (48 : Int32) = nI 48 from rfl, pk_sub (by omega), show 10 * n + (48 + d) - 48 = 10 * n + d by omega]
theorem k_X5_numberOfToken (hL : L ≤ 160) (hs : sX (L, T) w) {t : mTk} (ht : tkX t w) (h1 : t.1 ≤ t.2.1) (h2 : t.2.1 ≤ L) (h3 : t.2.2 < 4) : mMi E MX5_numberOfToken [.ref 22] w (fun v u => v = (if t.2.2 = 2 ∧ t.2.1 - t.1 ≤ 2 then p_nb T t.1 (t.2.1 - t.1) else -1) ∧ u = w) := by
  unfold mMi
  refine mM_start rfl (Nat.le_of_ble_eq_true rfl) rfl (fun X C F => vX5_numberOfToken_0 C F ?_)
  rw [ht.2.2, show nI t.2.2 = 2 ↔ t.2.2 = 2 from nI_eq (b := 2) (by omega) (by omega), ht.1, ht.2.1, pk_sub h1, show (2 : Int32) = nI 2 from rfl, nI_leI (by omega) (by omega)]
  refine ⟨fun z => ⟨_, rfl, by rw [if_neg (fun q => z q.1)], rfl⟩, fun z => ⟨fun z2 => ?_, fun z2 => ⟨_, rfl, by rw [if_neg (fun q => z2 q.2)], rfl⟩⟩⟩
  have loop : ∀ m j : Nat, j + m = t.2.1 - t.1 → mG X E MX5_numberOfToken 30 [.ref 22, .int (p_nb T t.1 j), .int (nI (t.1 + j))] [] w := by
    intro m
    induction m with
    | zero =>
      intro j hj
      refine vX5_numberOfToken_30 C F _ _ ?_
      rw [ht.2.1]
      exact ⟨fun _ => ⟨_, rfl, by rw [if_pos ⟨z, z2⟩, show j = t.2.1 - t.1 by omega], rfl⟩, fun q => absurd (nI_le (by omega) (by omega)) q⟩
    | succ m ih =>
      intro j hj
      refine vX5_numberOfToken_30 C F _ _ ?_
      rw [ht.2.1, nI_clamp (by omega), hs.2 (t.1 + j) (by show t.1 + j < L; omega), nI_1]
      exact ⟨fun q => absurd q (nI_ge (by omega) (by omega)), fun _ => ⟨vp_in_nI (by omega) (by omega), ih (j + 1) (by omega)⟩⟩
  exact loop (t.2.1 - t.1) 0 (by omega)
theorem k_X5_isOfFact (k : Int32) : mMi E MX5_isOfFact [.int k] w (fun v u => v = q_b (decide (k = 1 ∨ k = 2)) ∧ u = w) := by
  unfold mMi
  refine mM_start rfl (Nat.le_of_ble_eq_true rfl) rfl (fun X C F => vX5_isOfFact_0 C F _ ?_)
  refine ⟨fun z => ⟨_, rfl, ?_, rfl⟩, fun z => ⟨fun z2 => ⟨_, rfl, ?_, rfl⟩, fun z2 => ⟨_, rfl, ?_, rfl⟩⟩⟩
  · rw [decide_eq_true (Or.inl z)]; rfl
  · rw [decide_eq_false (fun q => q.elim z z2)]; rfl
  · rw [decide_eq_true (Or.inr z2)]; rfl
theorem k_X5_hasRoomFor {c : mC3} (hc : c3X c w) (h1 : c.1 ≤ 6) (h2 : c.2.1 ≤ 5) (h3 : c.2.2 ≤ 6) (k : Int32) : mMi E MX5_hasRoomFor [.ref 22, .int k] w (fun v u => v = q_b (p_room c k) ∧ u = w) := by
  unfold mMi
  refine mM_start rfl (Nat.le_of_ble_eq_true rfl) rfl (fun X C F => vX5_hasRoomFor_0 C F _ ?_)
  refine ⟨fun z => ⟨_, rfl, by rw [p_room, if_pos (Or.inl z)]; rfl, rfl⟩, fun z => ⟨fun z2 => (k_X5_isOfFact _).mono ?_, fun z2 => ⟨_, rfl, by rw [p_room, if_pos (Or.inr z2)]; rfl, rfl⟩⟩⟩
  have n08 : ¬ (k = 0 ∨ k = 8) := fun q => q.elim z z2
  rintro v u ⟨rfl, rfl⟩
  rw [q_b0, hc.1, hc.2.1, hc.2.2, show (6 : Int32) = nI 6 from rfl, show (5 : Int32) = nI 5 from rfl, nI_leI (by omega) (by omega), nI_leI (by omega) (by omega), nI_leI (by omega) (by omega)]
  refine ⟨fun f => ⟨fun k7 => ⟨fun l => ⟨_, rfl, ?_, rfl⟩, fun l => ⟨_, rfl, ?_, rfl⟩⟩, fun k7 => ⟨fun l => ⟨_, rfl, ?_, rfl⟩, fun l => ⟨_, rfl, ?_, rfl⟩⟩⟩, fun f => ⟨fun l => ⟨_, rfl, ?_, rfl⟩, fun l => ⟨_, rfl, ?_, rfl⟩⟩⟩
  · rw [p_room, if_neg n08, if_neg (of_decide_eq_false f), if_neg k7, decide_eq_false (by omega)]; rfl
  · rw [p_room, if_neg n08, if_neg (of_decide_eq_false f), if_neg k7, decide_eq_true (by omega)]; rfl
  · rw [p_room, if_neg n08, if_neg (of_decide_eq_false f), if_pos k7, decide_eq_false (by omega)]; rfl
  · rw [p_room, if_neg n08, if_neg (of_decide_eq_false f), if_pos k7, decide_eq_true (by omega)]; rfl
  · rw [p_room, if_neg n08, if_pos (b_t f), decide_eq_false (by omega)]; rfl
  · rw [p_room, if_neg n08, if_pos (b_t f), decide_eq_true (by omega)]; rfl
def cS22 : Nat → Nat → Prop := fun c k => c = 22 ∧ (k = 7 ∨ k = 8 ∨ k = 9)
theorem k_X5_countIn {c : mC3} (hc : c3X c w) (k : Int32) : mMv E MX5_countIn [.ref 22, .int k] w (fun u => mFr cS22 w u ∧ c3X (p_cnt c k) u) := by
  have f : ∀ {j : Nat} (w : mW) (v : Int32), (j = 7 ∨ j = 8 ∨ j = 9) → mFr cS22 w (mPI w 22 j v) := fun w v h => mFr.pi (S := cS22) ⟨rfl, h⟩
  unfold mMv
  refine mM_start rfl (Nat.le_of_ble_eq_true rfl) rfl (fun X C F => vX5_countIn_0 C F _ ?_)
  unfold p_cnt
  refine ⟨fun z => ⟨fun z2 => ⟨fun z3 => (k_X5_isOfFact _).mono ?_, fun z3 => ⟨rfl, f _ _ (by omega), ?_⟩⟩, fun z2 => ⟨rfl, f _ _ (by omega), ?_⟩⟩, fun z => ⟨rfl, ((f _ _ (by omega)).tr (f _ _ (by omega))).tr (f _ _ (by omega)), ?_⟩⟩
  · rintro v u ⟨rfl, rfl⟩
    rw [q_b0]
    refine ⟨fun y => ⟨rfl, f _ _ (by omega), ?_⟩, fun y => ⟨rfl, f _ _ (by omega), ?_⟩⟩
    · rw [if_neg z, if_neg z2, if_neg (of_decide_eq_false y), if_neg z3]
      exact ⟨by rw [mPI_col (by omega)]; exact hc.1, by rw [mPI_at, hc.2.1, nI_1], by rw [mPI_col (by omega)]; exact hc.2.2⟩
    · rw [if_neg z, if_neg z2, if_pos (b_t y)]
      exact ⟨by rw [mPI_at, hc.1, nI_1], by rw [mPI_col (by omega)]; exact hc.2.1, by rw [mPI_col (by omega)]; exact hc.2.2⟩
  · rw [if_neg z, if_neg z2, if_neg (by rw [z3]; decide), if_pos z3]
    exact ⟨by rw [mPI_col (by omega)]; exact hc.1, by rw [mPI_col (by omega)]; exact hc.2.1, by rw [mPI_at, hc.2.2, nI_1]⟩
  · rw [if_neg z, if_pos z2]
    exact ⟨by rw [mPI_col (by omega)]; exact hc.1, by rw [mPI_col (by omega)]; exact hc.2.1, by rw [mPI_at]; rfl⟩
  · rw [if_pos z]
    exact ⟨by rw [mPI_col (by omega), mPI_col (by omega), mPI_at]; rfl, by rw [mPI_col (by omega), mPI_at]; rfl, by rw [mPI_at]; rfl⟩
def p_mo (c : mC3) (b : Int32) : Int32 := if b = 98 then 1 else if b = 100 then 3 else if b = 118 then 40 else nI c.1 - 1
theorem k_X5_mostOf {c : mC3} (hc : c3X c w) (b : Int32) : mMi E MX5_mostOf [.ref 22, .int b] w (fun v u => v = p_mo c b ∧ u = w) := by
  unfold mMi
  refine mM_start rfl (Nat.le_of_ble_eq_true rfl) rfl (fun X C F => vX5_mostOf_0 C F _ ?_)
  rw [hc.1]
  unfold p_mo
  exact ⟨fun z => ⟨_, rfl, by rw [if_pos z], rfl⟩, fun z => ⟨fun z2 => ⟨_, rfl, by rw [if_neg z, if_pos z2], rfl⟩, fun z2 => ⟨fun z3 => ⟨_, rfl, by rw [if_neg z, if_neg z2, if_pos z3], rfl⟩, fun z3 => ⟨_, rfl, by rw [if_neg z, if_neg z2, if_neg z3], rfl⟩⟩⟩⟩
def p_st (k : Nat) : Nat := if k = 0 ∨ k = 8 then 9 else if k = 1 ∨ k = 2 then 10 else if k = 5 then 11 else 12
theorem k_X5_numbersOf {k : Nat} (hk : k < 9) : mMr E MX5_numbersOf [.int (nI k)] w (fun v u => v = 100 + p_st k ∧ u = w) := by
  unfold mMr
  refine mM_start rfl (Nat.le_of_ble_eq_true rfl) rfl (fun X C F => vX5_numbersOf_0 C F _ ?_)
  have e : ∀ j : Nat, j < 9 → (nI k = nI j ↔ k = j) := fun j hj => nI_eq (by omega) (by omega)
  rw [show nI k = 0 ↔ k = 0 from e 0 (by omega), show nI k = 1 ↔ k = 1 from e 1 (by omega), show nI k = 2 ↔ k = 2 from e 2 (by omega), show nI k = 3 ↔ k = 3 from e 3 (by omega), show nI k = 4 ↔ k = 4 from e 4 (by omega), show nI k = 5 ↔ k = 5 from e 5 (by omega), show nI k = 6 ↔ k = 6 from e 6 (by omega), show nI k = 7 ↔ k = 7 from e 7 (by omega), show nI k = 8 ↔ k = 8 from e 8 (by omega)]
  have a : k = 0 → 109 = 100 + p_st k := fun h => by subst h; rfl
  have a1 : k = 1 → 110 = 100 + p_st k := fun h => by subst h; rfl
  have a2 : k = 2 → 110 = 100 + p_st k := fun h => by subst h; rfl
  have a3 : k = 3 → 112 = 100 + p_st k := fun h => by subst h; rfl
  have a4 : k = 4 → 112 = 100 + p_st k := fun h => by subst h; rfl
  have a5 : k = 5 → 111 = 100 + p_st k := fun h => by subst h; rfl
  have a6 : k = 6 → 112 = 100 + p_st k := fun h => by subst h; rfl
  have a7 : k = 7 → 112 = 100 + p_st k := fun h => by subst h; rfl
  have a8 : k = 8 → 109 = 100 + p_st k := fun h => by subst h; rfl
  exact ⟨fun z => ⟨_, rfl, a z, rfl⟩, fun z0 => ⟨fun z => ⟨_, rfl, a1 z, rfl⟩, fun z1 => ⟨fun z => ⟨_, rfl, a2 z, rfl⟩, fun z2 => ⟨fun z => ⟨_, rfl, a3 z, rfl⟩, fun z3 => ⟨fun z => ⟨_, rfl, a4 z, rfl⟩, fun z4 => ⟨fun z => ⟨_, rfl, a5 z, rfl⟩, fun z5 => ⟨fun z => ⟨_, rfl, a6 z, rfl⟩, fun z6 => ⟨fun z => ⟨_, rfl, a7 z, rfl⟩, fun z7 => ⟨fun z => ⟨_, rfl, a8 z, rfl⟩, fun z8 => absurd hk (by omega)⟩⟩⟩⟩⟩⟩⟩⟩⟩
theorem p_max_st {c : mC3} {k : Nat} (hk : k < 9) : p_max c (nI k) = (mStB.getD (p_st k) []).map (p_mo c) := by
  match k, hk with
  | 0, _ => rfl
  | 1, _ => rfl
  | 2, _ => rfl
  | 3, _ => rfl
  | 4, _ => rfl
  | 5, _ => rfl
  | 6, _ => rfl
  | 7, _ => rfl
  | 8, _ => rfl
end X5
