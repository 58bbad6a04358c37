/-! ===== CONTRACTS: the reference: changed, askOf ===== -/
def q_df (r s : Nat → Int32) (p : Nat) : Nat → Bool
  | 0 => false
  | f + 1 => q_df r s p f || !decide (r (2 + 6 * p + f) = s (2 + 6 * p + f))
def q_chg (Y : mY) (r s : Nat → Int32) : Int32 := q_ds (fun p => q_df r s p Y.1.1) Y.1.2.1
theorem q_df_iff (r s : Nat → Int32) (p : Nat) : ∀ n, q_df r s p n = true ↔ ∃ f, f < n ∧ ¬ r (2 + 6 * p + f) = s (2 + 6 * p + f) := by
  intro n
  induction n with
  | zero => exact ⟨fun h => absurd h (by simp [q_df]), fun ⟨f, hf, _⟩ => absurd hf (by omega)⟩
  | succ n ih =>
    rw [q_df, Bool.or_eq_true, ih]
    constructor
    · rintro (⟨f, hf, h⟩ | h)
      · exact ⟨f, by omega, h⟩
      · exact ⟨n, by omega, by simpa using h⟩
    · rintro ⟨f, hf, h⟩
      by_cases e : f = n
      · subst e; exact Or.inr (by simpa using h)
      · exact Or.inl ⟨f, by omega, h⟩
theorem q_or0 (x : Int32) : x ||| 0 = x := by
  apply q_ext; intro k _; rw [q_g_or, q_g_zero, Bool.or_false]
theorem q_oro (x b : Int32) : (x ||| b) ||| b = x ||| b := by
  apply q_ext; intro k _; rw [q_g_or, q_g_or, Bool.or_assoc, Bool.or_self]
/-- what a sentence leaves alone -/
theorem q_bel_bv {n : mN5} (hn : q_sok n) (m : Int32) {j : Nat} (hj : j < 6) (h1 : ¬ j = n.2.1) (h2 : (n.1 = 1 ∨ n.1 = 2 ∨ n.1 = 3) → ¬ j = n.2.2.2.1) : q_bel (q_bv (q_toS n) m) j = q_bel m j := by
  obtain ⟨k, f, b, g, c⟩ := n
  obtain ⟨k1, k2, k3, k4, k5, k6⟩ := hn
  dsimp only at k1 k2 k3 k4 k5 k6 h1 h2
  match k, k1 with
  | 0, _ => show q_bel (q_hd m (nI f) (nI b)) j = _; rw [q_bel_hd _ (q_01n k3) k2 hj, if_neg h1]
  | 1, _ => show q_bel (q_hd (q_hd m (nI f) (nI b)) (nI g) (nI c)) j = _; rw [q_bel_hd _ (q_01n k5) k4 hj, if_neg (h2 (by omega)), q_bel_hd _ (q_01n k3) k2 hj, if_neg h1]
  | 2, _ =>
    show q_bel (q_al m (nI f) (nI g) (nI b) (nI c)) j = _
    rw [q_bel_al m k2 k4 k3 k5 hj, if_neg (h2 (by omega)), if_neg h1]; simp only [ite_self]
  | 3, _ =>
    show q_bel (q_al m (nI f) (nI g) (1 - nI b) (nI c)) j = _
    rw [q_1m k3, q_bel_al m k2 k4 (show 1 - b < 2 by omega) k5 hj, if_neg (h2 (by omega)), if_neg h1]; simp only [ite_self]
  | 4, _ => show q_bel (q_hd m (nI f) (nI b)) j = _; rw [q_bel_hd _ (q_01n k3) k2 hj, if_neg h1]
theorem q_bel_db {n : mN5} (hn : q_sok n) (m : Int32) {j : Nat} (hj : j < 6) (h1 : ¬ j = n.2.1) (h2 : (n.1 = 1 ∨ n.1 = 2 ∨ n.1 = 3) → ¬ j = n.2.2.2.1) : q_bel (q_db (q_toS n) m) j = q_bel m j := by
  obtain ⟨k, f, b, g, c⟩ := n
  obtain ⟨k1, k2, k3, k4, k5, k6⟩ := hn
  dsimp only at k1 k2 k3 k4 k5 k6 h1 h2
  have b1 : (1 : Int32) - nI b = 0 ∨ (1 : Int32) - nI b = 1 := by rw [q_1m k3]; exact q_01n (by omega)
  have c1 : (1 : Int32) - nI c = 0 ∨ (1 : Int32) - nI c = 1 := by rw [q_1m k5]; exact q_01n (by omega)
  match k, k1 with
  | 0, _ => show q_bel (q_hd m (nI f) (1 - nI b)) j = _; rw [q_bel_hd _ b1 k2 hj, if_neg h1]
  | 1, _ =>
    show q_bel (q_al m (nI f) (nI g) (1 - nI b) (1 - nI c)) j = _
    rw [q_1m k3, q_1m k5, q_bel_al m k2 k4 (show 1 - b < 2 by omega) (show 1 - c < 2 by omega) hj, if_neg (h2 (by omega)), if_neg h1]; simp only [ite_self]
  | 2, _ => show q_bel (q_hd (q_hd m (nI f) (1 - nI b)) (nI g) (1 - nI c)) j = _; rw [q_bel_hd _ c1 k4 hj, if_neg (h2 (by omega)), q_bel_hd _ b1 k2 hj, if_neg h1]
  | 3, _ => show q_bel (q_hd (q_hd m (nI f) (nI b)) (nI g) (1 - nI c)) j = _; rw [q_bel_hd _ c1 k4 hj, if_neg (h2 (by omega)), q_bel_hd _ (q_01n k3) k2 hj, if_neg h1]
  | 4, _ => show q_bel (q_hd m (nI f) (1 - nI b)) j = _; rw [q_bel_hd _ b1 k2 hj, if_neg h1]
section K9a
variable {E : mEnv} {w : mW} {Y : mY} {t d : Int32} {M : Int64}
theorem k_X9_changed {a b : Nat} (ha : mSh[a]? = some (.inl (0, 32, []))) (hb : mSh[b]? = some (.inl (0, 32, []))) (hY : cyM Y w) (hk : cyOK Y) : mMi E MX9_changed [.ref 60, .ref a, .ref b] w (fun v u => v = q_chg Y (w.1 a) (w.1 b) ∧ u = w) := by
  have h5 := hk.2.1
  have h6 := hk.1
  unfold mMi
  refine mM_start rfl (Nat.le_of_ble_eq_true rfl) rfl (fun X C F => vX9_changed_0 C F ha hb ?_)
  have loop2 : ∀ p : Nat, p < Y.1.2.1 → mG X E MX9_changed 5 [.ref 60, .ref a, .ref b, .int (q_ds (fun p => q_df (w.1 a) (w.1 b) p Y.1.1) (p + 1)), .int (nI (p + 1)), .retAddr 0] [] w → ∀ k f : Nat, f + k = Y.1.1 → mG X E MX9_changed 17 [.ref 60, .ref a, .ref b, .int (if q_df (w.1 a) (w.1 b) p f = true then q_ds (fun p => q_df (w.1 a) (w.1 b) p Y.1.1) p ||| ((1 : Int32) <<< (nI p &&& 31)) else q_ds (fun p => q_df (w.1 a) (w.1 b) p Y.1.1) p), .int (nI p), .int (nI f)] [] w := by
    intro p hp K k
    induction k with
    | zero =>
      intro f hf
      refine vX9_changed_17 C F ha hb _ _ _ ?_
      rw [hY.1, nI_1 p]
      refine ⟨fun _ => ?_, fun h => absurd (nI_le (by omega) (by omega)) h⟩
      rw [q_ds] at K
      rw [show f = Y.1.1 by omega]
      exact K
    | succ k ih =>
      intro f hf
      have n := ih (f + 1) (by omega)
      refine vX9_changed_17 C F ha hb _ _ _ ?_
      rw [hY.1, q_6p, show (2 : Int32) + nI (6 * p) = nI (2 + 6 * p) from q_k 2 _, nI_add, nI_clamp (by omega), nI_1 f]
      refine ⟨fun h => absurd h (nI_ge (by omega) (by omega)), fun _ => ⟨vp_in_nI (by omega) (by omega), vp_in_nI (by omega) (by omega), fun h => ?_, fun h => ?_⟩⟩
      · rw [q_or0]
        rw [q_df, decide_eq_true h, Bool.not_true, Bool.or_false] at n
        exact n
      · rw [q_df, decide_eq_false h, Bool.not_false, Bool.or_true, if_pos rfl] at n
        split
        · rw [q_oro]; exact n
        · exact n
  have loop : ∀ k p : Nat, p + k = Y.1.2.1 → mG X E MX9_changed 5 [.ref 60, .ref a, .ref b, .int (q_ds (fun p => q_df (w.1 a) (w.1 b) p Y.1.1) p), .int (nI p), .retAddr 0] [] w := by
    intro k
    induction k with
    | zero =>
      intro p hp
      refine vX9_changed_5 C F ha hb _ _ ?_
      rw [hY.2.1]
      exact ⟨fun _ => ⟨_, rfl, by rw [show p = Y.1.2.1 by omega]; rfl, rfl⟩, fun h => absurd (nI_le (by omega) (by omega)) h⟩
    | succ k ih =>
      intro p hp
      refine vX9_changed_5 C F ha hb _ _ ?_
      rw [hY.2.1]
      exact ⟨fun h => absurd h (nI_ge (by omega) (by omega)), fun _ => loop2 p (by omega) (ih (p + 1) (by omega)) Y.1.1 0 (by omega)⟩
  exact loop Y.1.2.1 0 (by omega)
/-- who believes otherwise, by both counts -/
theorem q_df_Ms (hk : cyOK Y) (hM : q_ok M) {n : mN5} (hn : q_sok n) (hv : q_vs Y.1.1 n = true) (set : Int32) {r s : Nat → Int32} {t' d' : Int32} (hr : snM r t' d' (q_Ms Y (q_toS n) M set Y.1.2.1)) (hs : snM s t d M) {p : Nat} (hp : p < Y.1.2.1) : q_df r s p Y.1.1 = !decide (q_mo (q_Ms Y (q_toS n) M set Y.1.2.1) (nI p) = q_mo M (nI p)) := by
  have h5 := hk.2.1
  have h6 := hk.1
  obtain ⟨v1, v2⟩ := q_vs_iff.mp hv
  obtain ⟨o1, o2⟩ := q_Ms_ok (Y := Y) hM hn set Y.1.2.1 h5
  have far : ∀ j, j < 6 → ¬ j < Y.1.1 → q_bel (q_mo (q_Ms Y (q_toS n) M set Y.1.2.1) (nI p)) j = q_bel (q_mo M (nI p)) j := by
    intro j hj hjn
    have a1 : ¬ j = n.2.1 := by omega
    have a2 : (n.1 = 1 ∨ n.1 = 2 ∨ n.1 = 3) → ¬ j = n.2.2.2.1 := fun q => by rw [if_pos q] at v2; omega
    rw [o2 p (by omega), if_pos hp, q_am]
    split
    · rw [q_tm]
      split
      · exact q_bel_bv hn _ hj a1 a2
      · exact q_bel_db hn _ hj a1 a2
    · split
      · exact q_bel_bv hn _ hj a1 a2
      · rfl
  rw [Bool.eq_iff_iff, q_df_iff]
  simp only [Bool.not_eq_true', decide_eq_false_iff_not]
  constructor
  · rintro ⟨f, hf, h⟩ q
    rw [hr.2.2 p f (by omega) (by omega), hs.2.2 p f (by omega) (by omega), q] at h
    exact h rfl
  · intro h
    apply Classical.byContradiction
    intro q
    refine h (q_can_ext (o1.2 p (by omega)) (hM.2 p (by omega)) (fun j hj => ?_))
    by_cases l : j < Y.1.1
    · apply Classical.byContradiction
      intro z
      exact q ⟨j, l, by rw [hr.2.2 p j (by omega) hj, hs.2.2 p j (by omega) hj]; exact z⟩
    · exact far j hj l
theorem q_ds_congr {d e : Nat → Bool} : ∀ n, (∀ p, p < n → d p = e p) → q_ds d n = q_ds e n := by
  intro n
  induction n with
  | zero => intro _; rfl
  | succ n ih => intro h; rw [q_ds, q_ds, ih (fun p hp => h p (by omega)), h n (by omega)]
theorem q_ds_0 {d : Nat → Bool} {n : Nat} (hn : n ≤ 5) : q_ds d n = 0 ↔ ∀ p, p < n → d p = false := by
  constructor
  · intro h p hp
    have := q_g_ds d n (by omega) p (by omega)
    rw [h, q_g_zero, decide_eq_true hp, Bool.true_and] at this
    exact this.symm
  · intro h
    apply q_ext
    intro k hk
    rw [q_g_ds d n (by omega) k hk, q_g_zero]
    by_cases l : k < n
    · rw [h k l, Bool.and_false]
    · rw [decide_eq_false l, Bool.false_and]
theorem q_chg_0 (hk : cyOK Y) (hM : q_ok M) {n : mN5} (hn : q_sok n) (hv : q_vs Y.1.1 n = true) (set : Int32) {r s : Nat → Int32} {t' d' : Int32} (hr : snM r t' d' (q_Ms Y (q_toS n) M set Y.1.2.1)) (hs : snM s t d M) : q_chg Y r s = 0 ↔ q_Ms Y (q_toS n) M set Y.1.2.1 = M := by
  have h5 := hk.2.1
  obtain ⟨o1, o2⟩ := q_Ms_ok (Y := Y) hM hn set Y.1.2.1 h5
  unfold q_chg
  rw [q_ds_0 h5]
  constructor
  · intro h
    refine q_ok_ext o1 hM (fun p hp => ?_)
    by_cases l : p < Y.1.2.1
    · have := h p l
      rw [q_df_Ms hk hM hn hv set hr hs l] at this
      simpa using this
    · rw [o2 p hp, if_neg l]
  · intro h p hp
    rw [q_df_Ms hk hM hn hv set hr hs hp, h]
    simp
theorem q_b1p {p : Nat} (hp : p < 5) : q_bt (q_1 p) (nI p) = 1 := by
  rw [q_bt1 _ (by omega)]
  exact (q_g_sh1 p (by omega) p (by omega)).trans (by simp)
/-- which sentences are asked for -/
def q_aP (Y : mY) (M : Int64) (t : Int32) (p : Nat) (did : Int32) : mS → Bool := if did = 2 then q_eP Y M t p else q_dP Y M t p did
theorem k_X9_askOf (hY : cyM Y w) (hk : cyOK Y) (hM : q_ok M) (hs : snM (w.1 66) t d M) {p : Nat} (hp : p < Y.1.2.1) (did what : Int32) (hd : did = 0 ∨ did = 1 ∨ did = 2) :
    mMi E MX9_askOf [.ref 60, .int (nI p), .int did, .int what] w (fun v u => v = (if what = 0 then (q_fo (fun a => q_vs Y.1.1 (q_dc a)) (fun st a => q_cn (q_aP Y M t p did) st (q_toS (q_dc a))) (0, -1) 720).1 else (q_fo (fun a => q_vs Y.1.1 (q_dc a)) (fun st a => q_cn (q_aP Y M t p did) st (q_toS (q_dc a))) (0, -1) 720).2) ∧ mFr lS w u) := by
  have h5 := hk.2.1
  have h6 := hk.1
  rw [q_fo_all (fun st n => q_cn (q_aP Y M t p did) st (q_toS n)) (0, -1) hk.1]
  unfold mMi
  refine mM_start rfl (Nat.le_of_ble_eq_true rfl) rfl (fun X C F => vX9_askOf_0 C F _ _ _ ?_)
  have loop : ∀ k j : Nat, j + k = 9200 → ∀ u (st : mT2), mFr lS w u → st = q_fo (fun j => q_vm Y.1.1 (q_dm (q_vj j))) (fun st j => q_cn (q_aP Y M t p did) st (q_toS (q_dm (q_vj j)))) (0, -1) j → mG X E MX9_askOf 9 [.ref 60, .int (nI p), .int did, .int what, .int st.1, .int st.2, .int (nI (q_vj j)), .retAddr 0, .retAddr 0] [] u := by
    intro k
    induction k with
    | zero =>
      intro j hj u st hf h3
      have e : q_vj j = 46000 := by unfold q_vj; omega
      refine vX9_askOf_9 C F _ _ _ _ _ _ ?_
      rw [q_46 (by omega)]
      refine ⟨fun _ => ⟨fun hw => ⟨_, rfl, ?_, hf⟩, fun hw => ⟨_, rfl, ?_, hf⟩⟩, fun h => absurd (by omega) h⟩
      · rw [if_neg hw, h3, show j = 9200 by omega]
      · rw [if_pos hw, h3, show j = 9200 by omega]
    | succ k ih =>
      intro j hj u st hf h3
      have hY1 := hY.fr hf lS_cy
      have hs1 := hs.keep hf (fun k h => by unfold lS at h; omega)
      have hvl : q_vj j < 46000 := by unfold q_vj; omega
      have hN : ∀ (y4 y5 : Int32) (u : mW), (y4, y5) = q_fo (fun j => q_vm Y.1.1 (q_dm (q_vj j))) (fun st j => q_cn (q_aP Y M t p did) st (q_toS (q_dm (q_vj j)))) (0, -1) (j + 1) → mFr lS w u → mMi E MX9_nextNumber [.int (nI (q_vj j))] u (fun v2 u2 => mG X E MX9_askOf 9 [.ref 60, .int (nI p), .int did, .int what, .int y4, .int y5, .int v2, .retAddr 0, .retAddr 0] [] u2) := by
        intro y4 y5 u e f
        refine (k_X9_nextNumber (by omega)).mono ?_
        rintro v u2 ⟨rfl, rfl⟩
        exact ih (j + 1) (by omega) u2 (y4, y5) f e
      refine vX9_askOf_9 C F _ _ _ _ _ _ ?_
      rw [q_46 (by omega)]
      refine ⟨fun h => absurd h (by omega), fun _ => (k_X9_isSentence hY1 hk hvl).mono ?_⟩
      rintro v u1 ⟨rfl, f1, hS⟩
      have hYa := hY1.fr f1 s60_cy
      have hsa := hs1.keep f1 (fun k h => by unfold s60 at h; omega)
      have hfa := hf.tr (f1.mono lS_s60)
      rw [q_b0]
      refine ⟨fun hv => hN _ _ u1 ?_ hfa, fun hv => ?_⟩
      · rw [q_fo, if_neg (by rw [hv]; decide), ← h3]
      · have hv := (Bool.not_eq_false _).mp hv
        have hok := q_vm_ok h6 (q_dm_k hvl) hv
        have hvs := (q_vm_iff.mp hv).1
        have yes : q_aP Y M t p did (q_toS (q_dm (q_vj j))) = true → q_ci st (nI (q_vj j)) = q_fo (fun j => q_vm Y.1.1 (q_dm (q_vj j))) (fun st j => q_cn (q_aP Y M t p did) st (q_toS (q_dm (q_vj j)))) (0, -1) (j + 1) := by
          intro z
          rw [q_fo, if_pos hv, ← h3, q_cn, if_pos z, q_nm_dm]
        have no : q_aP Y M t p did (q_toS (q_dm (q_vj j))) = false → st = q_fo (fun j => q_vm Y.1.1 (q_dm (q_vj j))) (fun st j => q_cn (q_aP Y M t p did) st (q_toS (q_dm (q_vj j)))) (0, -1) (j + 1) := by
          intro z
          rw [q_fo, if_pos hv, ← h3, q_cn, if_neg (by rw [z]; decide)]
        refine (k_X9_isSo sh66 (by omega) hYa hk hM hsa hok hS _).mono ?_
        rintro v u2 ⟨rfl, f2⟩
        have hY2 := hYa.fr f2 c68_cy
        have hs2 := hsa.keep f2 (fun k h => by unfold cS at h; omega)
        have hS2 := (q_Sm_fr f2 c68_s).trans hS
        have hf2 := hfa.tr (f2.mono lS_c68)
        rw [q_b0, show (1 : Int32) <<< (nI p &&& 31) = q_1 p from rfl]
        refine ⟨fun hz => hN _ _ u2 (no ?_) hf2, fun hz => ?_⟩
        · unfold q_aP; split
          · unfold q_eP; rw [hz, Bool.false_and]
          · unfold q_dP; rw [hz, Bool.false_and]
        · have hz := (Bool.not_eq_false _).mp hz
          refine (k_X9_copy (x := 0) (y := 0) sh66 sh67 (by omega) (by omega) (by omega) (by omega) (by omega)).mono ?_
          rintro u3 ⟨f3, r3⟩
          have g3 : mFr (cS 67) u2 u3 := f3.mono (fun c k h => by unfold cS; omega)
          have hsc : snM (u3.1 67) t d M := hs2.fr (fun k hk => by have := r3 k hk; simpa using this)
          have hY3 := hY2.fr g3 c67_cy
          have hs3 := hs2.keep g3 (fun k h => by unfold cS at h; omega)
          have hf3 := hf2.tr (g3.mono lS_c67)
          refine (k_X9_hearAll sh67 hY3 hk hM hsc hok ((q_Sm_fr g3 c67_s).trans hS2) (q_1 p)).mono ?_
          rintro u4 ⟨f4, hsd⟩
          have g4 : mFr (cS 67) u3 u4 := f4.mono (fun c k h => by unfold bS at h; unfold cS; omega)
          have hY4 := hY3.fr g4 c67_cy
          have hs4 := hs3.keep g4 (fun k h => by unfold cS at h; omega)
          have hf4 := hf3.tr (g4.mono lS_c67)
          obtain ⟨-, ⟨x, hx, ex⟩, hb, -⟩ := hk.2.2.2.2.1 p hp
          have e : ∀ j, j < 6 → u4.1 62 (6 * p + j) = Y.2.2.1 p j := fun j hj => hY4.2.2.2.2.1 p j hp hj
          have eb := hsd.2.2 p x (by omega) (by omega)
          have hdo : q_dt Y (q_toS (q_dm (q_vj j))) M p = true ↔ q_bel (q_mo (q_Ms Y (q_toS (q_dm (q_vj j))) M (q_1 p) Y.1.2.1) (nI p)) x = Y.2.2.1 p 2 := by
            have e1 := q_dd_Ms hk hM hok (q_1 p) hp
            rw [q_ad, if_pos (q_b1p (by omega))] at e1
            rw [← e1]
            unfold q_dd
            rw [decide_eq_true_iff, ex]
            exact q_hs_iff _ hb (by omega)
          have hch := q_chg_0 hk hM hok hvs (q_1 p) hsd hs4
          rw [q_6p, show nI (6 * p) + 1 = nI (6 * p + 1) from q_k _ 1, show nI (6 * p) + 2 = nI (6 * p + 2) from q_k _ 2, nI_clamp (by omega), nI_clamp (by omega), e 1 (by omega), e 2 (by omega), ex, show (2 : Int32) + nI (6 * p) = nI (2 + 6 * p) from q_k 2 _, nI_add, nI_clamp (by omega), eb]
          have cnt : q_aP Y M t p did (q_toS (q_dm (q_vj j))) = true → ∀ u, mFr lS w u → (¬ st.1 = 0 → mMi E MX9_nextNumber [.int (nI (q_vj j))] u (fun v2 u2 => mG X E MX9_askOf 9 [.ref 60, .int (nI p), .int did, .int what, .int (st.1 + 1), .int st.2, .int v2, .retAddr 0, .retAddr 0] [] u2)) ∧ (st.1 = 0 → mMi E MX9_nextNumber [.int (nI (q_vj j))] u (fun v2 u2 => mG X E MX9_askOf 9 [.ref 60, .int (nI p), .int did, .int what, .int (st.1 + 1), .int (nI (q_vj j)), .int v2, .retAddr 0, .retAddr 0] [] u2)) := by
            intro z u f
            have y := yes z
            unfold q_ci at y
            refine ⟨fun h => hN _ _ u ?_ f, fun h => hN _ _ u ?_ f⟩
            · rw [if_neg h] at y; exact y
            · rw [if_pos h] at y; exact y
          have ncnt : q_aP Y M t p did (q_toS (q_dm (q_vj j))) = false → ∀ u, mFr lS w u → mMi E MX9_nextNumber [.int (nI (q_vj j))] u (fun v2 u2 => mG X E MX9_askOf 9 [.ref 60, .int (nI p), .int did, .int what, .int (st.1 + 0), .int st.2, .int v2, .retAddr 0, .retAddr 0] [] u2) := fun z u f => hN _ _ u (by rw [show st.1 + 0 = st.1 by simp]; exact no z) f
          have chg : did = 2 → mMi E MX9_changed [.ref 60, .ref 67, .ref 66] u4 (fun v8 u10 => (¬ v8 = 0 → mMi E MX9_nextNumber [.int (nI (q_vj j))] u10 (fun v2 u2 => mG X E MX9_askOf 9 [.ref 60, .int (nI p), .int did, .int what, .int (st.1 + 0), .int st.2, .int v2, .retAddr 0, .retAddr 0] [] u2)) ∧ (v8 = 0 → ((¬ st.1 = 0 → mMi E MX9_nextNumber [.int (nI (q_vj j))] u10 (fun v2 u2 => mG X E MX9_askOf 9 [.ref 60, .int (nI p), .int did, .int what, .int (st.1 + 1), .int st.2, .int v2, .retAddr 0, .retAddr 0] [] u2)) ∧ (st.1 = 0 → mMi E MX9_nextNumber [.int (nI (q_vj j))] u10 (fun v2 u2 => mG X E MX9_askOf 9 [.ref 60, .int (nI p), .int did, .int what, .int (st.1 + 1), .int (nI (q_vj j)), .int v2, .retAddr 0, .retAddr 0] [] u2))))) := by
            intro h2
            refine (k_X9_changed sh67 sh66 hY4 hk).mono ?_
            rintro v u5 ⟨rfl, rfl⟩
            rw [hch]
            refine ⟨fun h => ncnt ?_ u5 hf4, fun h => cnt ?_ u5 hf4⟩
            · unfold q_aP; rw [if_pos h2, q_eP, decide_eq_false h, Bool.and_false]
            · unfold q_aP; rw [if_pos h2, q_eP, decide_eq_true h, hz]; rfl
          refine ⟨vp_in_nI (by omega) (by omega), vp_in_nI (by omega) (by omega), vp_in_nI (by omega) (by omega), fun hd1 => ⟨fun h2 => ⟨fun h1 => cnt ?_ u4 hf4, fun h1 => ncnt ?_ u4 hf4⟩, fun h2 => chg h2⟩, fun hd1 => ⟨fun h2 => ⟨fun h1 => ncnt ?_ u4 hf4, fun h1 => cnt ?_ u4 hf4⟩, fun h2 => chg h2⟩⟩
          · have d0 : did = 0 := by rcases hd with h | h | h; exact h; exact absurd h h1; exact absurd h h2
            unfold q_aP; rw [if_neg h2, q_dP, hz, show q_dt Y (q_toS (q_dm (q_vj j))) M p = false from (Bool.not_eq_true _).mp (fun q => hd1 (hdo.mp q)), d0]; decide
          · unfold q_aP; rw [if_neg h2, q_dP, hz, show q_dt Y (q_toS (q_dm (q_vj j))) M p = false from (Bool.not_eq_true _).mp (fun q => hd1 (hdo.mp q)), h1]; decide
          · have d0 : did = 0 := by rcases hd with h | h | h; exact h; exact absurd h h1; exact absurd h h2
            unfold q_aP; rw [if_neg h2, q_dP, hz, hdo.mpr hd1, d0]; decide
          · unfold q_aP; rw [if_neg h2, q_dP, hz, hdo.mpr hd1, h1]; decide
  exact loop 9200 0 (by omega) w (0, -1) mFr.rf rfl
end K9a
