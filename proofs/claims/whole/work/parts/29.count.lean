/-! ===== CONTRACTS: the Seer: counting ===== -/
abbrev mT2 : Type := Int32 × Int32
def q_ci (st : mT2) (n : Int32) : mT2 := (st.1 + 1, if st.1 = 0 then n else st.2)
def q_2 (w : mW) : mT2 := (w.1 58 6, w.1 58 7)
def q_1 (p : Nat) : Int32 := (1 : Int32) <<< (nI p &&& 31)
/-- counting those of which pr holds -/
def q_cn (pr : mS → Bool) (st : mT2) (S : mS) : mT2 := if pr S = true then q_ci st (q_nm S) else st
def q_eP (Y : mY) (M : Int64) (t : Int32) (p : Nat) (S : mS) : Bool := q_so Y S M t (q_1 p) && decide (q_Ms Y S M (q_1 p) Y.1.2.1 = M)
def q_dP (Y : mY) (M : Int64) (t : Int32) (p : Nat) (did : Int32) (S : mS) : Bool := q_so Y S M t (q_1 p) && decide (q_b (q_dt Y S M p) = did)
section K6c
variable {E : mEnv} {w : mW} {Y : mY} {t : Int32} {M : Int64}
theorem q_2_fr {u : mW} {T : Nat → Nat → Prop} (f : mFr T w u) (hT : ∀ c k, T c k → ¬ c = 58) : q_2 u = q_2 w := by
  have e : ∀ k, u.1 58 k = w.1 58 k := fun k => (f 58 k (fun q => hT _ _ q rfl)).1
  unfold q_2; rw [e, e]
theorem k_X6_startCounting : mMv E MX6_startCounting [.ref 58] w (fun u => mFr s58 w u ∧ q_2 u = (0, -1)) := by
  unfold mMv
  refine mM_start rfl (Nat.le_of_ble_eq_true rfl) rfl (fun X C F => vX6_startCounting_0 C F ?_)
  exact ⟨rfl, (mFr.pi (S := s58) rfl).tr (mFr.pi (S := s58) rfl), by simp [q_2, mPI]⟩
theorem k_X6_countIn (n : Int32) : mMv E MX6_countIn [.ref 58, .int n] w (fun u => mFr s58 w u ∧ q_2 u = q_ci (q_2 w) n) := by
  unfold mMv
  refine mM_start rfl (Nat.le_of_ble_eq_true rfl) rfl (fun X C F => vX6_countIn_0 C F n ?_)
  refine ⟨fun h => ⟨rfl, mFr.pi (S := s58) rfl, ?_⟩, fun h => ⟨rfl, (mFr.pi (S := s58) rfl).tr (mFr.pi (S := s58) rfl), ?_⟩⟩
  · simp [q_2, q_ci, mPI, h]
  · simp [q_2, q_ci, mPI, h]
theorem l_X6_empty {X : mX} {Qm : Option Value → mW → Prop} (C : mCtx X E MX6_countEmpty) (F : mFin X E MX6_countEmpty Qm) (hk : cyOK Y) {p : Nat} (w0 : mW) (s0 : mT2)
    (hQ : ∀ u, mFr sS w0 u → q_2 u = q_fo (fun a => q_vs Y.1.1 (q_dc a)) (fun st a => q_cn (q_eP Y M t p) st (q_toS (q_dc a))) s0 720 → Qm none u) :
    ∀ k a : Nat, a + k = 720 → ∀ w, cyX Y w → fLook Y 46 t M w → mFr sS w0 w → q_2 w = q_fo (fun a => q_vs Y.1.1 (q_dc a)) (fun st a => q_cn (q_eP Y M t p) st (q_toS (q_dc a))) s0 a →
      mG X E MX6_countEmpty 6 [.ref 58, .int (nI p), .int (nI a)] [] w := by
  intro k
  induction k with
  | zero =>
    intro a ha w hY hl hf h3
    refine vX6_countEmpty_6 C F _ _ ?_
    rw [q720 (by omega)]
    exact ⟨fun _ => hQ w hf (by rw [h3, show a = 720 by omega]), fun h => absurd (by omega) h⟩
  | succ k ih =>
    intro a ha w hY hl hf h3
    refine vX6_countEmpty_6 C F _ _ ?_
    rw [q720 (by omega)]
    refine ⟨fun h => absurd h (by omega), fun _ => (k_X3_comeTo h46 hY hk hl (by omega)).mono ?_⟩
    rintro v u ⟨ev, fg, sv⟩
    have hY1 := hY.fr hk fg (gS22 h46)
    have hl1 := hl.fr fg
    have hf1 := hf.tr (fg.mono gsS)
    have h31 := (q_2_fr fg g58).trans h3
    rw [nI_1]
    have stay : ∀ u : mW, cyX Y u → fLook Y 46 t M u → mFr sS w0 u → q_2 u = q_fo (fun a => q_vs Y.1.1 (q_dc a)) (fun st a => q_cn (q_eP Y M t p) st (q_toS (q_dc a))) s0 a → (q_vs Y.1.1 (q_dc a) = true → q_eP Y M t p (q_toS (q_dc a)) = false) → mG X E MX6_countEmpty 6 [.ref 58, .int (nI p), .int (nI (a + 1))] [] u := by
      intro u a1 a2 a3 a4 a5
      refine ih (a + 1) (by omega) u a1 a2 a3 ?_
      rw [a4, q_fo]
      split
      · rename_i hvs
        rw [q_cn, if_neg (by rw [a5 hvs]; decide)]
      · rfl
    refine ⟨fun hv => ?_, fun hv => ?_⟩
    · rw [ev, q_b0, Bool.not_eq_false] at hv
      rw [Bool.and_eq_true] at hv
      refine (k_X3_heard h46 hY1 hk hl1 sv).mono ?_
      rintro u1 ⟨fg1, hh⟩
      have hY1 := hY1.fr hk fg1 (gS22 h46)
      have hl1 := hl1.fr fg1
      have hf1 := hf1.tr (fg1.mono gsS)
      have h31 := (q_2_fr fg1 g58).trans h31
      refine (k_X3_isSoSaidTo h46 hY1 hk hl1 hh _).mono ?_
      rintro v u2 ⟨rfl, rfl⟩
      rw [q_b0]
      refine ⟨fun hs => stay u2 hY1 hl1 hf1 h31 (fun _ => by rw [q_eP, q_1, hs, Bool.false_and]), fun hs => (k_X3_movesIfSaidTo h46 hY1 hk hl1 hh _).mono ?_⟩
      rintro v u3 ⟨rfl, rfl⟩
      rw [q_b0, Bool.not_eq_false']
      refine ⟨fun hm => stay u3 hY1 hl1 hf1 h31 (fun _ => by rw [q_eP, q_1, (Bool.not_eq_true _).mp hm, Bool.and_false]), fun hm => (k_X7_number h47).mono ?_⟩
      rintro v u4 ⟨rfl, rfl⟩
      rw [hh.1]
      refine (k_X6_countIn _).mono ?_
      rintro u5 ⟨f5, h5⟩
      refine ih (a + 1) (by omega) u5 (hY1.fr hk f5 (fun c k h => sS22 c k (s58s c k h))) (hl1.out f5 s58F) (hf1.tr (f5.mono s58s)) ?_
      rw [h5, h31, q_fo, if_pos hv.1, q_cn, if_pos (by rw [q_eP, q_1, (Bool.not_eq_false _).mp hs, hm]; rfl)]
      rfl
    · rw [ev, q_b0] at hv
      refine stay u hY1 hl1 hf1 h31 (fun hvs => ?_)
      rw [hvs, Bool.true_and, Bool.or_eq_false_iff] at hv
      rw [q_eP, q_so_f ?_ hv.2, Bool.false_and]
      intro h4
      have : a / 144 = 4 := (nI_eq (b := 4) (by omega) (by omega)).mp h4
      rw [this] at hv
      exact absurd hv.1 (by decide)
theorem k_X6_countEmpty (hY : cyX Y w) (hk : cyOK Y) (hl : fLook Y 46 t M w) (p : Nat) : mMv E MX6_countEmpty [.ref 58, .int (nI p)] w (fun u => mFr sS w u ∧ q_2 u = q_fo (fun a => q_vs Y.1.1 (q_dc a)) (fun st a => q_cn (q_eP Y M t p) st (q_toS (q_dc a))) (0, -1) 720) := by
  unfold mMv
  refine mM_start rfl (Nat.le_of_ble_eq_true rfl) rfl (fun X C F => vX6_countEmpty_0 C F _ ?_)
  refine k_X6_startCounting.mono ?_
  rintro u ⟨f1, h1⟩
  exact l_X6_empty C F hk w (0, -1) (fun u a1 a2 => ⟨rfl, a1, a2⟩) 720 0 (by omega) u (hY.fr hk f1 (fun c k h => sS22 c k (s58s c k h))) (hl.out f1 s58F) (f1.mono s58s) h1
theorem l_X6_said {X : mX} {Qm : Option Value → mW → Prop} (C : mCtx X E MX6_countSaid) (F : mFin X E MX6_countSaid Qm) (hk : cyOK Y) {p : Nat} (hp : p < Y.1.2.1) (did : Int32) (w0 : mW) (s0 : mT2)
    (hQ : ∀ u, mFr sS w0 u → q_2 u = q_fo (fun a => q_vs Y.1.1 (q_dc a)) (fun st a => q_cn (q_dP Y M t p did) st (q_toS (q_dc a))) s0 720 → Qm none u) :
    ∀ k a : Nat, a + k = 720 → ∀ w, cyX Y w → fLook Y 46 t M w → mFr sS w0 w → q_2 w = q_fo (fun a => q_vs Y.1.1 (q_dc a)) (fun st a => q_cn (q_dP Y M t p did) st (q_toS (q_dc a))) s0 a →
      mG X E MX6_countSaid 6 [.ref 58, .int (nI p), .int did, .int (nI a)] [] w := by
  intro k
  induction k with
  | zero =>
    intro a ha w hY hl hf h3
    refine vX6_countSaid_6 C F _ _ _ ?_
    rw [q720 (by omega)]
    exact ⟨fun _ => hQ w hf (by rw [h3, show a = 720 by omega]), fun h => absurd (by omega) h⟩
  | succ k ih =>
    intro a ha w hY hl hf h3
    refine vX6_countSaid_6 C F _ _ _ ?_
    rw [q720 (by omega)]
    refine ⟨fun h => absurd h (by omega), fun _ => (k_X3_comeTo h46 hY hk hl (by omega)).mono ?_⟩
    rintro v u ⟨ev, fg, sv⟩
    have hY1 := hY.fr hk fg (gS22 h46)
    have hl1 := hl.fr fg
    have hf1 := hf.tr (fg.mono gsS)
    have h31 := (q_2_fr fg g58).trans h3
    rw [nI_1]
    have stay : ∀ u : mW, cyX Y u → fLook Y 46 t M u → mFr sS w0 u → q_2 u = q_fo (fun a => q_vs Y.1.1 (q_dc a)) (fun st a => q_cn (q_dP Y M t p did) st (q_toS (q_dc a))) s0 a → (q_vs Y.1.1 (q_dc a) = true → q_dP Y M t p did (q_toS (q_dc a)) = false) → mG X E MX6_countSaid 6 [.ref 58, .int (nI p), .int did, .int (nI (a + 1))] [] u := by
      intro u a1 a2 a3 a4 a5
      refine ih (a + 1) (by omega) u a1 a2 a3 ?_
      rw [a4, q_fo]
      split
      · rename_i hvs
        rw [q_cn, if_neg (by rw [a5 hvs]; decide)]
      · rfl
    refine ⟨fun hv => ?_, fun hv => ?_⟩
    · rw [ev, q_b0, Bool.not_eq_false] at hv
      rw [Bool.and_eq_true] at hv
      refine (k_X3_heard h46 hY1 hk hl1 sv).mono ?_
      rintro u1 ⟨fg1, hh⟩
      have hY1 := hY1.fr hk fg1 (gS22 h46)
      have hl1 := hl1.fr fg1
      have hf1 := hf1.tr (fg1.mono gsS)
      have h31 := (q_2_fr fg1 g58).trans h31
      refine (k_X3_isSoSaidTo h46 hY1 hk hl1 hh _).mono ?_
      rintro v u2 ⟨rfl, rfl⟩
      rw [q_b0]
      refine ⟨fun hs => stay u2 hY1 hl1 hf1 h31 (fun _ => by rw [q_dP, q_1, hs, Bool.false_and]), fun hs => (k_X3_doesDeedIfTold h46 hk hh hp).mono ?_⟩
      rintro v u3 ⟨rfl, rfl⟩
      refine ⟨fun hm => stay u3 hY1 hl1 hf1 h31 (fun _ => by rw [q_dP, decide_eq_false hm, Bool.and_false]), fun hm => (k_X7_number h47).mono ?_⟩
      rintro v u4 ⟨rfl, rfl⟩
      rw [hh.1]
      refine (k_X6_countIn _).mono ?_
      rintro u5 ⟨f5, h5⟩
      refine ih (a + 1) (by omega) u5 (hY1.fr hk f5 (fun c k h => sS22 c k (s58s c k h))) (hl1.out f5 s58F) (hf1.tr (f5.mono s58s)) ?_
      rw [h5, h31, q_fo, if_pos hv.1, q_cn, if_pos (by rw [q_dP, q_1, (Bool.not_eq_false _).mp hs, decide_eq_true hm]; rfl)]
      rfl
    · rw [ev, q_b0] at hv
      refine stay u hY1 hl1 hf1 h31 (fun hvs => ?_)
      rw [hvs, Bool.true_and, Bool.or_eq_false_iff] at hv
      rw [q_dP, q_so_f ?_ hv.2, Bool.false_and]
      intro h4
      have : a / 144 = 4 := (nI_eq (b := 4) (by omega) (by omega)).mp h4
      rw [this] at hv
      exact absurd hv.1 (by decide)
theorem k_X6_countSaid (hY : cyX Y w) (hk : cyOK Y) (hl : fLook Y 46 t M w) {p : Nat} (hp : p < Y.1.2.1) (did : Int32) : mMv E MX6_countSaid [.ref 58, .int (nI p), .int did] w (fun u => mFr sS w u ∧ q_2 u = q_fo (fun a => q_vs Y.1.1 (q_dc a)) (fun st a => q_cn (q_dP Y M t p did) st (q_toS (q_dc a))) (0, -1) 720) := by
  unfold mMv
  refine mM_start rfl (Nat.le_of_ble_eq_true rfl) rfl (fun X C F => vX6_countSaid_0 C F _ _ ?_)
  refine k_X6_startCounting.mono ?_
  rintro u ⟨f1, h1⟩
  exact l_X6_said C F hk hp did w (0, -1) (fun u a1 a2 => ⟨rfl, a1, a2⟩) 720 0 (by omega) u (hY.fr hk f1 (fun c k h => sS22 c k (s58s c k h))) (hl.out f1 s58F) (f1.mono s58s) h1
/-! what can be true behind the night -/
def q_oc (Y : mY) (M : Int64) (t : Int32) (S : mS) (all : Int64) : Nat → Int64
  | 0 => all
  | p + 1 => if q_so Y S M t (q_1 p) = true then q_oc Y M t S all p ||| ((1 : Int64) <<< ((q_dawn Y (q_ad Y S M (q_1 p)) t).toInt64 &&& 63)) else q_oc Y M t S all p
def q_out (Y : mY) (M : Int64) (t : Int32) : Int64 := q_fo (fun a => q_vs Y.1.1 (q_dc a)) (fun st a => q_oc Y M t (q_toS (q_dc a)) st Y.1.2.1) ((1 : Int64) <<< ((q_dawn Y (q_dd Y M) t).toInt64 &&& 63)) 720
theorem q_oc_f {S : mS} {all : Int64} (h : ∀ set, q_so Y S M t set = false) : ∀ n, q_oc Y M t S all n = all := by
  intro n
  induction n with
  | zero => rfl
  | succ n ih => rw [q_oc, if_neg (by rw [h]; decide)]; exact ih
theorem l_X6_out1 {X : mX} {Qm : Option Value → mW → Prop} (C : mCtx X E MX6_outcomes) (F : mFin X E MX6_outcomes Qm) (hY : cyX Y w) (hk : cyOK Y) (hl : fLook Y 46 t M w) (S : mS) (hh : fHear Y 46 S M w) (all : Int64) (x3 : Int32)
    (hK : mG X E MX6_outcomes 13 [.ref 58, .long (q_oc Y M t S all Y.1.2.1), .retAddr 0, .int (x3 + 1), .retAddr 0] [] w) :
    ∀ k p : Nat, p + k = Y.1.2.1 → mG X E MX6_outcomes 44 [.ref 58, .long (q_oc Y M t S all p), .retAddr 0, .int x3, .int (nI p)] [] w := by
  have h5 := hk.2.1
  intro k
  induction k with
  | zero =>
    intro p hp
    refine vX6_outcomes_44 C F _ _ _ ?_
    rw [hY.2.1]
    refine ⟨fun _ => ?_, fun h => absurd (nI_le (by omega) (by omega)) h⟩
    rw [show p = Y.1.2.1 by omega]
    exact hK
  | succ k ih =>
    intro p hp
    have n := ih (p + 1) (by omega)
    rw [← nI_1] at n
    refine vX6_outcomes_44 C F _ _ _ ?_
    rw [hY.2.1]
    refine ⟨fun h => absurd h (nI_ge (by omega) (by omega)), fun _ => (k_X3_isSoSaidTo h46 hY hk hl hh _).mono ?_⟩
    rintro v u ⟨rfl, rfl⟩
    rw [q_b0]
    refine ⟨fun hs => ?_, fun hs => (k_X3_truthIfSaidTo h46 hY hk hl hh _).mono ?_⟩
    · rw [q_oc, if_neg (by rw [q_1, hs]; decide)] at n
      exact n
    · rintro v u ⟨rfl, rfl⟩
      rw [q_oc, if_pos (by rw [q_1]; exact (Bool.not_eq_false _).mp hs)] at n
      exact n
theorem l_X6_out {X : mX} {Qm : Option Value → mW → Prop} (C : mCtx X E MX6_outcomes) (F : mFin X E MX6_outcomes Qm) (hk : cyOK Y) (w0 : mW) (s0 : Int64)
    (hQ : ∀ u, mFr sS w0 u → Qm (some (.long (q_fo (fun a => q_vs Y.1.1 (q_dc a)) (fun st a => q_oc Y M t (q_toS (q_dc a)) st Y.1.2.1) s0 720))) u) :
    ∀ k a : Nat, a + k = 720 → ∀ w, cyX Y w → fLook Y 46 t M w → mFr sS w0 w →
      mG X E MX6_outcomes 13 [.ref 58, .long (q_fo (fun a => q_vs Y.1.1 (q_dc a)) (fun st a => q_oc Y M t (q_toS (q_dc a)) st Y.1.2.1) s0 a), .retAddr 0, .int (nI a), .retAddr 0] [] w := by
  intro k
  induction k with
  | zero =>
    intro a ha w hY hl hf
    refine vX6_outcomes_13 C F _ _ ?_
    rw [q720 (by omega)]
    refine ⟨fun _ => ?_, fun h => absurd (by omega) h⟩
    rw [show a = 720 by omega]
    exact hQ w hf
  | succ k ih =>
    intro a ha w hY hl hf
    refine vX6_outcomes_13 C F _ _ ?_
    rw [q720 (by omega)]
    refine ⟨fun h => absurd h (by omega), fun _ => (k_X3_comeTo h46 hY hk hl (by omega)).mono ?_⟩
    rintro v u ⟨ev, fg, sv⟩
    have hY1 := hY.fr hk fg (gS22 h46)
    have hl1 := hl.fr fg
    have hf1 := hf.tr (fg.mono gsS)
    have n := ih (a + 1) (by omega)
    rw [← nI_1, q_fo] at n
    refine ⟨fun hv => ?_, fun hv => ?_⟩
    · rw [ev, q_b0, Bool.not_eq_false] at hv
      rw [Bool.and_eq_true] at hv
      rw [if_pos hv.1] at n
      refine (k_X3_heard h46 hY1 hk hl1 sv).mono ?_
      rintro u1 ⟨fg1, hh⟩
      have hY2 := hY1.fr hk fg1 (gS22 h46)
      have hl2 := hl1.fr fg1
      exact l_X6_out1 C F hY2 hk hl2 (q_toS (q_dc a)) hh _ (nI a) (n u1 hY2 hl2 (hf1.tr (fg1.mono gsS))) Y.1.2.1 0 (by omega)
    · rw [ev, q_b0] at hv
      have n := n u hY1 hl1 hf1
      by_cases hvs : q_vs Y.1.1 (q_dc a) = true
      · rw [if_pos hvs, q_oc_f] at n
        · exact n
        · rw [hvs, Bool.true_and, Bool.or_eq_false_iff] at hv
          refine fun set => q_so_f ?_ hv.2 set
          intro h4
          have : a / 144 = 4 := (nI_eq (b := 4) (by omega) (by omega)).mp h4
          rw [this] at hv
          exact absurd hv.1 (by decide)
      · rw [if_neg hvs] at n
        exact n
theorem k_X6_outcomes (hY : cyX Y w) (hk : cyOK Y) (hl : fLook Y 46 t M w) : mMl E MX6_outcomes [.ref 58] w (fun v u => v = q_out Y M t ∧ mFr sS w u) := by
  unfold mMl
  refine mM_start rfl (Nat.le_of_ble_eq_true rfl) rfl (fun X C F => vX6_outcomes_0 C F ?_)
  refine (k_X3_truth0 h46 hk hl).mono ?_
  rintro v u ⟨rfl, rfl⟩
  exact l_X6_out C F hk u _ (fun u2 a1 => ⟨_, rfl, rfl, a1⟩) 720 0 (by omega) u hY hl mFr.rf
end K6c
