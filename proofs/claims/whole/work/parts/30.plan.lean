/-! ===== CONTRACTS: the Seer: stances, plans, sieges ===== -/
def q_sn (M : Int64) (p f b : Int32) : Int64 := q_wm M p (q_hd (q_mo M p) f b)
/-- the place of a single sentence -/
def q_ps (n : Nat) : Nat := 144 * (if n < 12 then 0 else 4) + 24 * (n / 2 % 6) + 12 * (n % 2)
def q_mi (Y : mY) (M : Int64) (t : Int32) (S : mS) (m : Int32) : Nat → Int32
  | 0 => m
  | p + 1 => if q_so Y S M t (q_1 p) = true then (if q_mi Y M t S m p < q_sx Y S M t (q_1 p) then q_sx Y S M t (q_1 p) else q_mi Y M t S m p) else q_mi Y M t S m p
/-- the most sum behind the next night -/
def q_mt (Y : mY) (M : Int64) (t : Int32) : Int32 := q_fo (fun a => q_vs Y.1.1 (q_dc (q_ps a))) (fun m a => q_mi Y M t (q_toS (q_dc (q_ps a))) m Y.1.2.1) (q_s0 Y M t) 24
def q_sp2 (Y : mY) (S : mS) (M : Int64) (t set two : Int32) : Int32 := if two = 0 then q_sx Y S M t set else q_mt Y (q_Ms Y S M set Y.1.2.1) (q_dawn Y (q_ad Y S M set) t)
def q_sp0 (Y : mY) (M : Int64) (t two : Int32) : Int32 := if two = 0 then q_s0 Y M t else q_mt Y M (q_dawn Y (q_dd Y M) t)
def q_pi (Y : mY) (M : Int64) (t two : Int32) (S : mS) (st : mT3) : Nat → mT3
  | 0 => st
  | p + 1 => if q_so Y S M t (q_1 p) = true ∧ (q_pi Y M t two S st p).1 < q_sp2 Y S M t (q_1 p) two then (q_sp2 Y S M t (q_1 p) two, q_nm S, nI p) else q_pi Y M t two S st p
def q_plan (Y : mY) (M : Int64) (t two : Int32) : mT3 := q_fo (fun a => q_vs Y.1.1 (q_dc (q_ps a))) (fun st a => q_pi Y M t two (q_toS (q_dc (q_ps a))) st Y.1.2.1) (q_sp0 Y M t two, -1, -1) 24
theorem q_ps_lt : ∀ n : Nat, n < 24 → q_ps n < 720 := by decide
theorem q_ps_4 : ∀ n : Nat, n < 24 → (144 : Int32) * (if (12 : Int32) ≤ nI n then 4 else 0) + 24 * (nI n / 2 - nI n / 2 / 6 * 6) + 12 * (nI n - nI n / 2 * 2) = nI (q_ps n) := by decide
theorem h52 : (52 : Nat) = 46 ∨ (52 : Nat) = 52 := Or.inr rfl
section K6d
variable {E : mEnv} {w : mW} {Y : mY} {t : Int32} {M : Int64}
theorem k_X6_stance (M : Int64) (p f b : Int32) : mMl E MX6_stance [.long M, .int p, .int f, .int b] w (fun v u => v = q_sn M p f b ∧ u = w) := by
  unfold mMl
  refine mM_start rfl (Nat.le_of_ble_eq_true rfl) rfl (fun X C F => vX6_stance_0 C F M p f b ?_)
  refine (k_X4_mindOf _ _).mono ?_
  rintro v u ⟨rfl, rfl⟩
  refine (k_X4_hold _ _ _).mono ?_
  rintro v u ⟨rfl, rfl⟩
  refine (k_X4_withMind _ _ _).mono ?_
  rintro v u ⟨rfl, rfl⟩
  exact ⟨_, rfl, rfl, rfl⟩
theorem k_X7_placeOfSingle {n : Nat} (hn : n < 24) : mMi E MX7_placeOfSingle [.int (nI n)] w (fun v u => v = nI (q_ps n) ∧ u = w) := by
  unfold mMi
  refine mM_start rfl (Nat.le_of_ble_eq_true rfl) rfl (fun X C F => vX7_placeOfSingle_0 C F _ ?_)
  rw [← q_ps_4 n hn]
  refine ⟨fun h => ⟨_, rfl, ?_, rfl⟩, fun h => ⟨_, rfl, ?_, rfl⟩⟩
  · rw [if_pos h]
  · rw [if_neg h]
theorem q24 {a : Nat} (h : a < 2 ^ 31) : ((24 : Int32) ≤ nI a) = (24 ≤ a) := by rw [show (24 : Int32) = nI 24 from rfl, nI_leI (by omega) h]
theorem q_mi_f {S : mS} {m : Int32} (h : ∀ set, q_so Y S M t set = false) : ∀ n, q_mi Y M t S m n = m := by
  intro n
  induction n with
  | zero => rfl
  | succ n ih => rw [q_mi, if_neg (by rw [h]; decide)]; exact ih
theorem q_so_ff {a : Nat} (ha : a < 720) (hv : (decide (a / 144 = 4) || q_st (q_toS (q_dc a)) t) = false) : ∀ set, q_so Y (q_toS (q_dc a)) M t set = false := by
  rw [Bool.or_eq_false_iff] at hv
  refine fun set => q_so_f ?_ hv.2 set
  intro h4
  have : a / 144 = 4 := (nI_eq (b := 4) (by omega) (by omega)).mp h4
  rw [this] at hv
  exact absurd hv.1 (by decide)
theorem l_X6_mt1 {X : mX} {Qm : Option Value → mW → Prop} (C : mCtx X E MX6_sumOfPlan) (F : mFin X E MX6_sumOfPlan Qm) (hY : cyX Y w) (hk : cyOK Y) (hl : fLook Y 52 t M w) (S : mS) (hh : fHear Y 52 S M w) (m x5 : Int32)
    (hK : mG X E MX6_sumOfPlan 48 [.ref 58, .retAddr 0, .retAddr 0, .int (q_mi Y M t S m Y.1.2.1), .int (x5 + 1), .retAddr 0] [] w) :
    ∀ k p : Nat, p + k = Y.1.2.1 → mG X E MX6_sumOfPlan 83 [.ref 58, .retAddr 0, .retAddr 0, .int (q_mi Y M t S m p), .int x5, .int (nI p)] [] w := by
  have h5 := hk.2.1
  intro k
  induction k with
  | zero =>
    intro p hp
    refine vX6_sumOfPlan_83 C F _ _ _ ?_
    rw [hY.2.1]
    refine ⟨fun _ => ?_, fun h => absurd (nI_le (by omega) (by omega)) h⟩
    rw [show p = Y.1.2.1 by omega]
    exact hK
  | succ k ih =>
    intro p hp
    have n := ih (p + 1) (by omega)
    rw [← nI_1] at n
    refine vX6_sumOfPlan_83 C F _ _ _ ?_
    rw [hY.2.1]
    refine ⟨fun h => absurd h (nI_ge (by omega) (by omega)), fun _ => (k_X3_isSoSaidTo h52 hY hk hl hh _).mono ?_⟩
    rintro v u ⟨rfl, rfl⟩
    rw [q_b0]
    refine ⟨fun hs => ?_, fun hs => (k_X3_sumIfSaidTo h52 hY hk hl hh _).mono ?_⟩
    · rw [q_mi, if_neg (by rw [q_1, hs]; decide)] at n
      exact n
    · rintro v u ⟨rfl, rfl⟩
      rw [q_mi, if_pos (by rw [q_1]; exact (Bool.not_eq_false _).mp hs)] at n
      exact n
theorem l_X6_mt {X : mX} {Qm : Option Value → mW → Prop} (C : mCtx X E MX6_sumOfPlan) (F : mFin X E MX6_sumOfPlan Qm) (hk : cyOK Y) (w0 : mW) (s0 : Int32)
    (hQ : ∀ u, mFr (fS 52) w0 u → Qm (some (.int (q_fo (fun a => q_vs Y.1.1 (q_dc (q_ps a))) (fun m a => q_mi Y M t (q_toS (q_dc (q_ps a))) m Y.1.2.1) s0 24))) u) :
    ∀ k a : Nat, a + k = 24 → ∀ w, cyX Y w → fLook Y 52 t M w → mFr (fS 52) w0 w →
      mG X E MX6_sumOfPlan 48 [.ref 58, .retAddr 0, .retAddr 0, .int (q_fo (fun a => q_vs Y.1.1 (q_dc (q_ps a))) (fun m a => q_mi Y M t (q_toS (q_dc (q_ps a))) m Y.1.2.1) s0 a), .int (nI a), .retAddr 0] [] w := by
  intro k
  induction k with
  | zero =>
    intro a ha w hY hl hf
    refine vX6_sumOfPlan_48 C F _ _ ?_
    rw [q24 (by omega)]
    refine ⟨fun _ => ?_, fun h => absurd (by omega) h⟩
    rw [show a = 24 by omega]
    exact hQ w hf
  | succ k ih =>
    intro a ha w hY hl hf
    refine vX6_sumOfPlan_48 C F _ _ ?_
    rw [q24 (by omega)]
    refine ⟨fun h => absurd h (by omega), fun _ => (k_X7_placeOfSingle (by omega)).mono ?_⟩
    rintro v u0 ⟨rfl, rfl⟩
    have hps := q_ps_lt a (by omega)
    refine (k_X3_comeTo h52 hY hk hl hps).mono ?_
    rintro v u ⟨ev, fg, sv⟩
    have hY1 := hY.fr hk fg (gS22 h52)
    have hl1 := hl.fr fg
    have hf1 := hf.tr (fg.mono (fun c k h => gfS h))
    have n := ih (a + 1) (by omega)
    rw [← nI_1, q_fo] at n
    refine ⟨fun hv => ?_, fun hv => ?_⟩
    · rw [ev, q_b0, Bool.not_eq_false] at hv
      rw [Bool.and_eq_true] at hv
      rw [if_pos hv.1] at n
      refine (k_X3_heard h52 hY1 hk hl1 sv).mono ?_
      rintro u1 ⟨fg1, hh⟩
      have hY2 := hY1.fr hk fg1 (gS22 h52)
      have hl2 := hl1.fr fg1
      exact l_X6_mt1 C F hY2 hk hl2 _ hh _ (nI a) (n u1 hY2 hl2 (hf1.tr (fg1.mono (fun c k h => gfS h)))) Y.1.2.1 0 (by omega)
    · rw [ev, q_b0] at hv
      have n := n u hY1 hl1 hf1
      by_cases hvs : q_vs Y.1.1 (q_dc (q_ps a)) = true
      · rw [hvs, Bool.true_and] at hv
        rw [if_pos hvs, q_mi_f (q_so_ff hps hv)] at n
        exact n
      · rw [if_neg hvs] at n
        exact n
/-- two days: tomorrow is looked at -/
theorem l_X6_mt0 {X : mX} {Qm : Option Value → mW → Prop} (C : mCtx X E MX6_sumOfPlan) (F : mFin X E MX6_sumOfPlan Qm) (hY : cyX Y w) (hk : cyOK Y) (t : Int32) (M : Int64)
    (hQ : ∀ u, mFr (fS 52) w u → Qm (some (.int (q_mt Y M t))) u) :
    mMv E MX3_look [.ref 52, .int t, .long M] w (fun u3 => mMi E MX3_sumIfSaidTo [.ref 52, .int 0] u3 (fun v3 u4 => mG X E MX6_sumOfPlan 48 [.ref 58, .retAddr 0, .retAddr 0, .int v3, .int 0, .retAddr 0] [] u4)) := by
  refine (k_X3_look h52 hY hk t M).mono ?_
  rintro u ⟨ff, hl⟩
  refine (k_X3_sum0 h52 hk hl).mono ?_
  rintro v u2 ⟨rfl, rfl⟩
  exact l_X6_mt C F hk w _ (fun u a1 => hQ u a1) 24 0 (by omega) u2 (hY.fr hk ff (fS22 h52)) hl ff
theorem k_X6_sumOfPlan (hY : cyX Y w) (hk : cyOK Y) (hl : fLook Y 46 t M w) {S : mS} (hh : fHear Y 46 S M w) (set two : Int32) : mMi E MX6_sumOfPlan [.ref 58, .int set, .int two] w (fun v u => v = q_sp2 Y S M t set two ∧ mFr (fS 52) w u) := by
  unfold mMi
  refine mM_start rfl (Nat.le_of_ble_eq_true rfl) rfl (fun X C F => vX6_sumOfPlan_0 C F set two ?_)
  refine ⟨fun h => (k_X3_truthIfSaidTo h46 hY hk hl hh _).mono ?_, fun h => (k_X3_sumIfSaidTo h46 hY hk hl hh _).mono ?_⟩
  · rintro v u ⟨rfl, rfl⟩
    refine (k_X3_mindsIfSaidTo h46 hY hk hl hh _).mono ?_
    rintro v u ⟨rfl, rfl⟩
    exact l_X6_mt0 C F hY hk _ _ (fun u2 f2 => ⟨_, rfl, by rw [q_sp2, if_neg h], f2⟩)
  · rintro v u ⟨rfl, rfl⟩
    exact ⟨_, rfl, by rw [q_sp2, if_pos h]; rfl, mFr.rf⟩
theorem k_X6_sumOfPlan0 (hY : cyX Y w) (hk : cyOK Y) (hl : fLook Y 46 t M w) (two : Int32) : mMi E MX6_sumOfPlan [.ref 58, .int 0, .int two] w (fun v u => v = q_sp0 Y M t two ∧ mFr (fS 52) w u) := by
  unfold mMi
  refine mM_start rfl (Nat.le_of_ble_eq_true rfl) rfl (fun X C F => vX6_sumOfPlan_0 C F 0 two ?_)
  refine ⟨fun h => (k_X3_truth0 h46 hk hl).mono ?_, fun h => (k_X3_sum0 h46 hk hl).mono ?_⟩
  · rintro v u ⟨rfl, rfl⟩
    refine (k_X3_minds0 h46 hY hk hl).mono ?_
    rintro v u ⟨rfl, rfl⟩
    exact l_X6_mt0 C F hY hk _ _ (fun u2 f2 => ⟨_, rfl, by rw [q_sp0, if_neg h], f2⟩)
  · rintro v u ⟨rfl, rfl⟩
    exact ⟨_, rfl, by rw [q_sp0, if_pos h]; rfl, mFr.rf⟩
theorem f52F : ∀ c k, fS 52 c k → ¬ fS 46 c k := fun c k h => by unfold fS at *; omega
theorem f52s : ∀ c k, fS 52 c k → sS c k := fun c k h => by unfold fS at h; unfold sS; omega
theorem f52n : ∀ c k, fS 52 c k → ¬ c = 58 := fun c k h => by unfold fS at h; omega
theorem q_pi_f {S : mS} {two : Int32} {m : mT3} (h : ∀ set, q_so Y S M t set = false) : ∀ n, q_pi Y M t two S m n = m := by
  intro n
  induction n with
  | zero => rfl
  | succ n ih => rw [q_pi, if_neg (fun q => by rw [h] at q; exact absurd q.1 (by decide))]; exact ih
theorem l_X6_plan1 {X : mX} {Qm : Option Value → mW → Prop} (C : mCtx X E MX6_seekPlan) (F : mFin X E MX6_seekPlan Qm) (hk : cyOK Y) (S : mS) (two : Int32) (st : mT3) (w0 : mW) (x5 : Int32)
    (hK : ∀ u, cyX Y u → fLook Y 46 t M u → mFr sS w0 u → q_3 u = q_pi Y M t two S st Y.1.2.1 → mG X E MX6_seekPlan 33 [.ref 58, .retAddr 0, .retAddr 0, .retAddr 0, .int two, .int (x5 + 1), .retAddr 0, .retAddr 0] [] u) :
    ∀ k p : Nat, p + k = Y.1.2.1 → ∀ w, cyX Y w → fLook Y 46 t M w → fHear Y 46 S M w → mFr sS w0 w → q_3 w = q_pi Y M t two S st p →
      mG X E MX6_seekPlan 68 [.ref 58, .retAddr 0, .retAddr 0, .retAddr 0, .int two, .int x5, .int (nI p), .retAddr 0] [] w := by
  have h5 := hk.2.1
  intro k
  induction k with
  | zero =>
    intro p hp w hY hl hh hf h3
    refine vX6_seekPlan_68 C F _ _ _ ?_
    rw [hY.2.1]
    refine ⟨fun _ => hK w hY hl hf ?_, fun h => absurd (nI_le (by omega) (by omega)) h⟩
    rw [h3, show p = Y.1.2.1 by omega]
  | succ k ih =>
    intro p hp w hY hl hh hf h3
    refine vX6_seekPlan_68 C F _ _ _ ?_
    rw [hY.2.1]
    refine ⟨fun h => absurd h (nI_ge (by omega) (by omega)), fun _ => (k_X3_isSoSaidTo h46 hY hk hl hh _).mono ?_⟩
    rintro v u ⟨rfl, rfl⟩
    rw [q_b0, nI_1]
    refine ⟨fun hs => (k_X6_sumOfPlan hY hk hl hh _ _).mono ?_, fun hs => ih (p + 1) (by omega) u hY hl hh hf ?_⟩
    · rintro v u2 ⟨rfl, f2⟩
      have hY2 := hY.fr hk f2 (fS22 h52)
      have hl2 := hl.out f2 f52F
      have hh2 := hh.out f2 f52F
      have hf2 := hf.tr (f2.mono f52s)
      have h32 : q_3 u2 = q_pi Y M t two S st p := (q_3_fr f2 f52n).trans h3
      have e3 : u2.1 58 3 = (q_pi Y M t two S st p).1 := by rw [← h32]; rfl
      rw [e3]
      refine ⟨fun hle => ih (p + 1) (by omega) u2 hY2 hl2 hh2 hf2 ?_, fun hle => (k_X7_number h47).mono ?_⟩
      · rw [h32, q_pi, if_neg (fun q => absurd hle (Int32.not_le.mpr q.2))]
      · rintro v u3 ⟨rfl, rfl⟩
        have es : q_S (mPI u2 58 3 (q_sp2 Y S M t ((1 : Int32) <<< (nI p &&& 31)) two)) 47 = S := by rw [← hh2.1]; rfl
        rw [es]
        have f1 : mFr s58 u2 (mPI (mPI (mPI u2 58 3 (q_sp2 Y S M t ((1 : Int32) <<< (nI p &&& 31)) two)) 58 4 (10000 * S.1 + 1000 * S.2.1 + 100 * S.2.2.1 + 10 * S.2.2.2.1 + S.2.2.2.2)) 58 5 (nI p)) := ((mFr.pi (S := s58) rfl).tr (mFr.pi (S := s58) rfl)).tr (mFr.pi (S := s58) rfl)
        refine ih (p + 1) (by omega) _ (hY2.fr hk f1 (fun c k h => sS22 c k (s58s c k h))) (hl2.out f1 s58F) (hh2.out f1 s58F) (hf2.tr (f1.mono s58s)) ?_
        rw [q_pi, if_pos ⟨(Bool.not_eq_false _).mp hs, Int32.not_le.mp hle⟩]
        simp [q_3, mPI, q_nm, q_1]
    · rw [h3, q_pi, if_neg (fun q => ?_)]
      rw [q_1, hs] at q
      exact absurd q.1 (by decide)
theorem l_X6_plan {X : mX} {Qm : Option Value → mW → Prop} (C : mCtx X E MX6_seekPlan) (F : mFin X E MX6_seekPlan Qm) (hk : cyOK Y) (two : Int32) (w0 : mW) (s0 : mT3)
    (hQ : ∀ u, mFr sS w0 u → q_3 u = q_fo (fun a => q_vs Y.1.1 (q_dc (q_ps a))) (fun st a => q_pi Y M t two (q_toS (q_dc (q_ps a))) st Y.1.2.1) s0 24 → Qm none u) :
    ∀ k a : Nat, a + k = 24 → ∀ w, cyX Y w → fLook Y 46 t M w → mFr sS w0 w → q_3 w = q_fo (fun a => q_vs Y.1.1 (q_dc (q_ps a))) (fun st a => q_pi Y M t two (q_toS (q_dc (q_ps a))) st Y.1.2.1) s0 a →
      mG X E MX6_seekPlan 33 [.ref 58, .retAddr 0, .retAddr 0, .retAddr 0, .int two, .int (nI a), .retAddr 0, .retAddr 0] [] w := by
  intro k
  induction k with
  | zero =>
    intro a ha w hY hl hf h3
    refine vX6_seekPlan_33 C F _ _ ?_
    rw [q24 (by omega)]
    exact ⟨fun _ => hQ w hf (by rw [h3, show a = 24 by omega]), fun h => absurd (by omega) h⟩
  | succ k ih =>
    intro a ha w hY hl hf h3
    refine vX6_seekPlan_33 C F _ _ ?_
    rw [q24 (by omega)]
    refine ⟨fun h => absurd h (by omega), fun _ => (k_X7_placeOfSingle (by omega)).mono ?_⟩
    rintro v u0 ⟨rfl, rfl⟩
    have hps := q_ps_lt a (by omega)
    refine (k_X3_comeTo h46 hY hk hl hps).mono ?_
    rintro v u ⟨ev, fg, sv⟩
    have hY1 := hY.fr hk fg (gS22 h46)
    have hl1 := hl.fr fg
    have hf1 := hf.tr (fg.mono gsS)
    have h31 := (q_3_fr fg g58).trans h3
    refine ⟨fun hv => ?_, fun hv => ?_⟩
    · rw [ev, q_b0, Bool.not_eq_false] at hv
      rw [Bool.and_eq_true] at hv
      refine (k_X3_heard h46 hY1 hk hl1 sv).mono ?_
      rintro u1 ⟨fg1, hh⟩
      have h32 := (q_3_fr fg1 g58).trans h31
      refine l_X6_plan1 C F hk (q_toS (q_dc (q_ps a))) two (q_3 u1) w0 (nI a) (fun u2 a1 a2 a3 a4 => ?_) Y.1.2.1 0 (by omega) u1 (hY1.fr hk fg1 (gS22 h46)) (hl1.fr fg1) hh (hf1.tr (fg1.mono gsS)) rfl
      rw [nI_1]
      refine ih (a + 1) (by omega) u2 a1 a2 a3 ?_
      rw [a4, h32, q_fo, if_pos hv.1]
    · rw [ev, q_b0] at hv
      rw [nI_1]
      refine ih (a + 1) (by omega) u hY1 hl1 hf1 ?_
      rw [h31, q_fo]
      split
      · rename_i hvs
        rw [hvs, Bool.true_and] at hv
        rw [q_pi_f (q_so_ff hps hv)]
      · rfl
theorem k_X6_seekPlan (hY : cyX Y w) (hk : cyOK Y) (t : Int32) (M : Int64) (two : Int32) : mMv E MX6_seekPlan [.ref 58, .int t, .long M, .int two] w (fun u => mFr sS w u ∧ q_3 u = q_plan Y M t two) := by
  unfold mMv
  refine mM_start rfl (Nat.le_of_ble_eq_true rfl) rfl (fun X C F => vX6_seekPlan_0 C F t M two ?_)
  refine (k_X3_look h46 hY hk t M).mono ?_
  rintro u ⟨ff, hl⟩
  have hY1 := hY.fr hk ff (fS22 h46)
  refine (k_X6_sumOfPlan0 hY1 hk hl two).mono ?_
  rintro v u2 ⟨rfl, f2⟩
  have hY2 := hY1.fr hk f2 (fS22 h52)
  have f1 : mFr s58 u2 (mPI (mPI (mPI u2 58 3 (q_sp0 Y M t two)) 58 4 (-1)) 58 5 (-1)) := ((mFr.pi (S := s58) rfl).tr (mFr.pi (S := s58) rfl)).tr (mFr.pi (S := s58) rfl)
  refine l_X6_plan C F hk two w _ (fun u a1 a2 => ⟨rfl, a1, a2⟩) 24 0 (by omega) _ (hY2.fr hk f1 (fun c k h => sS22 c k (s58s c k h))) ((hl.out f2 f52F).out f1 s58F) (((ff.mono fsS).tr (f2.mono f52s)).tr (f1.mono s58s)) ?_
  simp [q_3, mPI, q_fo]
end K6d
