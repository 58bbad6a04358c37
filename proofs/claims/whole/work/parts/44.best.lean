/-! ===== CONTRACTS: the reference: sentences by their numbers, the best one ===== -/
def q_dm (v : Nat) : mN5 := (v / 10000, v / 1000 % 10, v / 100 % 10, v / 10 % 10, v % 10)
def q_vm (n : Nat) (s : mN5) : Bool := q_vs n s && (decide (s.2.2.1 < 2) && decide (s.2.2.2.2 < 2))
def q_vj (j : Nat) : Nat := 10 * (j / 2) + j % 2
def q_pj (j : Nat) : Nat := if j < 20 then 1000 * (j / 2) + 100 * (j % 2) else 40000 + 1000 * ((j - 20) / 2) + 100 * ((j - 20) % 2)
def q_el (v : Nat → Bool) (g : Nat → mN5) (n : Nat) : List mN5 := ((List.range n).filter v).map g
theorem q_fo_el {σ : Type} (v : Nat → Bool) (g : Nat → mN5) (h : σ → mN5 → σ) (s0 : σ) : ∀ n, q_fo v (fun st a => h st (g a)) s0 n = (q_el v g n).foldl h s0 := by
  intro n
  induction n with
  | zero => rfl
  | succ n ih =>
    unfold q_el at ih ⊢
    rw [List.range_succ, List.filter_append, List.map_append, List.foldl_append, ← ih, q_fo]
    by_cases hv : v n = true
    · rw [if_pos hv, List.filter_cons_of_pos hv]; rfl
    · rw [if_neg hv, List.filter_cons_of_neg hv]; rfl
def q_e5 (a b : mN5) : Bool := Nat.beq a.1 b.1 && (Nat.beq a.2.1 b.2.1 && (Nat.beq a.2.2.1 b.2.2.1 && (Nat.beq a.2.2.2.1 b.2.2.2.1 && Nat.beq a.2.2.2.2 b.2.2.2.2)))
def q_eq5 : List mN5 → List mN5 → Bool
  | [], [] => true
  | a :: as, b :: bs => q_e5 a b && q_eq5 as bs
  | _, _ => false
theorem q_e5_of {a b : mN5} (h : q_e5 a b = true) : a = b := by
  unfold q_e5 at h
  simp only [Bool.and_eq_true] at h
  obtain ⟨h1, h2, h3, h4, h5⟩ := h
  exact Prod.ext (Nat.eq_of_beq_eq_true h1) (Prod.ext (Nat.eq_of_beq_eq_true h2) (Prod.ext (Nat.eq_of_beq_eq_true h3) (Prod.ext (Nat.eq_of_beq_eq_true h4) (Nat.eq_of_beq_eq_true h5))))
theorem q_eq5_of : ∀ {a b : List mN5}, q_eq5 a b = true → a = b
  | [], [], _ => rfl
  | a :: as, b :: bs, h => by
    rw [q_eq5, Bool.and_eq_true] at h
    rw [q_e5_of h.1, q_eq5_of h.2]
  | [], _ :: _, h => by simp [q_eq5] at h
  | _ :: _, [], h => by simp [q_eq5] at h
theorem q_el_all1 : ∀ n : Nat, n < 7 → q_eq5 (q_el (fun a => q_vs n (q_dc a)) q_dc 720) (q_el (fun j => q_vm n (q_dm (q_vj j))) (fun j => q_dm (q_vj j)) 9200) = true := by decide +kernel
theorem q_el_pl1 : ∀ n : Nat, n < 7 → q_eq5 (q_el (fun a => q_vs n (q_dc (q_ps a))) (fun a => q_dc (q_ps a)) 24) (q_el (fun j => q_vm n (q_dm (q_pj j))) (fun j => q_dm (q_pj j)) 32) = true := by decide +kernel
theorem q_el_all (n : Nat) (h : n < 7) : q_el (fun a => q_vs n (q_dc a)) q_dc 720 = q_el (fun j => q_vm n (q_dm (q_vj j))) (fun j => q_dm (q_vj j)) 9200 := q_eq5_of (q_el_all1 n h)
theorem q_el_pl (n : Nat) (h : n < 7) : q_el (fun a => q_vs n (q_dc (q_ps a))) (fun a => q_dc (q_ps a)) 24 = q_el (fun j => q_vm n (q_dm (q_pj j))) (fun j => q_dm (q_pj j)) 32 := q_eq5_of (q_el_pl1 n h)
theorem q_fo_all {σ : Type} (h : σ → mN5 → σ) (s0 : σ) {n : Nat} (hn : n ≤ 6) : q_fo (fun a => q_vs n (q_dc a)) (fun st a => h st (q_dc a)) s0 720 = q_fo (fun j => q_vm n (q_dm (q_vj j))) (fun st j => h st (q_dm (q_vj j))) s0 9200 := by
  rw [q_fo_el, q_fo_el (fun j => q_vm n (q_dm (q_vj j))) (fun j => q_dm (q_vj j)), q_el_all n (by omega)]
theorem q_fo_pl {σ : Type} (h : σ → mN5 → σ) (s0 : σ) {n : Nat} (hn : n ≤ 6) : q_fo (fun a => q_vs n (q_dc (q_ps a))) (fun st a => h st (q_dc (q_ps a))) s0 24 = q_fo (fun j => q_vm n (q_dm (q_pj j))) (fun st j => h st (q_dm (q_pj j))) s0 32 := by
  rw [q_fo_el (fun a => q_vs n (q_dc (q_ps a))) (fun a => q_dc (q_ps a)), q_fo_el (fun j => q_vm n (q_dm (q_pj j))) (fun j => q_dm (q_pj j)), q_el_pl n (by omega)]
theorem q_vs_iff {n : Nat} {s : mN5} : q_vs n s = true ↔ s.2.1 < n ∧ (if s.1 = 1 ∨ s.1 = 2 ∨ s.1 = 3 then s.2.2.2.1 < n ∧ ¬ s.2.2.2.1 = s.2.1 else s.2.2.2.1 = 0 ∧ s.2.2.2.2 = 0) := by
  unfold q_vs
  by_cases h : s.1 = 1 ∨ s.1 = 2 ∨ s.1 = 3
  · rw [if_pos h, if_pos h]; simp
  · rw [if_neg h, if_neg h]; simp
theorem q_vm_iff {n : Nat} {s : mN5} : q_vm n s = true ↔ q_vs n s = true ∧ s.2.2.1 < 2 ∧ s.2.2.2.2 < 2 := by unfold q_vm; simp
theorem q_vm_ok {n : Nat} (hn : n ≤ 6) {s : mN5} (hs : s.1 < 5) (h : q_vm n s = true) : q_sok s := by
  obtain ⟨h1, h2, h3⟩ := q_vm_iff.mp h
  obtain ⟨h4, h5⟩ := q_vs_iff.mp h1
  unfold q_sok
  by_cases hp : s.1 = 1 ∨ s.1 = 2 ∨ s.1 = 3
  · rw [if_pos hp] at h5
    exact ⟨hs, by omega, h2, by omega, h3, fun _ => h5.2⟩
  · rw [if_neg hp] at h5
    exact ⟨hs, by omega, h2, by omega, h3, fun q => absurd q hp⟩
theorem q_nm_dm {v : Nat} : q_nm (q_toS (q_dm v)) = nI v := by
  unfold q_nm q_toS q_dm
  dsimp only
  rw [show (10000 : Int32) * nI (v / 10000) = nI (10000 * (v / 10000)) from pk_mul 10000 _, show (1000 : Int32) * nI (v / 1000 % 10) = nI (1000 * (v / 1000 % 10)) from pk_mul 1000 _, show (100 : Int32) * nI (v / 100 % 10) = nI (100 * (v / 100 % 10)) from pk_mul 100 _, show (10 : Int32) * nI (v / 10 % 10) = nI (10 * (v / 10 % 10)) from pk_mul 10 _, nI_add, nI_add, nI_add, nI_add]
  congr 1
  omega
section K9n
variable {E : mEnv} {w : mW} {Y : mY} {t d : Int32} {M : Int64}
theorem q_bar_vm {n v : Nat} (hn : n ≤ 6) (hv : v < 46000) : (0 ≤ q_bar n (nI (v / 10000)) (nI (v / 1000 % 10)) (nI (v / 100 % 10)) (nI (v / 10 % 10)) (nI (v % 10)) ∧ ((v / 10000 = 0 ∨ v / 10000 = 4) → v / 10 % 10 = 0 ∧ v % 10 = 0)) ↔ q_vm n (q_dm v) = true := by
  have e : ∀ {a b : Nat}, a < 100 → b < 100 → (nI a = nI b ↔ a = b) := fun ha hb => nI_eq (by omega) (by omega)
  have l : ∀ {a b : Nat}, a < 100 → b < 100 → (nI a ≤ nI b ↔ a ≤ b) := fun ha hb => by rw [nI_leI (by omega) (by omega)]
  have ng : ∀ {a : Nat}, a < 100 → ¬ nI a < 0 := fun ha q => by
    have : nI _ < nI 0 := q
    rw [nI_ltI (by omega) (by omega)] at this
    omega
  rw [q_vm_iff, q_vs_iff]
  unfold q_dm
  dsimp only
  generalize hk : v / 10000 = k
  generalize hf : v / 1000 % 10 = f
  generalize hb : v / 100 % 10 = b
  generalize hg : v / 10 % 10 = g
  generalize hc : v % 10 = c
  have lk : k < 5 := by omega
  have lf : f < 10 := by omega
  have lb : b < 10 := by omega
  have lg : g < 10 := by omega
  have lc : c < 10 := by omega
  have k0 : nI k = 0 ↔ k = 0 := e (b := 0) (by omega) (by omega)
  have k4 : nI k = 4 ↔ k = 4 := e (b := 4) (by omega) (by omega)
  have b0 : nI b = 0 ↔ b = 0 := e (b := 0) (by omega) (by omega)
  have b1 : nI b = 1 ↔ b = 1 := e (b := 1) (by omega) (by omega)
  have c0 : nI c = 0 ↔ c = 0 := e (b := 0) (by omega) (by omega)
  have c1 : nI c = 1 ↔ c = 1 := e (b := 1) (by omega) (by omega)
  have g1 : nI g = nI f ↔ g = f := e (by omega) (by omega)
  have kk : (4 : Int32) < nI k ↔ 4 < k := by rw [show (4 : Int32) = nI 4 from rfl, nI_ltI (by omega) (by omega)]
  unfold q_bar
  simp only [k0, k4, b0, b1, c0, c1, g1, kk, l (a := n) (b := f) (by omega) (by omega), l (a := n) (b := g) (by omega) (by omega), ng (a := k) (by omega), ng (a := f) (by omega), ng (a := g) (by omega), not_false_eq_true, true_and, Decidable.not_not]
  have m2 : ¬ (0 : Int32) ≤ -2 := by decide
  have m3 : ¬ (0 : Int32) ≤ -3 := by decide
  have z0 : (0 : Int32) ≤ 0 := by decide
  repeat' split
  all_goals simp only [m2, m3, z0, false_and, true_and, false_iff]
  all_goals omega
theorem k_X9_isSentence (hY : cyM Y w) (hk : cyOK Y) {v : Nat} (hv : v < 46000) : mMi E MX9_isSentence [.ref 60, .int (nI v)] w (fun r u => r = q_b (q_vm Y.1.1 (q_dm v)) ∧ mFr s60 w u ∧ q_Sm u = q_toS (q_dm v)) := by
  have h6 := hk.1
  have e1 : nI v / 10000 = nI (v / 10000) := pk_div (d := 10000) (by omega) (by omega) (by omega)
  have e2 : nI v / 1000 = nI (v / 1000) := pk_div (d := 1000) (by omega) (by omega) (by omega)
  have e3 : nI v / 100 = nI (v / 100) := pk_div (d := 100) (by omega) (by omega) (by omega)
  have e4 : nI v / 10 = nI (v / 10) := pk_div (d := 10) (by omega) (by omega) (by omega)
  have r2 : nI (v / 1000) - nI (v / 1000) / 10 * 10 = nI (v / 1000 % 10) := pk_rem (d := 10) (by omega) (by omega) (by omega)
  have r3 : nI (v / 100) - nI (v / 100) / 10 * 10 = nI (v / 100 % 10) := pk_rem (d := 10) (by omega) (by omega) (by omega)
  have r4 : nI (v / 10) - nI (v / 10) / 10 * 10 = nI (v / 10 % 10) := pk_rem (d := 10) (by omega) (by omega) (by omega)
  have r5 : nI v - nI (v / 10) * 10 = nI (v % 10) := by rw [← e4]; exact pk_rem (d := 10) (by omega) (by omega) (by omega)
  have cC : ∀ c k, s60 c k → ¬ mCy c k := fun c k h => by unfold s60 at h; unfold mCy; omega
  unfold mMi
  refine mM_start rfl (Nat.le_of_ble_eq_true rfl) rfl (fun X C F => vX9_isSentence_0 C F _ ?_)
  rw [e1, e2, e3, e4, r2, r3, r4, r5]
  refine (k_X9_lay _ _ _ _ _).mono ?_
  rintro u ⟨fu, hS⟩
  have s0 : u.1 60 29 = nI (v / 10000) := congrArg (fun x => x.1) hS
  have s1 : u.1 60 30 = nI (v / 1000 % 10) := congrArg (fun x => x.2.1) hS
  have s2 : u.1 60 31 = nI (v / 100 % 10) := congrArg (fun x => x.2.2.1) hS
  have s3 : u.1 60 32 = nI (v / 10 % 10) := congrArg (fun x => x.2.2.2.1) hS
  have s4 : u.1 60 33 = nI (v % 10) := congrArg (fun x => x.2.2.2.2) hS
  rw [s0, s1, s2, s3, s4]
  refine (k_X9_barred (hY.fr fu cC) hk _ _ _ _ _).mono ?_
  rintro r u2 ⟨rfl, rfl⟩
  rw [s0, s3, s4]
  have q := q_bar_vm (n := Y.1.1) h6 hv
  have z0 : nI (v / 10000) = 0 ↔ v / 10000 = 0 := nI_eq (b := 0) (by omega) (by omega)
  have z4 : nI (v / 10000) = 4 ↔ v / 10000 = 4 := nI_eq (b := 4) (by omega) (by omega)
  have zg : nI (v / 10 % 10) = 0 ↔ v / 10 % 10 = 0 := nI_eq (b := 0) (by omega) (by omega)
  have zc : nI (v % 10) = 0 ↔ v % 10 = 0 := nI_eq (b := 0) (by omega) (by omega)
  rw [z0, z4, zg, zc]
  have no : ¬ (0 ≤ q_bar Y.1.1 (nI (v / 10000)) (nI (v / 1000 % 10)) (nI (v / 100 % 10)) (nI (v / 10 % 10)) (nI (v % 10)) ∧ ((v / 10000 = 0 ∨ v / 10000 = 4) → v / 10 % 10 = 0 ∧ v % 10 = 0)) → ∃ x : Int32, (some (Value.int 0) : Option Value) = some (.int x) ∧ x = q_b (q_vm Y.1.1 (q_dm v)) ∧ mFr s60 w u2 ∧ q_Sm u2 = q_toS (q_dm v) := fun h => ⟨_, rfl, by rw [show q_vm Y.1.1 (q_dm v) = false from (Bool.not_eq_true _).mp (fun z => h (q.mpr z))]; rfl, fu, hS⟩
  have ye : (0 ≤ q_bar Y.1.1 (nI (v / 10000)) (nI (v / 1000 % 10)) (nI (v / 100 % 10)) (nI (v / 10 % 10)) (nI (v % 10)) ∧ ((v / 10000 = 0 ∨ v / 10000 = 4) → v / 10 % 10 = 0 ∧ v % 10 = 0)) → ∃ x : Int32, (some (Value.int 1) : Option Value) = some (.int x) ∧ x = q_b (q_vm Y.1.1 (q_dm v)) ∧ mFr s60 w u2 ∧ q_Sm u2 = q_toS (q_dm v) := fun h => ⟨_, rfl, by rw [q.mp h]; rfl, fu, hS⟩
  refine ⟨fun a0 => ⟨fun a1 => ⟨fun a2 => no (fun z => a2 (z.2 (Or.inl a1)).1), fun a2 => ⟨fun a3 => no (fun z => a3 (z.2 (Or.inl a1)).2), fun a3 => ye ⟨a0, fun _ => ⟨a2, a3⟩⟩⟩⟩, fun a1 => ⟨fun a2 => ye ⟨a0, fun z => absurd z (fun z => z.elim a1 a2)⟩, fun a2 => ⟨fun a3 => no (fun z => a3 (z.2 (Or.inr a2)).1), fun a3 => ⟨fun a4 => no (fun z => a4 (z.2 (Or.inr a2)).2), fun a4 => ye ⟨a0, fun _ => ⟨a3, a4⟩⟩⟩⟩⟩⟩, fun a0 => no (fun z => a0 z.1)⟩
theorem k_X9_nextNumber {j : Nat} (hj : j < 9200) : mMi E MX9_nextNumber [.int (nI (q_vj j))] w (fun r u => r = nI (q_vj (j + 1)) ∧ u = w) := by
  unfold mMi
  refine mM_start rfl (Nat.le_of_ble_eq_true rfl) rfl (fun X C F => vX9_nextNumber_0 C F _ ?_)
  have hl : q_vj j < 46000 := by unfold q_vj; omega
  have r : nI (q_vj j + 1) - nI (q_vj j + 1) / 10 * 10 = nI ((q_vj j + 1) % 10) := pk_rem (d := 10) (by omega) (by omega) (by omega)
  have e : nI (q_vj j + 1) / 10 = nI ((q_vj j + 1) / 10) := pk_div (d := 10) (by omega) (by omega) (by omega)
  have ll : (nI ((q_vj j + 1) % 10) ≤ 1) = ((q_vj j + 1) % 10 ≤ 1) := by rw [show (1 : Int32) = nI 1 from rfl, nI_leI (by omega) (by omega)]
  rw [nI_1, r, e, ll, show nI ((q_vj j + 1) / 10) * 10 = nI ((q_vj j + 1) / 10 * 10) from (pk_mul _ 10), show nI ((q_vj j + 1) / 10 * 10) + 10 = nI ((q_vj j + 1) / 10 * 10 + 10) from nI_add _ 10]
  refine ⟨fun h => ⟨_, rfl, ?_, rfl⟩, fun h => ⟨_, rfl, ?_, rfl⟩⟩
  · congr 1; unfold q_vj at h ⊢; omega
  · congr 1; unfold q_vj at h ⊢; omega
theorem k_X9_nextPlain {j : Nat} (hj : j < 32) : mMi E MX9_nextPlain [.int (nI (q_pj j))] w (fun r u => r = nI (q_pj (j + 1)) ∧ u = w) := by
  unfold mMi
  refine mM_start rfl (Nat.le_of_ble_eq_true rfl) rfl (fun X C F => vX9_nextPlain_0 C F _ ?_)
  have key : ∀ j : Nat, j < 32 → (if ((nI (q_pj j) + 100) - (nI (q_pj j) + 100) / 1000 * 1000) ≤ 100 then (if (nI (q_pj j) + 100) ≤ 9999 then nI (q_pj j) + 100 else if 40000 ≤ (nI (q_pj j) + 100) then nI (q_pj j) + 100 else 40000) else (if ((((nI (q_pj j) + 100) / 1000) * 1000) + 1000) ≤ 9999 then (((nI (q_pj j) + 100) / 1000) * 1000) + 1000 else if 40000 ≤ ((((nI (q_pj j) + 100) / 1000) * 1000) + 1000) then (((nI (q_pj j) + 100) / 1000) * 1000) + 1000 else 40000)) = nI (q_pj (j + 1)) := by decide +kernel
  have k := key j hj
  refine ⟨fun a => ⟨fun b => ⟨_, rfl, ?_, rfl⟩, fun b => ⟨fun c => ⟨_, rfl, ?_, rfl⟩, fun c => ⟨_, rfl, ?_, rfl⟩⟩⟩, fun a => ⟨fun b => ⟨_, rfl, ?_, rfl⟩, fun b => ⟨fun c => ⟨_, rfl, ?_, rfl⟩, fun c => ⟨_, rfl, ?_, rfl⟩⟩⟩⟩
  · rw [if_pos a, if_pos b] at k; exact k
  · rw [if_pos a, if_neg b, if_pos c] at k; exact k
  · rw [if_pos a, if_neg b, if_neg c] at k; exact k
  · rw [if_neg a, if_pos b] at k; exact k
  · rw [if_neg a, if_neg b, if_pos c] at k; exact k
  · rw [if_neg a, if_neg b, if_neg c] at k; exact k
end K9n
