/-! ===== THE REFERENCE READS: clauses, a whole text ===== -/
def nS9 (x : Nat) : Nat → Nat → Prop := fun c k => (c = 60 ∧ 8 ≤ k ∧ k ≤ 13) ∨ (c = 65 ∧ k = x)
def dS9 (x : Nat) : Nat → Nat → Prop := fun c k => (c = 60 ∧ 8 ≤ k ∧ k ≤ 13) ∨ (c = 65 ∧ x < k ∧ k < x + 5)
def lS9 (x : Nat) : Nat → Nat → Prop := fun c k => (c = 60 ∧ ((8 ≤ k ∧ k ≤ 13) ∨ (15 ≤ k ∧ k ≤ 17))) ∨ (c = 65 ∧ x ≤ k ∧ k < x + 6)
def iS9 : Nat → Nat → Prop := fun c k => (c = 60 ∧ 8 ≤ k ∧ k ≤ 17) ∨ c = 65
def c3M (c : mC3) (w : mW) : Prop := w.1 60 15 = nI c.1 ∧ w.1 60 16 = nI c.2.1 ∧ w.1 60 17 = nI c.2.2
theorem c3M.fr {c : mC3} {w u : mW} {S : Nat → Nat → Prop} (h : c3M c w) (f : mFr S w u) (hS : ∀ c k, S c k → ¬ (c = 60 ∧ 15 ≤ k ∧ k ≤ 17)) : c3M c u :=
  ⟨(f 60 15 (fun q => hS _ _ q ⟨rfl, by omega, by omega⟩)).1.trans h.1, (f 60 16 (fun q => hS _ _ q ⟨rfl, by omega, by omega⟩)).1.trans h.2.1, (f 60 17 (fun q => hS _ _ q ⟨rfl, by omega, by omega⟩)).1.trans h.2.2⟩
def rowM (cl : mCl) (x : Nat) (w : mW) : Prop := w.1 65 x = p_rs cl.1 ∧ (∀ j, j < cl.2.length → w.1 65 (x + 1 + j) = cl.2.getD j 0) ∧ (cl.1 = 3 ∨ cl.1 = 4 ∨ cl.1 = 6 → w.1 65 (x + 5) = 0)
theorem rowM.fr {cl : mCl} {x : Nat} {w u : mW} {S : Nat → Nat → Prop} (h : rowM cl x w) (hl : cl.2.length ≤ 5) (f : mFr S w u) (hS : ∀ k, x ≤ k → k < x + 6 → ¬ S 65 k) : rowM cl x u :=
  ⟨(f 65 x (hS _ (by omega) (by omega))).1.trans h.1, fun j hj => (f 65 _ (hS _ (by omega) (by omega))).1.trans (h.2.1 j hj), fun q => (f 65 _ (hS _ (by omega) (by omega))).1.trans (h.2.2 q)⟩
section R9b
variable {E : mEnv} {w : mW} {T : Nat → Int32} {L : Nat}
theorem tv_len {i : Nat} (hi : i ≤ L) : ∃ V : Nat, V < 2 ^ 60 ∧ ((p_tok T L i).2.2 = 1 → p_tv T (p_tok T L i) = lN V ∨ p_tv T (p_tok T L i) = -4) := by
  obtain ⟨t1, t2, t3, t4, t5⟩ := p_tok_ok T hi
  by_cases h1 : (p_tok T L i).2.2 = 1
  · have hl : ∀ j, (p_tok T L i).1 ≤ j → j < (p_tok T L i).2.1 → p_lc (T j) = 1 := fun j a b => by rw [← h1]; exact (t5 (by omega)).2.2 j a b
    by_cases h11 : (p_tok T L i).2.1 - (p_tok T L i).1 ≤ 11
    · refine ⟨q_val (fun i_1 => p_dg (T ((p_tok T L i).1 + i_1))) ((p_tok T L i).2.1 - (p_tok T L i).1), q_p11 h11 (q_val_lt _ (fun j hj => ⟨(p_dg_of (hl _ (by omega) (by omega))).1, (p_dg_of (hl _ (by omega) (by omega))).2.1⟩)), fun _ => Or.inl ?_⟩
      unfold p_tv; rw [if_neg (by omega), if_pos h1, if_pos h11]
    · refine ⟨0, by omega, fun _ => Or.inr ?_⟩
      unfold p_tv; rw [if_neg (by omega), if_pos h1, if_neg h11]
  · exact ⟨0, by omega, fun q => absurd q h1⟩
theorem tv_m1 {i : Nat} (hi : i ≤ L) : p_tv T (p_tok T L i) = -1 ↔ (p_tok T L i).2.2 = 2 ∧ (p_tok T L i).2.1 - (p_tok T L i).1 ≤ 2 := by
  obtain ⟨V, hV, h⟩ := tv_len (T := T) hi
  by_cases h1 : (p_tok T L i).2.2 = 1
  · refine ⟨fun q => ?_, fun q => absurd q.1 (by omega)⟩
    rcases h h1 with e | e
    · rw [e] at q; exact absurd q (lN_ne (by omega) (by decide))
    · rw [e] at q; exact absurd q (by decide)
  · unfold p_tv
    by_cases h0 : (p_tok T L i).2.2 = 0
    · rw [if_pos h0]; exact ⟨fun q => absurd q (by decide), fun q => absurd q.1 (by omega)⟩
    · rw [if_neg h0, if_neg h1]
      by_cases h2 : (p_tok T L i).2.2 = 2
      · rw [if_pos h2]
        by_cases h3 : (p_tok T L i).2.1 - (p_tok T L i).1 ≤ 2
        · rw [if_pos h3]; exact ⟨fun _ => ⟨h2, h3⟩, fun _ => rfl⟩
        · rw [if_neg h3]; exact ⟨fun q => absurd q (by decide), fun q => absurd q.2 h3⟩
      · rw [if_neg h2]
        refine ⟨fun q => ?_, fun q => absurd q.1 h2⟩
        split at q <;> exact absurd q (by decide)
theorem tv_m2 {i : Nat} (hi : i ≤ L) : p_tv T (p_tok T L i) = -2 ↔ (p_tok T L i).2.2 = 0 := by
  obtain ⟨V, hV, h⟩ := tv_len (T := T) hi
  by_cases h1 : (p_tok T L i).2.2 = 1
  · refine ⟨fun q => ?_, fun q => absurd q (by omega)⟩
    rcases h h1 with e | e
    · rw [e] at q; exact absurd q (lN_ne (by omega) (by decide))
    · rw [e] at q; exact absurd q (by decide)
  · unfold p_tv
    by_cases h0 : (p_tok T L i).2.2 = 0
    · rw [if_pos h0]; exact ⟨fun _ => h0, fun _ => rfl⟩
    · rw [if_neg h0, if_neg h1]
      refine ⟨fun q => ?_, fun q => absurd q h0⟩
      split at q
      · split at q <;> exact absurd q (by decide)
      · split at q <;> exact absurd q (by decide)
theorem tv_m3 {i : Nat} (hi : i ≤ L) : p_tv T (p_tok T L i) = -3 ↔ ¬ (p_tok T L i).2.2 = 0 ∧ T (p_tok T L i).1 = 59 := by
  obtain ⟨t1, t2, t3, t4, t5⟩ := p_tok_ok T hi
  obtain ⟨V, hV, h⟩ := tv_len (T := T) hi
  have l59 : T (p_tok T L i).1 = 59 → ¬ (p_tok T L i).2.2 = 0 → (p_tok T L i).2.2 = 3 := fun q z => by rw [← (t5 z).2.1, q]; decide
  by_cases h1 : (p_tok T L i).2.2 = 1
  · refine ⟨fun q => ?_, fun q => absurd (l59 q.2 q.1) (by omega)⟩
    rcases h h1 with e | e
    · rw [e] at q; exact absurd q (lN_ne (by omega) (by decide))
    · rw [e] at q; exact absurd q (by decide)
  · unfold p_tv
    by_cases h0 : (p_tok T L i).2.2 = 0
    · rw [if_pos h0]; exact ⟨fun q => absurd q (by decide), fun q => absurd h0 q.1⟩
    · rw [if_neg h0, if_neg h1]
      by_cases h2 : (p_tok T L i).2.2 = 2
      · rw [if_pos h2]
        refine ⟨fun q => ?_, fun q => absurd (l59 q.2 q.1) (by omega)⟩
        split at q <;> exact absurd q (by decide)
      · rw [if_neg h2]
        by_cases h3 : T (p_tok T L i).1 = 59
        · rw [if_pos h3]; exact ⟨fun _ => ⟨h0, h3⟩, fun _ => rfl⟩
        · rw [if_neg h3]; exact ⟨fun q => absurd q (by decide), fun q => absurd q.2 h3⟩
theorem k_X9_fails : mMi E MX9_fails [.ref 60] w (fun v u => v = 0 ∧ u = mPI w 60 13 (w.1 60 9)) := by
  unfold mMi
  refine mM_start rfl (Nat.le_of_ble_eq_true rfl) rfl (fun X C F => vX9_fails_0 C F ?_)
  exact ⟨_, rfl, rfl, rfl⟩
theorem k_X9_isNumber (hL : L ≤ 160) (hs : tMo (L, T) w) {i : Nat} (hi : i ≤ L) (h8 : w.1 60 8 = nI i) {x : Nat} (hx : x < 84) (m : Int32) :
    mMi E MX9_isNumber [.ref 60, .int (nI x), .int m] w (fun v u => mFr (nS9 x) w u ∧ (p_num T (p_tok T L i) m = true → v = 1 ∧ u.1 60 8 = nI (p_tok T L i).2.1 ∧ u.1 65 x = p_nb T (p_tok T L i).1 ((p_tok T L i).2.1 - (p_tok T L i).1)) ∧ (p_num T (p_tok T L i) m = false → v = 0 ∧ u.1 60 13 = nI (p_tok T L i).1)) := by
  unfold mMi
  refine mM_start rfl (Nat.le_of_ble_eq_true rfl) rfl (fun X C F => vX9_isNumber_0 C F _ _ ?_)
  refine (k_X9_nextToken hL hs hi h8).mono ?_
  rintro u1 ⟨f1, t8, t9, t10, t12⟩
  have g1 : mFr (nS9 x) w u1 := f1.mono (fun c k q => by unfold nT at q; unfold nS9; omega)
  rw [q_lcmp, t10, tv_m1 hi]
  have bad : ∀ u, u = mPI u1 60 13 (u1.1 60 9) → p_num T (p_tok T L i) m = false → narrow .boolean (.int 0) = .int 0 ∧ ∃ v : Int32, (some (Value.int 0) : Option Value) = some (.int v) ∧ mFr (nS9 x) w u ∧ (p_num T (p_tok T L i) m = true → v = 1 ∧ u.1 60 8 = nI (p_tok T L i).2.1 ∧ u.1 65 x = p_nb T (p_tok T L i).1 ((p_tok T L i).2.1 - (p_tok T L i).1)) ∧ (p_num T (p_tok T L i) m = false → v = 0 ∧ u.1 60 13 = nI (p_tok T L i).1) := by
    rintro u rfl hn
    exact ⟨rfl, _, rfl, g1.tr (mFr.pi (S := nS9 x) (Or.inl ⟨rfl, by omega, by omega⟩)), fun q => absurd (hn.symm.trans q) (by decide), fun _ => ⟨rfl, by rw [mPI_at]; exact t9⟩⟩
  refine ⟨fun z => k_X9_fails.mono ?_, fun z => ?_⟩
  · rintro v u ⟨rfl, hu⟩
    exact bad u hu (p_num_f z m)
  · rw [t12 z, nI_clamp (by omega)]
    have pn := p_num_v (T := T) z m
    refine ⟨fun y => ⟨vp_in_nI (by omega) (by omega), ?_⟩, fun y => k_X9_fails.mono ?_⟩
    · rintro w1 rfl
      rw [decide_eq_true y] at pn
      exact ⟨_, rfl, g1.tr (mFr.pi (S := nS9 x) (Or.inr ⟨rfl, rfl⟩)), fun _ => ⟨rfl, by rw [mPI_row (by omega)]; exact t8, mPI_at _ _ _ _⟩, fun q => absurd (pn.symm.trans q) (by decide)⟩
    · rintro v u ⟨rfl, hu⟩
      exact bad u hu (by rw [pn, decide_eq_false y])
/-- what stands behind a word's numbers -/
def nPost (T : Nat → Int32) (L : Nat) (ms : List Int32) (i x : Nat) (v : Int32) (u : mW) : Prop := (∀ s, p_ns T L ms i = .inl s → v = 0 ∧ u.1 60 13 = nI s) ∧ ∀ r, p_ns T L ms i = .inr r → v = 1 ∧ u.1 60 8 = nI r.2 ∧ r.2 ≤ L ∧ r.1.length = ms.length ∧ ∀ j, j < ms.length → u.1 65 (x + 1 + j) = r.1.getD j 0
theorem nPost_f {m : Int32} {ms : List Int32} {i x : Nat} {u : mW} (h : p_num T (p_tok T L i) m = false) (hu : u.1 60 13 = nI (p_tok T L i).1) : nPost T L (m :: ms) i x 0 u := by
  have e : p_ns T L (m :: ms) i = .inl (p_tok T L i).1 := by rw [p_ns_c, if_neg (by rw [h]; decide)]
  refine ⟨fun s q => ?_, fun r q => ?_⟩
  · rw [e] at q; rw [← Sum.inl.inj q]; exact ⟨rfl, hu⟩
  · rw [e] at q; exact absurd q (by simp)
theorem nPost_c {m : Int32} {ms : List Int32} {i x : Nat} {v : Int32} {u : mW} (h : p_num T (p_tok T L i) m = true) (hx : u.1 65 (x + 1) = p_nb T (p_tok T L i).1 ((p_tok T L i).2.1 - (p_tok T L i).1)) (hp : nPost T L ms (p_tok T L i).2.1 (x + 1) v u) : nPost T L (m :: ms) i x v u := by
  unfold nPost
  rw [p_ns_c, if_pos h]
  cases hn : p_ns T L ms (p_tok T L i).2.1 with
  | inl s =>
    refine ⟨fun s' q => ?_, fun r q => absurd q (by simp)⟩
    rw [← Sum.inl.inj q]; exact hp.1 s hn
  | inr r =>
    refine ⟨fun s' q => absurd q (by simp), fun r' q => ?_⟩
    obtain ⟨h1, h2, h3, h4, h5⟩ := hp.2 r hn
    have q := Sum.inr.inj q
    subst q
    refine ⟨h1, h2, h3, by simp [h4], fun j hj => ?_⟩
    cases j with
    | zero => exact hx
    | succ j =>
      have : j < ms.length := by simp at hj; omega
      rw [show x + 1 + (j + 1) = x + 1 + 1 + j by omega]
      exact h5 j this
theorem nPost_n {i x : Nat} {u : mW} (hi : i ≤ L) (h8 : u.1 60 8 = nI i) : nPost T L [] i x 1 u := by
  refine ⟨fun s q => absurd q (by simp [p_ns]), fun r q => ?_⟩
  have q : Sum.inr ([], i) = Sum.inr r := q
  have q := Sum.inr.inj q
  subst q
  exact ⟨rfl, h8, hi, rfl, fun j hj => absurd hj (by simp)⟩
theorem k_X9_isDeed (hL : L ≤ 160) (hs : tMo (L, T) w) {i : Nat} (hi : i ≤ L) (h8 : w.1 60 8 = nI i) {x : Nat} (hx : x + 5 < 84) {c : Nat} (h15 : w.1 60 15 = nI c) :
    mMi E MX9_isDeed [.ref 60, .int (nI x)] w (fun v u => mFr (dS9 x) w u ∧ (v = 0 ∨ v = 1) ∧ nPost T L [nI c - 1, 1, nI c - 1, 1] i x v u) := by
  have tn : ∀ y c k, x < y → y < x + 5 → nS9 y c k → dS9 x c k := fun y c k h1 h2 q => by unfold nS9 at q; unfold dS9; omega
  have dt : ∀ c k, dS9 x c k → ¬ c = 64 ∧ ¬ (c = 60 ∧ k = 6) := fun c k q => by unfold dS9 at q; omega
  unfold mMi
  refine mM_start rfl (Nat.le_of_ble_eq_true rfl) rfl (fun X C F => vX9_isDeed_0 C F _ ?_)
  rw [show nI x + 1 = nI (x + 1) from q_k x 1, show nI x + 2 = nI (x + 2) from q_k x 2, show nI x + 3 = nI (x + 3) from q_k x 3, show nI x + 4 = nI (x + 4) from q_k x 4, h15]
  refine (k_X9_isNumber hL hs hi h8 (by omega) _).mono ?_
  rintro v u1 ⟨f1, a1, b1⟩
  have g1 : mFr (dS9 x) w u1 := f1.mono (tn _ · · (by omega) (by omega))
  obtain ⟨-, -, l1, -, -⟩ := p_tok_ok T hi
  cases n1 : p_num T (p_tok T L i) (nI c - 1) with
  | false =>
    obtain ⟨rfl, e⟩ := b1 n1
    exact ⟨fun _ => ⟨_, rfl, g1, Or.inl rfl, nPost_f n1 e⟩, fun q => absurd rfl q⟩
  | true =>
    obtain ⟨rfl, e8, e65⟩ := a1 n1
    refine ⟨fun q => absurd q (by decide), fun _ => (k_X9_isNumber hL (hs.fr g1 dt) l1 e8 (by omega) _).mono ?_⟩
    rintro v u2 ⟨f2, a2, b2⟩
    have g2 := g1.tr (f2.mono (tn _ · · (by omega) (by omega)))
    obtain ⟨-, -, l2, -, -⟩ := p_tok_ok T l1
    have r2 : u2.1 65 (x + 1) = p_nb T (p_tok T L i).1 ((p_tok T L i).2.1 - (p_tok T L i).1) := by rw [(f2 65 (x + 1) (by unfold nS9; omega)).1]; exact e65
    rw [show u2.1 60 15 = nI c by rw [(g2 60 15 (by unfold dS9; omega)).1]; exact h15]
    cases n2 : p_num T (p_tok T L (p_tok T L i).2.1) 1 with
    | false =>
      obtain ⟨rfl, e⟩ := b2 n2
      exact ⟨fun _ => ⟨_, rfl, g2, Or.inl rfl, nPost_c n1 r2 (nPost_f n2 e)⟩, fun q => absurd rfl q⟩
    | true =>
      obtain ⟨rfl, e8, e65⟩ := a2 n2
      refine ⟨fun q => absurd q (by decide), fun _ => (k_X9_isNumber hL (hs.fr g2 dt) l2 e8 (by omega) _).mono ?_⟩
      rintro v u3 ⟨f3, a3, b3⟩
      have g3 := g2.tr (f3.mono (tn _ · · (by omega) (by omega)))
      obtain ⟨-, -, l3, -, -⟩ := p_tok_ok T l2
      have r3 : u3.1 65 (x + 1) = p_nb T (p_tok T L i).1 ((p_tok T L i).2.1 - (p_tok T L i).1) := by rw [(f3 65 (x + 1) (by unfold nS9; omega)).1]; exact r2
      have s3 : u3.1 65 (x + 1 + 1) = p_nb T (p_tok T L (p_tok T L i).2.1).1 ((p_tok T L (p_tok T L i).2.1).2.1 - (p_tok T L (p_tok T L i).2.1).1) := by rw [(f3 65 (x + 1 + 1) (by unfold nS9; omega)).1]; exact e65
      cases n3 : p_num T (p_tok T L (p_tok T L (p_tok T L i).2.1).2.1) (nI c - 1) with
      | false =>
        obtain ⟨rfl, e⟩ := b3 n3
        exact ⟨fun _ => ⟨_, rfl, g3, Or.inl rfl, nPost_c n1 r3 (nPost_c n2 s3 (nPost_f n3 e))⟩, fun q => absurd rfl q⟩
      | true =>
        obtain ⟨rfl, e8, e65⟩ := a3 n3
        refine ⟨fun q => absurd q (by decide), fun _ => (k_X9_isNumber hL (hs.fr g3 dt) l3 e8 (by omega) _).mono ?_⟩
        rintro v u4 ⟨f4, a4, b4⟩
        have g4 := g3.tr (f4.mono (tn _ · · (by omega) (by omega)))
        obtain ⟨-, -, l4, -, -⟩ := p_tok_ok T l3
        have r4 : u4.1 65 (x + 1) = p_nb T (p_tok T L i).1 ((p_tok T L i).2.1 - (p_tok T L i).1) := by rw [(f4 65 (x + 1) (by unfold nS9; omega)).1]; exact r3
        have s4 : u4.1 65 (x + 1 + 1) = p_nb T (p_tok T L (p_tok T L i).2.1).1 ((p_tok T L (p_tok T L i).2.1).2.1 - (p_tok T L (p_tok T L i).2.1).1) := by rw [(f4 65 (x + 1 + 1) (by unfold nS9; omega)).1]; exact s3
        have q4 : u4.1 65 (x + 1 + 1 + 1) = p_nb T (p_tok T L (p_tok T L (p_tok T L i).2.1).2.1).1 ((p_tok T L (p_tok T L (p_tok T L i).2.1).2.1).2.1 - (p_tok T L (p_tok T L (p_tok T L i).2.1).2.1).1) := by rw [(f4 65 (x + 1 + 1 + 1) (by unfold nS9; omega)).1]; exact e65
        cases n4 : p_num T (p_tok T L (p_tok T L (p_tok T L (p_tok T L i).2.1).2.1).2.1) 1 with
        | false =>
          obtain ⟨rfl, e⟩ := b4 n4
          exact ⟨fun _ => ⟨_, rfl, g4, Or.inl rfl, nPost_c n1 r4 (nPost_c n2 s4 (nPost_c n3 q4 (nPost_f n4 e)))⟩, fun q => absurd rfl q⟩
        | true =>
          obtain ⟨rfl, e8, e65⟩ := a4 n4
          exact ⟨fun q => absurd q (by decide), fun _ => ⟨_, rfl, g4, Or.inr rfl, nPost_c n1 r4 (nPost_c n2 s4 (nPost_c n3 q4 (nPost_c n4 e65 (nPost_n l4 e8))))⟩⟩
/-- what stands behind a clause -/
def lPost (T : Nat → Int32) (L : Nat) (c : mC3) (i x : Nat) (v : Int32) (u : mW) : Prop := (∀ s, p_cl T L c i = .inl s → v = 0 ∧ u.1 60 13 = nI s) ∧ ∀ r, p_cl T L c i = .inr r → v = 1 ∧ u.1 60 8 = nI r.2.2 ∧ r.2.2 ≤ L ∧ c3M r.2.1 u ∧ rowM r.1 x u ∧ r.1.2.length ≤ 5
theorem k_X9_isLine (hL : L ≤ 160) (hs : tMo (L, T) w) {i : Nat} (hi : i ≤ L) (h8 : w.1 60 8 = nI i) {c : mC3} (hc : c3M c w) (c1 : c.1 ≤ 6) (c2 : c.2.1 ≤ 5) (c3 : c.2.2 ≤ 6) {x : Nat} (hx : x + 6 ≤ 84) :
    mMi E MX9_isLine [.ref 60, .int (nI x)] w (fun v u => mFr (lS9 x) w u ∧ lPost T L c i x v u) := by
  have lt : ∀ c k, lS9 x c k → ¬ c = 64 ∧ ¬ (c = 60 ∧ k = 6) := fun c k q => by unfold lS9 at q; omega
  obtain ⟨t1, t2, t3, t4, t5⟩ := p_tok_ok T hi
  unfold mMi
  refine mM_start rfl (Nat.le_of_ble_eq_true rfl) rfl (fun X C F => vX9_isLine_0 C F _ ?_)
  refine (k_X9_nextToken hL hs hi h8).mono ?_
  rintro u1 ⟨f1, e8, e9, e10, e12⟩
  refine (k_X9_sortOf e10).mono ?_
  rintro v u2 ⟨rfl, rfl⟩
  rw [p_so9 hi, nI_clamp (by omega), show nI x + 5 = nI (x + 5) from q_k x 5, show nI x + 1 = nI (x + 1) from q_k x 1, show nI x + 2 = nI (x + 2) from q_k x 2, nI_clamp (n := x + 5) (by omega)]
  refine ⟨vp_in_nI (by omega) (by omega), ?_⟩
  rintro w1 ew
  have g1 : mFr (lS9 x) w w1 := by rw [ew]; exact (f1.mono (fun c k q => by unfold nT at q; unfold lS9; omega)).tr (mFr.pi (S := lS9 x) (Or.inr ⟨rfl, by omega, by omega⟩))
  have g1f : mFr (fun c k => (c = 60 ∧ 8 ≤ k ∧ k ≤ 12) ∨ (c = 65 ∧ k = x)) w w1 := by rw [ew]; exact (f1.mono (fun c k q => by unfold nT at q; omega)).tr (mFr.pi (S := fun c k => (c = 60 ∧ 8 ≤ k ∧ k ≤ 12) ∨ (c = 65 ∧ k = x)) (Or.inr ⟨rfl, rfl⟩))
  have b8 : w1.1 60 8 = nI (p_tok T L i).2.1 := by rw [ew, mPI_row (by omega)]; exact e8
  have b9 : w1.1 60 9 = nI (p_tok T L i).1 := by rw [ew, mPI_row (by omega)]; exact e9
  have b65 : w1.1 65 x = p_rs (p_wd T (p_tok T L i)) := by rw [ew, mPI_at]
  have hc1 : c3M c w1 := hc.fr g1f (fun c k q => by omega)
  have hs1 := hs.fr g1 lt
  clear ew
  -- refused at the word
  have bad : ∀ u0 u, mFr (lS9 x) w u0 → u0.1 60 9 = nI (p_tok T L i).1 → u = mPI u0 60 13 (u0.1 60 9) → (p_wd T (p_tok T L i) = -1 ∨ p_room c (p_wd T (p_tok T L i)) = false) → narrow .boolean (.int 0) = .int 0 ∧ ∃ v : Int32, (some (Value.int 0) : Option Value) = some (.int v) ∧ mFr (lS9 x) w u ∧ lPost T L c i x v u := by
    rintro u0 u f0 e0 rfl hb
    have e : p_cl T L c i = .inl (p_tok T L i).1 := by
      unfold p_cl
      by_cases z : p_wd T (p_tok T L i) = -1
      · rw [if_pos z]
      · rw [if_neg z, if_pos (hb.resolve_left z)]
    refine ⟨rfl, _, rfl, f0.tr (mFr.pi (S := lS9 x) (Or.inl ⟨rfl, Or.inl ⟨by omega, by omega⟩⟩)), fun s h => ⟨rfl, ?_⟩, fun r h => ?_⟩
    · rw [e] at h; rw [← Sum.inl.inj h, mPI_at]; exact e0
    · rw [e] at h; exact absurd h (by simp)
  -- the numbers were read
  have good : ∀ (k : Int32), p_wd T (p_tok T L i) = k → ¬ k = -1 → p_room c k = true → ∀ v u, nPost T L (p_max c k) (p_tok T L i).2.1 x v u → (v = 1 → c3M (p_cnt c k) u ∧ u.1 65 x = p_rs k ∧ (k = 3 ∨ k = 4 ∨ k = 6 → u.1 65 (x + 5) = 0)) → (p_max c k).length ≤ 5 → lPost T L c i x v u := by
    intro k ek z z2 v u hp h1 hl
    have ecl : p_cl T L c i = match p_ns T L (p_max c k) (p_tok T L i).2.1 with
        | .inl s => .inl s
        | .inr r => .inr ((k, r.1), p_cnt c k, r.2) := by
      unfold p_cl
      rw [ek, if_neg z, if_neg (by rw [z2]; decide)]
      rfl
    unfold lPost
    rw [ecl]
    cases hn : p_ns T L (p_max c k) (p_tok T L i).2.1 with
    | inl s =>
      refine ⟨fun s' q => ?_, fun r q => absurd q (by simp)⟩
      rw [← Sum.inl.inj q]; exact hp.1 s hn
    | inr r =>
      refine ⟨fun s' q => absurd q (by simp), fun r' q => ?_⟩
      obtain ⟨a1, a2, a3, a4, a5⟩ := hp.2 r hn
      obtain ⟨d1, d2, d3⟩ := h1 a1
      have q := Sum.inr.inj q
      subst q
      exact ⟨a1, a2, a3, d1, ⟨d2, fun j hj => a5 j (by rw [← a4]; exact hj), d3⟩, by show r.1.length ≤ 5; omega⟩
  have nar : ∀ v : Int32, v = 0 ∨ v = 1 → narrow .boolean (.int v) = .int v := fun v h => by rcases h with rfl | rfl <;> rfl
  -- facts
  have fact : ∀ k : Int32, p_wd T (p_tok T L i) = k → (k = 1 ∨ k = 2) → ((w1.1 60 15 + 1 ≤ 6 → mMi E MX9_isNumber [.ref 60, .int (nI (x + 1)), .int 40] (mPI w1 60 15 (w1.1 60 15 + 1)) (fun v7 u8 => (v7 = 0 → ∃ v : Int32, (some (Value.int 0) : Option Value) = some (.int v) ∧ mFr (lS9 x) w u8 ∧ lPost T L c i x v u8) ∧ (¬ v7 = 0 → mMi E MX9_isNumber [.ref 60, .int (nI (x + 2)), .int 1] u8 (fun v8 u9 => (v8 = 0 → ∃ v : Int32, (some (Value.int 0) : Option Value) = some (.int v) ∧ mFr (lS9 x) w u9 ∧ lPost T L c i x v u9) ∧ (¬ v8 = 0 → ∃ v : Int32, (some (Value.int 1) : Option Value) = some (.int v) ∧ mFr (lS9 x) w u9 ∧ lPost T L c i x v u9))))) ∧ (¬ w1.1 60 15 + 1 ≤ 6 → mMi E MX9_fails [.ref 60] (mPI w1 60 15 (w1.1 60 15 + 1)) (fun v9 u10 => narrow .boolean (.int v9) = .int v9 ∧ ∃ v : Int32, (some (Value.int v9) : Option Value) = some (.int v) ∧ mFr (lS9 x) w u10 ∧ lPost T L c i x v u10))) := by
    intro k ek hk
    have km1 : ¬ k = -1 := by rcases hk with rfl | rfl <;> decide
    have rm : p_room c k = decide (c.1 < 6) := by rcases hk with rfl | rfl <;> rfl
    have mx : p_max c k = [40, 1] := by rcases hk with rfl | rfl <;> rfl
    have cn : p_cnt c k = (c.1 + 1, c.2.1, c.2.2) := by rcases hk with rfl | rfl <;> rfl
    have kn : ¬ (k = 3 ∨ k = 4 ∨ k = 6) := by rcases hk with rfl | rfl <;> decide
    rw [hc1.1, nI_1, show (6 : Int32) = nI 6 from rfl, nI_leI (by omega) (by omega)]
    have fp : ∀ y : Int32, mFr (lS9 x) w (mPI w1 60 15 y) := fun y => g1.tr (mFr.pi (S := lS9 x) (Or.inl ⟨rfl, Or.inr ⟨by omega, by omega⟩⟩))
    refine ⟨fun le => (k_X9_isNumber hL (hs.fr (fp _) lt) t3 (by rw [mPI_col (by omega)]; exact b8) (by omega) 40).mono ?_, fun le => k_X9_fails.mono ?_⟩
    · have rm2 : p_room c k = true := by rw [rm, decide_eq_true (by omega)]
      have ns : ∀ y c k, x ≤ y → y < x + 6 → nS9 y c k → lS9 x c k := fun y c k h1 h2 q => by unfold nS9 at q; unfold lS9; omega
      rintro v u3 ⟨f3, a3, d3⟩
      have g3 := (fp _).tr (f3.mono (ns _ · · (by omega) (by omega)))
      obtain ⟨-, -, l3, -, -⟩ := p_tok_ok T t3
      cases n1 : p_num T (p_tok T L (p_tok T L i).2.1) 40 with
      | false =>
        obtain ⟨rfl, e⟩ := d3 n1
        refine ⟨fun _ => ⟨_, rfl, g3, good k ek km1 rm2 _ _ (by rw [mx]; exact nPost_f n1 e) (fun q => absurd q (by decide)) (by rw [mx]; decide)⟩, fun q => absurd rfl q⟩
      | true =>
        obtain ⟨rfl, q8, q65⟩ := a3 n1
        refine ⟨fun q => absurd q (by decide), fun _ => (k_X9_isNumber hL (hs.fr g3 lt) l3 q8 (by omega) 1).mono ?_⟩
        rintro v u4 ⟨f4, a4, d4⟩
        have g4 := g3.tr (f4.mono (ns _ · · (by omega) (by omega)))
        obtain ⟨-, -, l4, -, -⟩ := p_tok_ok T l3
        have r4 : u4.1 65 (x + 1) = p_nb T (p_tok T L (p_tok T L i).2.1).1 ((p_tok T L (p_tok T L i).2.1).2.1 - (p_tok T L (p_tok T L i).2.1).1) := by rw [(f4 65 (x + 1) (by unfold nS9; omega)).1]; exact q65
        cases n2 : p_num T (p_tok T L (p_tok T L (p_tok T L i).2.1).2.1) 1 with
        | false =>
          obtain ⟨rfl, e⟩ := d4 n2
          exact ⟨fun _ => ⟨_, rfl, g4, good k ek km1 rm2 _ _ (by rw [mx]; exact nPost_c n1 r4 (nPost_f n2 e)) (fun q => absurd q (by decide)) (by rw [mx]; decide)⟩, fun q => absurd rfl q⟩
        | true =>
          obtain ⟨rfl, p8, p65⟩ := a4 n2
          refine ⟨fun q => absurd q (by decide), fun _ => ⟨_, rfl, g4, good k ek km1 rm2 _ _ (by rw [mx]; exact nPost_c n1 r4 (nPost_c n2 p65 (nPost_n l4 p8))) (fun _ => ⟨?_, ?_, fun q => absurd q kn⟩) (by rw [mx]; decide)⟩⟩
          · rw [cn]
            refine ⟨?_, ?_, ?_⟩
            · rw [(f4 60 15 (by unfold nS9; omega)).1, (f3 60 15 (by unfold nS9; omega)).1, mPI_at]
            · rw [(f4 60 16 (by unfold nS9; omega)).1, (f3 60 16 (by unfold nS9; omega)).1, mPI_col (by omega)]; exact hc1.2.1
            · rw [(f4 60 17 (by unfold nS9; omega)).1, (f3 60 17 (by unfold nS9; omega)).1, mPI_col (by omega)]; exact hc1.2.2
          · rw [(f4 65 x (by unfold nS9; omega)).1, (f3 65 x (by unfold nS9; omega)).1, mPI_row (by omega), b65, ek]
    · rintro v u3 ⟨rfl, hu⟩
      exact bad _ u3 (fp _) (by rw [mPI_col (by omega)]; exact b9) hu (Or.inr (by rw [ek, rm, decide_eq_false (by omega)]))
  -- people
  have dl : ∀ c k, dS9 x c k → lS9 x c k := fun c k q => by unfold dS9 at q; unfold lS9; omega
  have one : ∀ k v1 : Int32, p_wd T (p_tok T L i) = k → (k = 3 ∨ k = 4 ∨ k = 5 ∨ k = 6) → (v1 = 4 ↔ k = 5) → ∀ w2 : mW, w2 = mPI (mPI w1 60 16 (w1.1 60 16 + 1)) 65 (x + 5) 0 → ((w2.1 60 16 ≤ 5 → mMi E MX9_isDeed [.ref 60, .int (nI x)] w2 (fun v4 u5 => (v4 = 0 → ∃ v : Int32, (some (Value.int 0) : Option Value) = some (.int v) ∧ mFr (lS9 x) w u5 ∧ lPost T L c i x v u5) ∧ (¬ v4 = 0 → (¬ v1 = 4 → ∃ v : Int32, (some (Value.int 1) : Option Value) = some (.int v) ∧ mFr (lS9 x) w u5 ∧ lPost T L c i x v u5) ∧ (v1 = 4 → mMi E MX9_isNumber [.ref 60, .int (nI (x + 5)), .int 3] u5 (fun v5 u6 => (v5 = 0 → ∃ v : Int32, (some (Value.int 0) : Option Value) = some (.int v) ∧ mFr (lS9 x) w u6 ∧ lPost T L c i x v u6) ∧ (¬ v5 = 0 → ∃ v : Int32, (some (Value.int 1) : Option Value) = some (.int v) ∧ mFr (lS9 x) w u6 ∧ lPost T L c i x v u6)))))) ∧ (¬ w2.1 60 16 ≤ 5 → mMi E MX9_fails [.ref 60] w2 (fun v6 u7 => narrow .boolean (.int v6) = .int v6 ∧ ∃ v : Int32, (some (Value.int v6) : Option Value) = some (.int v) ∧ mFr (lS9 x) w u7 ∧ lPost T L c i x v u7))) := by
    intro k v1 ek hk h4 w2 ew2
    have km1 : ¬ k = -1 := by rcases hk with rfl | rfl | rfl | rfl <;> decide
    have rm : p_room c k = decide (c.2.1 < 5) := by rcases hk with rfl | rfl | rfl | rfl <;> rfl
    have cn : p_cnt c k = (c.1, c.2.1 + 1, c.2.2) := by rcases hk with rfl | rfl | rfl | rfl <;> rfl
    have g2 : mFr (lS9 x) w w2 := by rw [ew2]; exact g1.tr ((mFr.pi (S := lS9 x) (Or.inl ⟨rfl, Or.inr ⟨by omega, by omega⟩⟩)).tr (mFr.pi (S := lS9 x) (Or.inr ⟨rfl, by omega, by omega⟩)))
    have w16 : w2.1 60 16 = nI (c.2.1 + 1) := by rw [ew2, mPI_row (by omega), mPI_at, hc1.2.1, nI_1]
    have w15 : w2.1 60 15 = nI c.1 := by rw [ew2, mPI_row (by omega), mPI_col (by omega)]; exact hc1.1
    have w17 : w2.1 60 17 = nI c.2.2 := by rw [ew2, mPI_row (by omega), mPI_col (by omega)]; exact hc1.2.2
    have w8 : w2.1 60 8 = nI (p_tok T L i).2.1 := by rw [ew2, mPI_row (by omega), mPI_col (by omega)]; exact b8
    have w9 : w2.1 60 9 = nI (p_tok T L i).1 := by rw [ew2, mPI_row (by omega), mPI_col (by omega)]; exact b9
    have w65 : w2.1 65 x = p_rs k := by rw [ew2, mPI_col (by omega), mPI_row (by omega), b65, ek]
    have w70 : w2.1 65 (x + 5) = 0 := by rw [ew2, mPI_at]
    clear ew2
    rw [w16, show (5 : Int32) = nI 5 from rfl, nI_leI (by omega) (by omega)]
    refine ⟨fun le => (k_X9_isDeed hL (hs.fr g2 lt) t3 w8 (by omega) w15).mono ?_, fun le => k_X9_fails.mono ?_⟩
    · have rm2 : p_room c k = true := by rw [rm, decide_eq_true (by omega)]
      rintro v u3 ⟨f3, hv, hp⟩
      have g3 := g2.tr (f3.mono dl)
      have u15 : ∀ u, mFr (dS9 x) w2 u → c3M (p_cnt c k) u ∧ u.1 65 x = p_rs k ∧ u.1 65 (x + 5) = 0 := fun u fu => ⟨by rw [cn]; exact ⟨by rw [(fu 60 15 (by unfold dS9; omega)).1]; exact w15, by rw [(fu 60 16 (by unfold dS9; omega)).1]; exact w16, by rw [(fu 60 17 (by unfold dS9; omega)).1]; exact w17⟩, by rw [(fu 65 x (by unfold dS9; omega)).1]; exact w65, by rw [(fu 65 (x + 5) (by unfold dS9; omega)).1]; exact w70⟩
      obtain ⟨z1, z2, z3⟩ := u15 u3 f3
      by_cases k5 : k = 5
      · have mx : p_max c k = [nI c.1 - 1, 1, nI c.1 - 1, 1] ++ [3] := by rw [k5]; rfl
        -- five numbers
        have glue : ∀ v5 u6, (v = 0 → v5 = 0 ∧ u6 = u3) → (v = 1 → mFr (nS9 (x + 5)) u3 u6 ∧ ∀ r, p_ns T L [nI c.1 - 1, 1, nI c.1 - 1, 1] (p_tok T L i).2.1 = .inr r → (p_num T (p_tok T L r.2) 3 = true → v5 = 1 ∧ u6.1 60 8 = nI (p_tok T L r.2).2.1 ∧ u6.1 65 (x + 5) = p_nb T (p_tok T L r.2).1 ((p_tok T L r.2).2.1 - (p_tok T L r.2).1)) ∧ (p_num T (p_tok T L r.2) 3 = false → v5 = 0 ∧ u6.1 60 13 = nI (p_tok T L r.2).1)) → nPost T L (p_max c k) (p_tok T L i).2.1 x v5 u6 := by
          intro v5 u6 h0 h1
          have app : ∀ (ms : List Int32) (j : Nat), p_ns T L (ms ++ [3]) j = match p_ns T L ms j with
              | .inl s => .inl s
              | .inr r => if p_num T (p_tok T L r.2) 3 = true then .inr (r.1 ++ [p_nb T (p_tok T L r.2).1 ((p_tok T L r.2).2.1 - (p_tok T L r.2).1)], (p_tok T L r.2).2.1) else .inl (p_tok T L r.2).1 := by
            intro ms
            induction ms with
            | nil =>
              intro j
              show p_ns T L (3 :: []) j = _
              rw [p_ns_c]
              rfl
            | cons m ms ih =>
              intro j
              show p_ns T L (m :: (ms ++ [3])) j = _
              rw [p_ns_c, p_ns_c, ih]
              by_cases z : p_num T (p_tok T L j) m = true
              · rw [if_pos z, if_pos z]
                cases p_ns T L ms (p_tok T L j).2.1 with
                | inl s => rfl
                | inr r =>
                  dsimp only
                  by_cases y : p_num T (p_tok T L r.2) 3 = true
                  · rw [if_pos y, if_pos y]; rfl
                  · rw [if_neg y, if_neg y]
              · rw [if_neg z, if_neg z]
          unfold nPost
          rw [mx, app]
          cases hn : p_ns T L [nI c.1 - 1, 1, nI c.1 - 1, 1] (p_tok T L i).2.1 with
          | inl s =>
            obtain ⟨y1, y2⟩ := hp.1 s hn
            obtain ⟨rfl, rfl⟩ := h0 y1
            refine ⟨fun s' q => ?_, fun r q => absurd q (by simp)⟩
            rw [← Sum.inl.inj q]; exact ⟨rfl, y2⟩
          | inr r =>
            obtain ⟨y1, y2, y3, y4, y5⟩ := hp.2 r hn
            obtain ⟨f6, hr⟩ := h1 y1
            obtain ⟨hr1, hr2⟩ := hr r hn
            dsimp only
            by_cases z : p_num T (p_tok T L r.2) 3 = true
            · rw [if_pos z]
              obtain ⟨x1, x2, x3⟩ := hr1 z
              obtain ⟨-, -, l6, -, -⟩ := p_tok_ok T y3
              refine ⟨fun s' q => absurd q (by simp), fun r' q => ?_⟩
              have q := Sum.inr.inj q
              subst q
              have y4 : r.1.length = 4 := y4
              refine ⟨x1, x2, l6, by simp [y4], fun j hj => ?_⟩
              have hj : j < 5 := by simp at hj; omega
              by_cases e : j = 4
              · subst e
                show u6.1 65 (x + 1 + 4) = (r.1 ++ [p_nb T (p_tok T L r.2).1 ((p_tok T L r.2).2.1 - (p_tok T L r.2).1)]).getD 4 0
                rw [List.getD_eq_getElem?_getD, List.getElem?_append_right (by omega), y4, show x + 1 + 4 = x + 5 by omega, x3]; rfl
              · show u6.1 65 (x + 1 + j) = (r.1 ++ [p_nb T (p_tok T L r.2).1 ((p_tok T L r.2).2.1 - (p_tok T L r.2).1)]).getD j 0
                rw [List.getD_eq_getElem?_getD, List.getElem?_append_left (by omega), ← List.getD_eq_getElem?_getD, (f6 65 _ (by unfold nS9; omega)).1]
                exact y5 j (by show j < 4; omega)
            · rw [if_neg z]
              obtain ⟨x1, x2⟩ := hr2 ((Bool.not_eq_true _).mp z)
              refine ⟨fun s' q => ?_, fun r' q => absurd q (by simp)⟩
              rw [← Sum.inl.inj q]; exact ⟨x1, x2⟩
        have ml : (p_max c k).length ≤ 5 := by rw [mx]; exact Nat.le_of_ble_eq_true rfl
        have kn : ¬ (k = 3 ∨ k = 4 ∨ k = 6) := by rw [k5]; decide
        refine ⟨fun v0 => ⟨_, rfl, g3, good k ek km1 rm2 0 u3 (glue 0 u3 (fun _ => ⟨rfl, rfl⟩) (fun v1 => absurd (v0.symm.trans v1) (by decide))) (fun q => absurd q (by decide)) ml⟩, fun v0 => ⟨fun q => absurd (h4.mpr k5) q, fun _ => ?_⟩⟩
        have hv1 : v = 1 := hv.resolve_left v0
        cases hn : p_ns T L [nI c.1 - 1, 1, nI c.1 - 1, 1] (p_tok T L i).2.1 with
        | inl s => exact absurd (hp.1 s hn).1 v0
        | inr r =>
          obtain ⟨y1, y2, y3, y4, y5⟩ := hp.2 r hn
          refine (k_X9_isNumber hL (hs.fr g3 lt) y3 y2 (by omega) 3).mono ?_
          rintro v5 u6 ⟨f6, a6, d6⟩
          have g6 : mFr (lS9 x) w u6 := g3.tr (f6.mono (fun c k q => by unfold nS9 at q; unfold lS9; omega))
          have gl := glue v5 u6 (fun q => absurd q v0) (fun _ => ⟨f6, fun r' hr' => by rw [hn] at hr'; rw [← Sum.inr.inj hr']; exact ⟨a6, d6⟩⟩)
          have fin : v5 = 1 → c3M (p_cnt c k) u6 ∧ u6.1 65 x = p_rs k ∧ (k = 3 ∨ k = 4 ∨ k = 6 → u6.1 65 (x + 5) = 0) := fun _ => ⟨z1.fr f6 (fun c k q => by unfold nS9 at q; omega), by rw [(f6 65 x (by unfold nS9; omega)).1]; exact z2, fun q => absurd q kn⟩
          cases n6 : p_num T (p_tok T L r.2) 3 with
          | true =>
            obtain ⟨rfl, -, -⟩ := a6 n6
            exact ⟨fun q => absurd q (by decide), fun _ => ⟨_, rfl, g6, good k ek km1 rm2 1 u6 gl fin ml⟩⟩
          | false =>
            obtain ⟨rfl, -⟩ := d6 n6
            exact ⟨fun _ => ⟨_, rfl, g6, good k ek km1 rm2 0 u6 gl fin ml⟩, fun q => absurd rfl q⟩
      · have mx : p_max c k = [nI c.1 - 1, 1, nI c.1 - 1, 1] := by
          rcases hk with rfl | rfl | rfl | rfl
          · rfl
          · rfl
          · exact absurd rfl k5
          · rfl
        have res : ∀ v', v = v' → lPost T L c i x v' u3 := by
          rintro v' rfl
          exact good k ek km1 rm2 v u3 (by rw [mx]; exact hp) (fun _ => ⟨z1, z2, fun _ => z3⟩) (by rw [mx]; exact Nat.le_of_ble_eq_true rfl)
        exact ⟨fun v0 => ⟨_, rfl, g3, res 0 v0⟩, fun v0 => ⟨fun _ => ⟨_, rfl, g3, res 1 (hv.resolve_left v0)⟩, fun q => absurd (h4.mp q) k5⟩⟩
    · rintro v u3 ⟨rfl, hu⟩
      exact bad _ u3 g2 w9 hu (Or.inr (by rw [ek, rm, decide_eq_false (by omega)]))
  -- causes
  have caus : p_wd T (p_tok T L i) = 7 → ((w1.1 60 17 + 1 ≤ 6 → mMi E MX9_isDeed [.ref 60, .int (nI x)] (mPI w1 60 17 (w1.1 60 17 + 1)) (fun v2 u3 => narrow .boolean (.int v2) = .int v2 ∧ ∃ v : Int32, (some (Value.int v2) : Option Value) = some (.int v) ∧ mFr (lS9 x) w u3 ∧ lPost T L c i x v u3)) ∧ (¬ w1.1 60 17 + 1 ≤ 6 → mMi E MX9_fails [.ref 60] (mPI w1 60 17 (w1.1 60 17 + 1)) (fun v3 u4 => narrow .boolean (.int v3) = .int v3 ∧ ∃ v : Int32, (some (Value.int v3) : Option Value) = some (.int v) ∧ mFr (lS9 x) w u4 ∧ lPost T L c i x v u4))) := by
    intro ek
    have fp : ∀ y : Int32, mFr (lS9 x) w (mPI w1 60 17 y) := fun y => g1.tr (mFr.pi (S := lS9 x) (Or.inl ⟨rfl, Or.inr ⟨by omega, by omega⟩⟩))
    have rm : p_room c 7 = decide (c.2.2 < 6) := rfl
    rw [hc1.2.2, nI_1, show (6 : Int32) = nI 6 from rfl, nI_leI (by omega) (by omega)]
    refine ⟨fun le => (k_X9_isDeed hL (hs.fr (fp _) lt) t3 (by rw [mPI_col (by omega)]; exact b8) (by omega) (by rw [mPI_col (by omega)]; exact hc1.1)).mono ?_, fun le => k_X9_fails.mono ?_⟩
    · rintro v u3 ⟨f3, hv, hp⟩
      refine ⟨nar v hv, _, rfl, (fp _).tr (f3.mono dl), good 7 ek (by decide) (by rw [rm, decide_eq_true (by omega)]) v u3 hp (fun _ => ⟨⟨?_, ?_, ?_⟩, ?_, fun q => absurd q (by decide)⟩) (Nat.le_of_ble_eq_true rfl)⟩
      · rw [(f3 60 15 (by unfold dS9; omega)).1, mPI_col (by omega)]; exact hc1.1
      · rw [(f3 60 16 (by unfold dS9; omega)).1, mPI_col (by omega)]; exact hc1.2.1
      · rw [(f3 60 17 (by unfold dS9; omega)).1, mPI_at]; rfl
      · rw [(f3 65 x (by unfold dS9; omega)).1, mPI_row (by omega), b65, ek]
    · rintro v u3 ⟨rfl, hu⟩
      exact bad _ u3 (fp _) (by rw [mPI_col (by omega)]; exact b9) hu (Or.inr (by rw [ek, rm, decide_eq_false (by omega)]))
  -- city, still
  have clr : ∀ (k a b : Int32), p_wd T (p_tok T L i) = k → (k = 0 ∧ a = 0 ∧ b = 0 ∨ k = 8 ∧ a = w1.1 60 15 ∧ b = w1.1 60 16) → ∃ v : Int32, (some (Value.int 1) : Option Value) = some (.int v) ∧ mFr (lS9 x) w (mPI (mPI (mPI w1 60 15 a) 60 16 b) 60 17 0) ∧ lPost T L c i x v (mPI (mPI (mPI w1 60 15 a) 60 16 b) 60 17 0) := by
    intro k a b ek h
    have km1 : ¬ k = -1 := by rcases h with h | h <;> (rw [h.1]; decide)
    have rm : p_room c k = true := by rcases h with h | h <;> (rw [h.1]; rfl)
    have mx : p_max c k = [] := by rcases h with h | h <;> (rw [h.1]; rfl)
    have kn : ¬ (k = 3 ∨ k = 4 ∨ k = 6) := by rcases h with h | h <;> (rw [h.1]; decide)
    refine ⟨_, rfl, g1.tr (((mFr.pi (S := lS9 x) (Or.inl ⟨rfl, Or.inr ⟨by omega, by omega⟩⟩)).tr (mFr.pi (S := lS9 x) (Or.inl ⟨rfl, Or.inr ⟨by omega, by omega⟩⟩))).tr (mFr.pi (S := lS9 x) (Or.inl ⟨rfl, Or.inr ⟨by omega, by omega⟩⟩))), good k ek km1 rm 1 _ (by rw [mx]; exact nPost_n t3 (by rw [mPI_col (by omega), mPI_col (by omega), mPI_col (by omega)]; exact b8)) (fun _ => ⟨?_, ?_, fun q => absurd q kn⟩) (by rw [mx]; decide)⟩
    · rcases h with ⟨rfl, rfl, rfl⟩ | ⟨rfl, rfl, rfl⟩
      · exact ⟨by rw [mPI_col (by omega), mPI_col (by omega), mPI_at]; rfl, by rw [mPI_col (by omega), mPI_at]; rfl, by rw [mPI_at]; rfl⟩
      · exact ⟨by rw [mPI_col (by omega), mPI_col (by omega), mPI_at]; exact hc1.1, by rw [mPI_col (by omega), mPI_at]; exact hc1.2.1, by rw [mPI_at]; rfl⟩
    · rw [mPI_row (by omega), mPI_row (by omega), mPI_row (by omega), b65, ek]
  have vi5 : vp_in (nI (x + 5)) 84 := vp_in_nI (by omega) (by omega)
  rcases p_wd_in (T := T) (p_tok T L i) with ek | ⟨kk, hkk, ek⟩
  · rw [ek]
    refine ⟨fun q => absurd rfl q, fun _ => k_X9_fails.mono ?_⟩
    rintro v u3 ⟨rfl, hu⟩
    exact bad w1 u3 g1 b9 hu (Or.inl ek)
  · have cl0 := clr 0 0 0
    have cl8 := clr 8 (w1.1 60 15) (w1.1 60 16)
    rw [ek]
    match kk, hkk with
    | 0, _ => exact ⟨fun _ => ⟨fun _ => ⟨fun _ => ⟨fun _ => ⟨fun q => absurd rfl q, fun _ => ⟨fun q => absurd rfl q, fun _ => cl0 ek (Or.inl ⟨rfl, rfl, rfl⟩)⟩⟩, fun q => absurd q (by decide)⟩, fun q => absurd (by decide) q⟩, fun q => absurd (by decide) q⟩, fun q => absurd q (by decide)⟩
    | 1, _ => exact ⟨fun _ => ⟨fun q => absurd q (by decide), fun _ => fact 1 ek (Or.inl rfl)⟩, fun q => absurd q (by decide)⟩
    | 2, _ => exact ⟨fun _ => ⟨fun q => absurd q (by decide), fun _ => fact 2 ek (Or.inr rfl)⟩, fun q => absurd q (by decide)⟩
    | 3, _ => exact ⟨fun _ => ⟨fun _ => ⟨fun q => absurd q (by decide), fun _ => ⟨vi5, one 3 2 ek (Or.inl rfl) (by decide)⟩⟩, fun q => absurd (by decide) q⟩, fun q => absurd q (by decide)⟩
    | 4, _ => exact ⟨fun _ => ⟨fun _ => ⟨fun q => absurd q (by decide), fun _ => ⟨vi5, one 4 3 ek (Or.inr (Or.inl rfl)) (by decide)⟩⟩, fun q => absurd (by decide) q⟩, fun q => absurd q (by decide)⟩
    | 5, _ => exact ⟨fun _ => ⟨fun _ => ⟨fun q => absurd q (by decide), fun _ => ⟨vi5, one 5 4 ek (Or.inr (Or.inr (Or.inl rfl))) (by decide)⟩⟩, fun q => absurd (by decide) q⟩, fun q => absurd q (by decide)⟩
    | 6, _ => exact ⟨fun _ => ⟨fun _ => ⟨fun q => absurd q (by decide), fun _ => ⟨vi5, one 6 5 ek (Or.inr (Or.inr (Or.inr rfl))) (by decide)⟩⟩, fun q => absurd (by decide) q⟩, fun q => absurd q (by decide)⟩
    | 7, _ => exact ⟨fun _ => ⟨fun _ => ⟨fun _ => ⟨fun q => absurd rfl q, fun _ => caus ek⟩, fun q => absurd (by decide) q⟩, fun q => absurd (by decide) q⟩, fun q => absurd q (by decide)⟩
    | 8, _ => exact ⟨fun _ => ⟨fun _ => ⟨fun _ => ⟨fun _ => ⟨fun _ => ⟨fun _ => cl8 ek (Or.inr ⟨rfl, rfl, rfl⟩), fun q => absurd q (by decide)⟩, fun q => absurd q (by decide)⟩, fun q => absurd q (by decide)⟩, fun q => absurd (by decide) q⟩, fun q => absurd (by decide) q⟩, fun q => absurd q (by decide)⟩
end R9b
