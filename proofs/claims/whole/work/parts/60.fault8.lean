/-! ===== THE CLASS READS: clauses, a whole text ===== -/
def rS (a : Nat) : Nat → Nat → Prop := fun c k => (c = 22 ∧ 4 ≤ k ∧ k ≤ 9) ∨ c = a
def rowX (cl : mCl) (a : Nat) (w : mW) : Prop := w.1 a 0 = cl.1 ∧ ∀ j, j < cl.2.length → w.1 a (j + 1) = cl.2.getD j 0
theorem rowX.fr {cl : mCl} {a : Nat} {w u : mW} {S : Nat → Nat → Prop} (h : rowX cl a w) (f : mFr S w u) (hS : ∀ k, ¬ S a k) : rowX cl a u := ⟨(f a 0 (hS _)).1.trans h.1, fun j hj => (f a _ (hS _)).1.trans (h.2 j hj)⟩
theorem p_ns_c (T : Nat → Int32) (L : Nat) (m : Int32) (ms : List Int32) (i : Nat) : p_ns T L (m :: ms) i = if p_num T (p_tok T L i) m = true then (match p_ns T L ms (p_tok T L i).2.1 with
    | .inl s => .inl s
    | .inr r => .inr (p_nb T (p_tok T L i).1 ((p_tok T L i).2.1 - (p_tok T L i).1) :: r.1, r.2)) else .inl (p_tok T L i).1 := rfl
theorem p_tok3 (T : Nat → Int32) {L i : Nat} (hi : i ≤ L) : (p_tok T L i).2.2 < 4 := by
  obtain ⟨-, -, -, -, h⟩ := p_tok_ok T hi
  by_cases z : (p_tok T L i).2.2 = 0
  · omega
  · have := (h z).2.1
    rcases p_lc_in (T (p_tok T L i).1) with y | y | y <;> omega
theorem q_st_len : ∀ k : Nat, k < 9 → (mStB.getD (p_st k) []).length = mStN.getD (p_st k) 0 ∧ p_st k < 13 ∧ mStN.getD (p_st k) 0 ≤ 5 := by decide
section X5b
variable {E : mEnv} {w : mW} {T : Nat → Int32} {L : Nat}
theorem p_num_v {t : mTk} (h2 : t.2.2 = 2 ∧ t.2.1 - t.1 ≤ 2) (m : Int32) : p_num T t m = decide (p_nb T t.1 (t.2.1 - t.1) ≤ m) := by
  unfold p_num; rw [decide_eq_true h2.1, decide_eq_true h2.2, Bool.true_and, Bool.true_and]
theorem p_num_f {t : mTk} (h2 : ¬ (t.2.2 = 2 ∧ t.2.1 - t.1 ≤ 2)) (m : Int32) : p_num T t m = false := by
  unfold p_num
  by_cases a : t.2.2 = 2
  · rw [decide_eq_false (p := t.2.1 - t.1 ≤ 2) (fun q => h2 ⟨a, q⟩), Bool.false_and, Bool.and_false]
  · rw [decide_eq_false a, Bool.false_and]
theorem p_nb_tok {i : Nat} (hi : i ≤ L) (h2 : (p_tok T L i).2.2 = 2 ∧ (p_tok T L i).2.1 - (p_tok T L i).1 ≤ 2) : ∃ n : Nat, n < 100 ∧ p_nb T (p_tok T L i).1 ((p_tok T L i).2.1 - (p_tok T L i).1) = nI n := by
  obtain ⟨-, a, -, -, h⟩ := p_tok_ok T hi
  have h := h (by omega)
  obtain ⟨n, hn, en⟩ := p_nb_in (T := T) (s := (p_tok T L i).1) ((p_tok T L i).2.1 - (p_tok T L i).1) h2.2 (fun j h1 h3 => (h.2.2 j h1 (by omega)).trans h2.1)
  refine ⟨n, Nat.lt_of_lt_of_le hn ?_, en⟩
  exact Nat.pow_le_pow_right (n := 10) (by omega) h2.2
theorem m1n {n : Nat} (h : n < 2 ^ 31) : ¬ nI n = -1 := fun q => by
  have : (nI n).toInt = (-1 : Int32).toInt := by rw [q]
  rw [nI_toInt h] at this
  revert this
  rw [show (-1 : Int32).toInt = -1 by decide]
  omega
theorem k_X5_readClause (hL : L ≤ 160) (hs : sX (L, T) w) {i : Nat} (hi : i ≤ L) (ht : tkX (p_tok T L i) w) {c : mC3} (hc : c3X c w) (c1 : c.1 ≤ 6) (c2 : c.2.1 ≤ 5) (c3 : c.2.2 ≤ 6) {a : Nat} (ha : mSh[a]? = some (.inl (0, 6, []))) (ha2 : 25 ≤ a ∧ a ≤ 38) :
    mMi E MX5_readClause [.ref 22, .ref a] w (fun v u => mFr (rS a) w u ∧ (∀ s, p_cl T L c i = .inl s → v = 0 ∧ u.1 22 4 = nI s) ∧ ∀ r, p_cl T L c i = .inr r → v = 1 ∧ u.1 22 5 = nI r.2.2 ∧ r.2.2 ≤ L ∧ c3X r.2.1 u ∧ rowX r.1 a u) := by
  obtain ⟨t1, t2, t3, t4, t5⟩ := p_tok_ok T hi
  have tl := p_tok3 T hi
  have rs : ∀ c k, rS a c k → ¬ c = 23 ∧ ¬ (c = 22 ∧ k = 1) := fun c k h => by unfold rS at h; omega
  unfold mMi
  refine mM_start rfl (Nat.le_of_ble_eq_true rfl) rfl (fun X C F => vX5_readClause_0 C F ha ?_)
  refine (k_X5_wordOfToken hL hs ht t2 t3 tl).mono ?_
  rintro v u ⟨rfl, rfl⟩
  have bad : (p_wd T (p_tok T L i) = -1 ∨ p_room c (p_wd T (p_tok T L i)) = false) → ∃ v : Int32, (some (Value.int 0) : Option Value) = some (.int v) ∧ mFr (rS a) u u ∧ (∀ s, p_cl T L c i = .inl s → v = 0 ∧ u.1 22 4 = nI s) ∧ ∀ r, p_cl T L c i = .inr r → v = 1 ∧ u.1 22 5 = nI r.2.2 ∧ r.2.2 ≤ L ∧ c3X r.2.1 u ∧ rowX r.1 a u := by
    intro hb
    have e : p_cl T L c i = .inl (p_tok T L i).1 := by
      unfold p_cl
      by_cases z : p_wd T (p_tok T L i) = -1
      · rw [if_pos z]
      · rw [if_neg z, if_pos (hb.resolve_left z)]
    refine ⟨_, rfl, mFr.rf, fun s h => ⟨rfl, ?_⟩, fun r h => ?_⟩
    · rw [e] at h; rw [← Sum.inl.inj h]; exact ht.1
    · rw [e] at h; exact absurd h (by simp)
  refine ⟨fun z => bad (Or.inl z), fun z => (k_X5_hasRoomFor hc c1 c2 c3 _).mono ?_⟩
  rintro v u ⟨rfl, rfl⟩
  rw [q_b0]
  refine ⟨fun z2 => ?_, fun z2 => bad (Or.inr z2)⟩
  have z2 := (Bool.not_eq_false _).mp z2
  rintro w1 rfl
  obtain ⟨k, hk, ek⟩ := (p_wd_in (T := T) (p_tok T L i)).resolve_left z
  obtain ⟨q1, q2, q3⟩ := q_st_len k hk
  have ecl : p_cl T L c i = match p_ns T L (p_max c (nI k)) (p_tok T L i).2.1 with
      | .inl s => .inl s
      | .inr r => .inr ((nI k, r.1), p_cnt c (nI k), r.2) := by
    unfold p_cl
    rw [if_neg z, if_neg (by rw [z2]; decide), ek]
    rfl
  rw [p_max_st hk] at ecl
  rw [ek]
  refine (k_X5_numbersOf hk).mono ?_
  rintro v u2 ⟨rfl, rfl⟩
  generalize hbs : mStB.getD (p_st k) [] = bs at ecl q1
  have loop : ∀ (m j pos : Nat) (acc : List Int32) (u2 : mW), j + m = bs.length → acc.length = j → mFr (rS a) u u2 → u2.1 22 5 = nI pos → pos ≤ L → c3X c u2 → u2.1 a 0 = nI k → (∀ x, x < j → u2.1 a (x + 1) = acc.getD x 0) → (∀ s, p_ns T L ((bs.drop j).map (p_mo c)) pos = .inl s → p_ns T L (bs.map (p_mo c)) (p_tok T L i).2.1 = .inl s) → (∀ vs q, p_ns T L ((bs.drop j).map (p_mo c)) pos = .inr (vs, q) → p_ns T L (bs.map (p_mo c)) (p_tok T L i).2.1 = .inr (acc ++ vs, q)) → mG X E MX5_readClause 32 [.ref 22, .ref a, .int (nI k), .ref (100 + p_st k), .int (nI j), .retAddr 0] [] u2 := by
    intro m
    induction m with
    | zero =>
      intro j pos acc u2 hj hacc fu a5 hp hcu a0 hrow h1 h2
      refine vX5_readClause_32 C F ha _ _ _ ⟨⟨_, q2, rfl⟩, (k_J0_length q2).mono ?_⟩
      rintro v u3 ⟨rfl, rfl⟩
      refine ⟨fun _ => (k_X5_countIn hcu _).mono ?_, fun q => absurd (nI_le (by omega) (by omega)) q⟩
      rintro u4 ⟨f4, hc4⟩
      have R := h2 [] pos (by rw [List.drop_eq_nil_of_le (by omega)]; rfl)
      rw [R] at ecl
      have fu4 : mFr (rS a) u u4 := fu.tr (f4.mono (fun c k q => by unfold cS22 at q; unfold rS; omega))
      refine ⟨_, rfl, fu4, fun s h => ?_, fun r h => ?_⟩
      · rw [ecl] at h; exact absurd h (by simp)
      · rw [ecl] at h
        have h := Sum.inr.inj h
        subst h
        refine ⟨rfl, ?_, hp, hc4, ?_, fun x hx => ?_⟩
        · rw [(f4 22 5 (by unfold cS22; omega)).1]; exact a5
        · rw [(f4 a 0 (by unfold cS22; omega)).1]; exact a0
        · have hx : x < (acc ++ ([] : List Int32)).length := hx
          rw [List.append_nil] at hx
          show u4.1 a (x + 1) = (acc ++ []).getD x 0
          rw [List.append_nil, (f4 a _ (by unfold cS22; omega)).1]
          exact hrow x (by omega)
    | succ m ih =>
      intro j pos acc u2 hj hacc fu a5 hp hcu a0 hrow h1 h2
      have hsu := hs.fr fu rs
      have edr : bs.drop j = bs.getD j 0 :: bs.drop (j + 1) := by
        rw [List.drop_eq_getElem_cons (by omega), List.getD_eq_getElem?_getD, List.getElem?_eq_getElem (by omega)]; rfl
      rw [edr, List.map_cons, p_ns_c] at h1 h2
      refine vX5_readClause_32 C F ha _ _ _ ⟨⟨_, q2, rfl⟩, (k_J0_length q2).mono ?_⟩
      rintro v u3 ⟨rfl, rfl⟩
      rw [nI_1, show (6 : Int32) = nI 6 from rfl]
      refine ⟨fun q => absurd q (nI_ge (by omega) (by omega)), fun _ => ⟨fun q => absurd q (nI_ge (by omega) (by omega)), fun _ => (k_X5_nextToken hL hsu hp a5).mono ?_⟩⟩
      rintro u4 ⟨f4, ht4⟩
      have fu4 : mFr (rS a) u u4 := fu.tr (f4.mono (fun c k q => by unfold tS at q; unfold rS; omega))
      have hs4 := hs.fr fu4 rs
      have hc4 := hcu.fr f4 (fun c k q => by unfold tS at q; omega)
      obtain ⟨y1, y2, y3, y4, y5⟩ := p_tok_ok T hp
      have yl := p_tok3 T hp
      refine (k_X5_numberOfToken hL hs4 ht4 y2 y3 yl).mono ?_
      rintro v u5 ⟨rfl, rfl⟩
      have fail : ∀ u6, u6 = u5 → p_num T (p_tok T L pos) (p_mo c (bs.getD j 0)) = false → ∃ v : Int32, (some (Value.int 0) : Option Value) = some (.int v) ∧ mFr (rS a) u u6 ∧ (∀ s, p_cl T L c i = .inl s → v = 0 ∧ u6.1 22 4 = nI s) ∧ ∀ r, p_cl T L c i = .inr r → v = 1 ∧ u6.1 22 5 = nI r.2.2 ∧ r.2.2 ≤ L ∧ c3X r.2.1 u6 ∧ rowX r.1 a u6 := by
        rintro u6 rfl hn
        have R := h1 (p_tok T L pos).1 (by rw [if_neg (by rw [hn]; decide)])
        rw [R] at ecl
        refine ⟨_, rfl, fu4, fun s h => ⟨rfl, ?_⟩, fun r h => ?_⟩
        · rw [ecl] at h; rw [← Sum.inl.inj h]; exact ht4.1
        · rw [ecl] at h; exact absurd h (by simp)
      by_cases hnum : (p_tok T L pos).2.2 = 2 ∧ (p_tok T L pos).2.1 - (p_tok T L pos).1 ≤ 2
      · rw [if_pos hnum]
        obtain ⟨n, hn, en⟩ := p_nb_tok hp hnum
        rw [en]
        refine ⟨fun q => absurd q (m1n (by omega)), fun _ => ⟨⟨_, q2, rfl⟩, (k_J0_charAt q2 (by omega)).mono ?_⟩⟩
        rintro v u6 ⟨rfl, rfl⟩
        refine (k_X5_mostOf hc4 _).mono ?_
        rintro v u7 ⟨rfl, rfl⟩
        rw [hbs, nI_clamp (by omega)]
        have pn := p_num_v (T := T) hnum (p_mo c (bs.getD j 0))
        rw [en] at pn
        refine ⟨fun le => ⟨vp_in_nI (by omega) (by omega), ?_⟩, fun le => fail _ rfl (by rw [pn, decide_eq_false le])⟩
        rintro w1 rfl
        rw [decide_eq_true le] at pn
        rw [if_pos pn, en] at h1 h2
        have fr : mFr (fun c k => c = a) u7 (mPI u7 a (j + 1) (nI n)) := mFr.pi (S := fun c k => c = a) rfl
        refine ih (j + 1) (p_tok T L pos).2.1 (acc ++ [nI n]) _ (by omega) (by simp [hacc]) (fu4.tr (fr.mono (fun c k q => Or.inr q))) ?_ y3 (hc4.fr fr (fun c k q => by omega)) ?_ (fun x hx => ?_) (fun s h => h1 s (by rw [h])) (fun vs q h => ?_)
        · rw [mPI_row (by omega)]; exact ht4.2.1
        · rw [mPI_col (by omega), (f4 a 0 (by unfold tS; omega)).1]; exact a0
        · by_cases e : x = j
          · rw [e, mPI_at, List.getD_eq_getElem?_getD, List.getElem?_append_right (by omega), hacc, Nat.sub_self]; rfl
          · rw [mPI_col (by omega), (f4 a _ (by unfold tS; omega)).1, hrow x (by omega), List.getD_eq_getElem?_getD, List.getD_eq_getElem?_getD, List.getElem?_append_left (by omega)]
        · have := h2 (nI n :: vs) q (by rw [h])
          rw [this, List.append_assoc]; rfl
      · rw [if_neg hnum]
        exact ⟨fun _ => fail _ rfl (p_num_f hnum _), fun q => absurd rfl q⟩
  have fr0 : mFr (fun c k => c = a) u (mPI u a 0 (nI k)) := mFr.pi (S := fun c k => c = a) rfl
  refine loop bs.length 0 (p_tok T L i).2.1 [] _ (by omega) rfl (fr0.mono (fun c k q => Or.inr q)) ?_ t3 (hc.fr fr0 (fun c k q => by omega)) (mPI_at _ _ _ _) (fun x hx => absurd hx (by omega)) (fun s h => ?_) (fun vs q h => ?_)
  · rw [mPI_row (by omega)]; exact ht.2.1
  · exact h
  · exact h
theorem p_room_cnt {c : mC3} (c1 : c.1 ≤ 6) (c2 : c.2.1 ≤ 5) (c3 : c.2.2 ≤ 6) {k : Int32} (h : p_room c k = true) : (p_cnt c k).1 ≤ 6 ∧ (p_cnt c k).2.1 ≤ 5 ∧ (p_cnt c k).2.2 ≤ 6 := by
  unfold p_room at h
  unfold p_cnt
  by_cases k0 : k = 0
  · rw [if_pos k0]; exact ⟨Nat.zero_le _, Nat.zero_le _, Nat.zero_le _⟩
  · rw [if_neg k0]
    by_cases k8 : k = 8
    · rw [if_pos k8]; exact ⟨c1, c2, by dsimp only; omega⟩
    · rw [if_neg k8]
      rw [if_neg (fun q => q.elim k0 k8)] at h
      by_cases kf : k = 1 ∨ k = 2
      · rw [if_pos kf] at h ⊢; have := of_decide_eq_true h; exact ⟨by dsimp only; omega, c2, c3⟩
      · rw [if_neg kf] at h ⊢
        by_cases k7 : k = 7
        · rw [if_pos k7] at h ⊢; have := of_decide_eq_true h; exact ⟨c1, c2, by dsimp only; omega⟩
        · rw [if_neg k7] at h ⊢; have := of_decide_eq_true h; exact ⟨c1, by dsimp only; omega, c3⟩
theorem p_cl_room {c : mC3} {i : Nat} {r : mCl × mC3 × Nat} (h : p_cl T L c i = .inr r) : p_room c r.1.1 = true ∧ r.2.1 = p_cnt c r.1.1 ∧ ¬ r.1.1 = -1 ∧ r.1.1 = p_wd T (p_tok T L i) ∧ ∃ q, p_ns T L (p_max c r.1.1) (p_tok T L i).2.1 = .inr (r.1.2, q) ∧ r.2.2 = q := by
  unfold p_cl at h
  by_cases z : p_wd T (p_tok T L i) = -1
  · rw [if_pos z] at h; exact absurd h (by simp)
  · rw [if_neg z] at h
    by_cases z2 : p_room c (p_wd T (p_tok T L i)) = false
    · rw [if_pos z2] at h; exact absurd h (by simp)
    · rw [if_neg z2] at h
      cases hn : p_ns T L (p_max c (p_wd T (p_tok T L i))) (p_tok T L i).2.1 with
      | inl s => rw [hn] at h; exact absurd h (by simp)
      | inr q =>
        rw [hn] at h
        have h := Sum.inr.inj h
        subst h
        exact ⟨(Bool.not_eq_false _).mp z2, rfl, z, rfl, q.2, hn, rfl⟩
theorem shrow {n : Nat} (hn : n < 14) : mSh[25 + n]? = some (.inl (0, 6, [])) := by
  have := shr25 (i := nI n) (vp_in_nI (N := 14) hn (by omega))
  rw [nI_clamp (by omega)] at this
  exact this
def fS8 : Nat → Nat → Prop := fun c k => (c = 22 ∧ 3 ≤ k ∧ k ≤ 9) ∨ (25 ≤ c ∧ c ≤ 38)
theorem p_all_c (T : Nat → Int32) (L n : Nat) (c : mC3) (i : Nat) : p_all T L (n + 1) c i = match p_cl T L c i with
    | .inl s => .inl s
    | .inr r => if (p_tok T L r.2.2).2.2 = 0 then .inr [r.1] else if T (p_tok T L r.2.2).1 = 59 then (if n = 0 then .inl (p_tok T L r.2.2).1 else match p_all T L n r.2.1 (p_tok T L r.2.2).2.1 with
      | .inl s => .inl s
      | .inr cs => .inr (r.1 :: cs)) else .inl (p_tok T L r.2.2).1 := rfl
theorem k_X5_firstFault (hL : L ≤ 160) (hs : sX (L, T) w) {Y : mY} (hY : cyX Y w) (hk : cyOK Y) : mMi E MX5_firstFault [.ref 22, .ref 1] w (fun v u => mFr fS8 w u ∧ (∀ s, p_all T L 14 Y.1 0 = .inl s → v = nI s) ∧ ∀ cs, p_all T L 14 Y.1 0 = .inr cs → v = -1 ∧ u.1 22 3 = nI cs.length ∧ ∀ m, m < cs.length → rowX (cs.getD m (0, [])) (25 + m) u) := by
  have fs : ∀ c k, fS8 c k → ¬ c = 23 ∧ ¬ (c = 22 ∧ k = 1) := fun c k h => by unfold fS8 at h; omega
  unfold mMi
  refine mM_start rfl (Nat.le_of_ble_eq_true rfl) rfl (fun X C F => vX5_firstFault_0 C F ?_)
  rw [hY.1, hY.2.1, hY.2.2.1]
  have loop : ∀ (f n : Nat) (c : mC3) (i : Nat) (acc : List mCl) (u : mW), n + (f + 1) = 14 → acc.length = n → mFr fS8 w u → i ≤ L → u.1 22 5 = nI i → u.1 22 3 = nI n → c3X c u → c.1 ≤ 6 → c.2.1 ≤ 5 → c.2.2 ≤ 6 → (∀ m, m < n → rowX (acc.getD m (0, [])) (25 + m) u) → (∀ s, p_all T L (f + 1) c i = .inl s → p_all T L 14 Y.1 0 = .inl s) → (∀ cs, p_all T L (f + 1) c i = .inr cs → p_all T L 14 Y.1 0 = .inr (acc ++ cs)) → mG X E MX5_firstFault 36 [.ref 22, .retAddr 0, .int (nI n)] [] u := by
    intro f
    induction f with
    | zero => ?_
    | succ f ih => ?_
    all_goals
      intro n c i acc u hn hacc fu hi a5 a3 hc c1 c2 c3 hrow g1 g2
      have hsu := hs.fr fu fs
      rw [p_all_c] at g1 g2
      refine vX5_firstFault_36 C F _ ?_
      rw [show (14 : Int32) = nI 14 from rfl, nI_clamp (by omega)]
      refine ⟨fun q => absurd q (nI_ge (by omega) (by omega)), fun _ => (k_X5_nextToken hL hsu hi a5).mono ?_⟩
      rintro u1 ⟨f1, ht⟩
      have fu1 : mFr fS8 w u1 := fu.tr (f1.mono (fun c k q => by unfold tS at q; unfold fS8; omega))
      have hs1 := hs.fr fu1 fs
      have hc1 := hc.fr f1 (fun c k q => by unfold tS at q; omega)
      refine ⟨vp_in_nI (by omega) (by omega), (k_X5_readClause hL hs1 hi ht hc1 c1 c2 c3 (shrow (by omega)) (by omega)).mono ?_⟩
      rintro v u2 ⟨f2, b1, b2⟩
      have fu2 : mFr fS8 w u2 := fu1.tr (f2.mono (fun c k q => by unfold rS at q; unfold fS8; omega))
      cases hcl : p_cl T L c i with
      | inl s =>
        obtain ⟨rfl, e4⟩ := b1 s hcl
        rw [hcl] at g1
        have R := g1 s rfl
        refine ⟨fun q => absurd rfl q, fun _ => ⟨_, rfl, fu2, fun s' h => ?_, fun cs h => ?_⟩⟩
        · rw [R] at h; rw [← Sum.inl.inj h]; exact e4
        · rw [R] at h; exact absurd h (by simp)
      | inr r =>
        obtain ⟨rfl, e5, er, hc2, hr2⟩ := b2 r hcl
        obtain ⟨rm, ec, -⟩ := p_cl_room hcl
        rw [hcl] at g1 g2
        dsimp only at g1 g2
        refine ⟨fun _ => ?_, fun q => absurd q (by decide)⟩
        have e3 : u2.1 22 3 = nI n := by rw [(f2 22 3 (by unfold rS; omega)).1, (f1 22 3 (by unfold tS; omega)).1]; exact a3
        rw [e3, nI_1]
        have f3 : mFr (fun c k => c = 22 ∧ k = 3) u2 (mPI u2 22 3 (nI (n + 1))) := mFr.pi (S := fun c k => c = 22 ∧ k = 3) ⟨rfl, rfl⟩
        have fu3 : mFr fS8 w (mPI u2 22 3 (nI (n + 1))) := fu2.tr (f3.mono (fun c k q => by unfold fS8; omega))
        refine (k_X5_nextToken hL (hs.fr fu3 fs) er (by rw [mPI_col (by omega)]; exact e5)).mono ?_
        rintro u4 ⟨f4, ht4⟩
        have fu4 : mFr fS8 w u4 := fu3.tr (f4.mono (fun c k q => by unfold tS at q; unfold fS8; omega))
        have hs4 := hs.fr fu4 fs
        obtain ⟨y1, y2, y3, y4, y5⟩ := p_tok_ok T er
        have yl := p_tok3 T er
        have e34 : u4.1 22 3 = nI (n + 1) := by rw [(f4 22 3 (by unfold tS; omega)).1, mPI_at]
        have rows4 : ∀ m, m < n + 1 → rowX ((acc ++ [r.1]).getD m (0, [])) (25 + m) u4 := by
          intro m hm
          by_cases e : m = n
          · rw [e, show (acc ++ [r.1]).getD n (0, []) = r.1 by rw [List.getD_eq_getElem?_getD, List.getElem?_append_right (by omega), hacc, Nat.sub_self]; rfl]
            exact (hr2.fr f3 (fun k q => by omega)).fr f4 (fun k q => by unfold tS at q; omega)
          · rw [show (acc ++ [r.1]).getD m (0, []) = acc.getD m (0, []) by rw [List.getD_eq_getElem?_getD, List.getD_eq_getElem?_getD, List.getElem?_append_left (by omega)]]
            exact ((((hrow m (by omega)).fr f1 (fun k q => by unfold tS at q; omega)).fr f2 (fun k q => by unfold rS at q; omega)).fr f3 (fun k q => by omega)).fr f4 (fun k q => by unfold tS at q; omega)
        have z6 : nI (p_tok T L r.2.2).2.2 = 0 ↔ (p_tok T L r.2.2).2.2 = 0 := nI_eq (b := 0) (by omega) (by omega)
        rw [ht4.2.2, z6]
        refine ⟨fun z => ?_, fun z => ?_⟩
        · have y5 := y5 z
          rw [if_neg z] at g1 g2
          rw [ht4.1, nI_clamp (by omega), hs4.2 (p_tok T L r.2.2).1 (by show (p_tok T L r.2.2).1 < L; omega)]
          refine ⟨vp_in_nI (by omega) (by omega), fun s59 => ?_, fun s59 => ?_⟩
          · rw [if_pos s59] at g1 g2
            first
              | (rw [if_pos rfl] at g1
                 have R := g1 _ rfl
                 refine vX5_firstFault_36 C F _ ?_
                 rw [show (14 : Int32) = nI 14 from rfl, ht4.1]
                 refine ⟨fun _ => ⟨_, rfl, fu4, fun s' h => ?_, fun cs h => ?_⟩, fun q => absurd (nI_le (by omega) (by omega)) q⟩
                 · rw [R] at h; rw [← Sum.inl.inj h]
                 · rw [R] at h; exact absurd h (by simp))
              | (rw [if_neg (by omega)] at g1 g2
                 have cc := p_room_cnt c1 c2 c3 rm
                 refine ih (n + 1) r.2.1 (p_tok T L r.2.2).2.1 (acc ++ [r.1]) u4 (by omega) (by simp [hacc]) fu4 y3 ht4.2.1 e34 ?_ ?_ ?_ ?_ rows4 (fun s h => g1 s ?_) (fun cs h => ?_)
                 · exact (hc2.fr f3 (fun c k q => by omega)).fr f4 (fun c k q => by unfold tS at q; omega)
                 · rw [ec]; exact cc.1
                 · rw [ec]; exact cc.2.1
                 · rw [ec]; exact cc.2.2
                 · rw [h]
                 · have := g2 (r.1 :: cs) (by rw [h])
                   rw [this, List.append_assoc]; rfl)
          · rw [if_neg s59] at g1
            have R := g1 _ rfl
            refine ⟨_, rfl, fu4, fun s' h => ?_, fun cs h => ?_⟩
            · rw [R] at h; rw [← Sum.inl.inj h]
            · rw [R] at h; exact absurd h (by simp)
        · rw [if_pos z] at g2
          have R := g2 _ rfl
          refine ⟨_, rfl, fu4, fun s' h => ?_, fun cs h => ?_⟩
          · rw [R] at h; exact absurd h (by simp)
          · rw [R] at h
            have h := Sum.inr.inj h
            subst h
            have el : (acc ++ [r.1]).length = n + 1 := by simp [hacc]
            exact ⟨rfl, by rw [el]; exact e34, fun m hm => rows4 m (by omega)⟩
  have f0 : ∀ (x1 x2 x3 x4 x5 : Int32), mFr fS8 w (mPI (mPI (mPI (mPI (mPI w 22 7 x1) 22 8 x2) 22 9 x3) 22 3 x4) 22 5 x5) := fun x1 x2 x3 x4 x5 => ((((mFr.pi (S := fS8) (Or.inl (by omega))).tr (mFr.pi (S := fS8) (Or.inl (by omega)))).tr (mFr.pi (S := fS8) (Or.inl (by omega)))).tr (mFr.pi (S := fS8) (Or.inl (by omega)))).tr (mFr.pi (S := fS8) (Or.inl (by omega)))
  refine loop 13 0 Y.1 0 [] _ (by omega) rfl (f0 _ _ _ _ _) (by omega) (mPI_at _ _ _ _) ?_ ⟨?_, ?_, ?_⟩ hk.1 hk.2.1 hk.2.2.1 (fun m hm => absurd hm (by omega)) (fun s h => h) (fun cs h => h)
  · rw [mPI_col (by omega), mPI_at]; rfl
  · rw [mPI_col (by omega), mPI_col (by omega), mPI_col (by omega), mPI_col (by omega), mPI_at]
  · rw [mPI_col (by omega), mPI_col (by omega), mPI_col (by omega), mPI_at]
  · rw [mPI_col (by omega), mPI_col (by omega), mPI_at]
end X5b
