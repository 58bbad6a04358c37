/-! ===== THE REFERENCE'S CONSTRUCTOR ===== -/
theorem mRO_congr {E E' : mEnv} {A : Nat → Prop} {U : State} {H : Heap} (he : ∀ i, 76 ≤ i → E'.1 i = E.1 i) (h : mRO E A U H) : mRO E' A U H := by
  have e1 : (fun k => E'.1 (100 + k)) = fun k => E.1 (100 + k) := funext fun k => he _ (by omega)
  have e2 : (fun k => E'.1 (120 + k)) = fun k => E.1 (120 + k) := funext fun k => he _ (by omega)
  unfold mRO at h ⊢
  rw [e1, e2, he 140 (by omega), he 141 (by omega), he 142 (by omega), he 143 (by omega)]
  exact ⟨fun k hk => by rw [he (100 + k) (by omega)]; exact h.1 k hk, h.2⟩
def nExR (V : nV) (ro : Nat → Nat) (ws0 : va_W) : Nat → State → Prop := fun sz U => mRO (ro, V.1, V.2) (va_A ws0 sz) U U.heap
theorem nRo_of {X : mX} {V : nV} {D : mD} {ws0 : va_W} {B : va_W → Prop} {ro ad : Nat → Nat} (F : nFin X V D ws0 B) (hE : nEx X (nExR V ro ws0)) (h : ∀ i, 76 ≤ i → ad i = ro i) : nRo X (ad, V.1, V.2) := by
  obtain ⟨p, l, e, R, s, m, args, below, meth, c, k0, n0, Q, A⟩ := X
  obtain ⟨rfl, f2, f3, rfl⟩ := F
  exact mRO_congr (E := (ro, V.1, V.2)) h hE
def y0 : mY := ((0, 0, 0), (fun _ _ => 0), (fun _ _ => 0), (fun _ _ => 0))
def z0 : mZ := (y0, (0, 0, 0), (0, fun _ => (0, 0, 0)), (fun _ => none), (0, fun _ => 0), (0, (fun _ => 0), (fun _ => 0)))
theorem y0_ok : yOK y0 := ⟨⟨by decide, by decide, by decide, fun f h => absurd h (Nat.not_lt_zero f), fun f h => absurd h (Nat.not_lt_zero f), fun f h => absurd h (Nat.not_lt_zero f)⟩, fun f h => absurd h (Nat.not_lt_zero f)⟩
theorem y0_M : cyM y0 n0 := ⟨rfl, rfl, rfl, fun f k h => absurd h (Nat.not_lt_zero f), fun f k h => absurd h (Nat.not_lt_zero f), fun f k h => absurd h (Nat.not_lt_zero f)⟩
theorem z0_6b : q_6b 0 := fun j _ _ => by unfold q_g; exact BitVec.getLsbD_zero
theorem z0_ok : zOK z0 := ⟨y0_ok.1, y0_ok.2, ⟨z0_6b, ⟨0, by decide, rfl⟩, q_ok_0⟩, ⟨by decide, fun i h => absurd h (Nat.not_lt_zero i)⟩, (fun k x _ h => nomatch (show (none : Option mT) = some x from h)), ⟨by decide, fun i h => absurd h (Nat.not_lt_zero i)⟩, ⟨by decide, fun i h => absurd h (Nat.not_lt_zero i)⟩⟩
theorem z0_X {u : mW} (f : mFr bgS n0 u) : zX z0 u := by
  have e : ∀ c k, ¬ bgS c k → u.1 c k = 0 ∧ u.2 c k = 0 := f
  have e1 : ∀ c k, c < 60 → u.1 c k = 0 := fun c k h => (e c k (by unfold bgS; omega)).1
  have e2 : ∀ c k, c < 60 → u.2 c k = 0 := fun c k h => (e c k (by unfold bgS; omega)).2
  refine ⟨⟨⟨e1 1 0 (by omega), e1 1 1 (by omega), e1 1 2 (by omega), fun f k h => absurd h (Nat.not_lt_zero f), fun f k h => absurd h (Nat.not_lt_zero f), fun f k h => absurd h (Nat.not_lt_zero f), e1 1 4 (by omega)⟩, e1 1 3 (by omega)⟩, ⟨⟨e1 39 0 (by omega), e1 39 1 (by omega), e2 39 3 (by omega)⟩, ⟨e1 39 2 (by omega), 0, by omega, e1 39 5 (by omega), fun i h => absurd h (Nat.not_lt_zero i)⟩, e1 39 4 (by omega), fun k y _ h => ?_⟩, ⟨e1 22 1 (by omega), fun i h => absurd h (Nat.not_lt_zero i)⟩, ⟨e1 43 0 (by omega), fun i h => absurd h (Nat.not_lt_zero i)⟩⟩
  have h : (none : Option mT) = some y := h
  cases h
theorem z0_Mo {u : mW} (f : mFr bgS n0 u) (h1 : snT (u.1 66) (y_told y0, 0, 0)) (h2 : u.1 71 0 = 0) (h3 : u.1 71 1 = 0) (h4 : u.1 60 26 = 0) (h5 : u.1 60 28 = 0) : zM z0 u := by
  refine ⟨y0_M.fr f (fun c k q => by unfold bgS at q; unfold mCy; omega), h1, ⟨h4, fun i h => absurd h (Nat.not_lt_zero i)⟩, fun k hk => ⟨?_, fun y h => ?_⟩, ⟨(f 60 6 (by unfold bgS; omega)).1, fun i h => absurd h (Nat.not_lt_zero i)⟩, ⟨h5, fun i h => absurd h (Nat.not_lt_zero i)⟩⟩
  · match k, hk with
    | 0, _ => exact h2
    | 1, _ => exact h3
    | k + 2, h => omega
  · have h : (none : Option mT) = some y := h
    cases h
def bX9 (V : nV) (b a0 : Nat) (ro : Nat → Nat) (wz : va_W) : Prop := ∃ (ad : Nat → Nat) (u : mW), wz = mWs (ad, V.1, V.2) u ∧ zI z0 u ∧ ad 0 = a0 ∧ ad 60 = b ∧ ∀ i, 76 ≤ i → ad i = ro i
theorem lko_9 : Cond.methodLink "NeverBelievedModel" 1 objectInit ∈ mTb := mTm 828 (by decide +kernel) (by decide +kernel)
theorem nf_9_1 : nFld "NeverBelievedModel" 7 8 1 (.array .int) := ⟨TX9, 39, tyX9, rfl, by decide, uX9, mTm 834 (by decide +kernel) (by decide +kernel), tyX9_ok, nmX9, rfl, rfl, rfl⟩
theorem nf_9_3 : nFld "NeverBelievedModel" 13 8 3 (.array .int) := ⟨TX9, 39, tyX9, rfl, by decide, uX9, mTm 836 (by decide +kernel) (by decide +kernel), tyX9_ok, nmX9, rfl, rfl, rfl⟩
theorem nf_9_5 : nFld "NeverBelievedModel" 16 8 5 (.array .int) := ⟨TX9, 39, tyX9, rfl, by decide, uX9, mTm 838 (by decide +kernel) (by decide +kernel), tyX9_ok, nmX9, rfl, rfl, rfl⟩
theorem nf_9_7 : nFld "NeverBelievedModel" 19 8 7 (.array .int) := ⟨TX9, 39, tyX9, rfl, by decide, uX9, mTm 840 (by decide +kernel) (by decide +kernel), tyX9_ok, nmX9, rfl, rfl, rfl⟩
theorem nf_9_18 : nFld "NeverBelievedModel" 22 8 18 (.array .int) := ⟨TX9, 39, tyX9, rfl, by decide, uX9, mTm 851 (by decide +kernel) (by decide +kernel), tyX9_ok, nmX9, rfl, rfl, rfl⟩
theorem nf_9_19 : nFld "NeverBelievedModel" 25 8 19 (.array .int) := ⟨TX9, 39, tyX9, rfl, by decide, uX9, mTm 852 (by decide +kernel) (by decide +kernel), tyX9_ok, nmX9, rfl, rfl, rfl⟩
theorem nf_9_20 : nFld "NeverBelievedModel" 28 8 20 (.array .int) := ⟨TX9, 39, tyX9, rfl, by decide, uX9, mTm 853 (by decide +kernel) (by decide +kernel), tyX9_ok, nmX9, rfl, rfl, rfl⟩
theorem nf_9_21 : nFld "NeverBelievedModel" 31 8 21 (.array .int) := ⟨TX9, 39, tyX9, rfl, by decide, uX9, mTm 854 (by decide +kernel) (by decide +kernel), tyX9_ok, nmX9, rfl, rfl, rfl⟩
theorem nf_9_22 : nFld "NeverBelievedModel" 34 8 22 (.array .int) := ⟨TX9, 39, tyX9, rfl, by decide, uX9, mTm 855 (by decide +kernel) (by decide +kernel), tyX9_ok, nmX9, rfl, rfl, rfl⟩
theorem nf_9_23 : nFld "NeverBelievedModel" 37 8 23 (.array .int) := ⟨TX9, 39, tyX9, rfl, by decide, uX9, mTm 856 (by decide +kernel) (by decide +kernel), tyX9_ok, nmX9, rfl, rfl, rfl⟩
theorem nf_9_24 : nFld "NeverBelievedModel" 40 8 24 (.array .boolean) := ⟨TX9, 39, tyX9, rfl, by decide, uX9, mTm 857 (by decide +kernel) (by decide +kernel), tyX9_ok, nmX9, rfl, rfl, rfl⟩
theorem nf_9_25 : nFld "NeverBelievedModel" 44 8 25 (.array .int) := ⟨TX9, 39, tyX9, rfl, by decide, uX9, mTm 858 (by decide +kernel) (by decide +kernel), tyX9_ok, nmX9, rfl, rfl, rfl⟩
theorem nf_9_27 : nFld "NeverBelievedModel" 47 8 27 (.array .int) := ⟨TX9, 39, tyX9, rfl, by decide, uX9, mTm 860 (by decide +kernel) (by decide +kernel), tyX9_ok, nmX9, rfl, rfl, rfl⟩
theorem nf_9_37 : nFld "NeverBelievedModel" 50 8 37 (.array .boolean) := ⟨TX9, 39, tyX9, rfl, by decide, uX9, mTm 870 (by decide +kernel) (by decide +kernel), tyX9_ok, nmX9, rfl, rfl, rfl⟩
theorem nf_9_38 : nFld "NeverBelievedModel" 53 8 38 (.array .int) := ⟨TX9, 39, tyX9, rfl, by decide, uX9, mTm 871 (by decide +kernel) (by decide +kernel), tyX9_ok, nmX9, rfl, rfl, rfl⟩
def nAd (ad0 ro : Nat → Nat) (qs : List Nat) : Nat → Nat := fun i => if i < 60 then ad0 i else if i < 76 then qs.getD (i - 60) 0 else ro i
def nPi (i : Nat) : Nat := if i < 60 then i + 1 else if i = 60 then 0 else i
theorem nPi_inj {i j : Nat} (e : nPi i = nPi j) : i = j := by
  unfold nPi at e
  split at e <;> split at e <;> (try split at e) <;> (try split at e) <;> omega
theorem nPi_lo {i : Nat} (h : i < 60) : nPi i = i + 1 := if_pos h
theorem nAd_ex (ad0 ro : Nat → Nat) (b q1 q2 q3 q4 q5 q6 q7 q8 q9 q10 q11 q12 q13 q14 q15 : Nat) : ∃ ad : Nat → Nat, (∀ i, i < 60 → ad i = ad0 i) ∧ (ad 60 = b ∧ ad 61 = q1 ∧ ad 62 = q2 ∧ ad 63 = q3 ∧ ad 64 = q4 ∧ ad 65 = q5 ∧ ad 66 = q6 ∧ ad 67 = q7 ∧ ad 68 = q8 ∧ ad 69 = q9 ∧ ad 70 = q10 ∧ ad 71 = q11 ∧ ad 72 = q12 ∧ ad 73 = q13 ∧ ad 74 = q14 ∧ ad 75 = q15) ∧ ∀ i, 76 ≤ i → ad i = ro i :=
  ⟨nAd ad0 ro [b, q1, q2, q3, q4, q5, q6, q7, q8, q9, q10, q11, q12, q13, q14, q15], fun i h => if_pos h, ⟨rfl, rfl, rfl, rfl, rfl, rfl, rfl, rfl, rfl, rfl, rfl, rfl, rfl, rfl, rfl, rfl⟩, fun i h => by unfold nAd; rw [if_neg (by omega), if_neg (by omega)]⟩
def mGo (ad : Nat → Nat) (w : mW) (i : Nat) : Nat → List (Nat × Nat) → List Value
  | _, [] => []
  | k, f :: r => mFv ad w i k f :: mGo ad w i (k + 1) r
theorem mGo_eq (ad : Nat → Nat) (w : mW) (i : Nat) : ∀ (fs : List (Nat × Nat)) (k : Nat), fs.mapIdx (fun j f => mFv ad w i (k + j) f) = mGo ad w i k fs
  | [], _ => rfl
  | f :: r, k => by
    rw [List.mapIdx_cons]
    have h := mGo_eq ad w i r (k + 1)
    have e : (fun j f => mFv ad w i (k + 1 + j) f) = fun j f => mFv ad w i (k + (j + 1)) f := by
      funext j f
      rw [show k + 1 + j = k + (j + 1) by omega]
    rw [e] at h
    rw [h]
    rfl
theorem mFs_go (ad : Nat → Nat) (w : mW) (i : Nat) (fs : List (Nat × Nat)) : mFs ad w i fs = mGo ad w i 0 fs := by
  rw [← mGo_eq ad w i fs 0]
  unfold mFs
  congr 1
  funext j f
  rw [Nat.zero_add]
theorem m60 {ad : Nat → Nat} {V : nV} : mE (ad, V.1, V.2) n0 60 (.inr (8, [(0, 0), (2, 61), (0, 0), (2, 62), (0, 0), (2, 63), (0, 0), (2, 64), (0, 0), (0, 0), (1, 0), (0, 0), (0, 0), (0, 0), (0, 0), (0, 0), (0, 0), (0, 0), (2, 65), (2, 66), (2, 67), (2, 68), (2, 69), (2, 70), (2, 71), (2, 72), (0, 0), (2, 73), (0, 0), (0, 0), (0, 0), (0, 0), (0, 0), (0, 0), (0, 0), (0, 0), (0, 0), (2, 74), (2, 75)])) = .inr (8, [.int 0, .ref (ad 61), .int 0, .ref (ad 62), .int 0, .ref (ad 63), .int 0, .ref (ad 64), .int 0, .int 0, .long 0, .int 0, .int 0, .int 0, .int 0, .int 0, .int 0, .int 0, .ref (ad 65), .ref (ad 66), .ref (ad 67), .ref (ad 68), .ref (ad 69), .ref (ad 70), .ref (ad 71), .ref (ad 72), .int 0, .ref (ad 73), .int 0, .int 0, .int 0, .int 0, .int 0, .int 0, .int 0, .int 0, .int 0, .ref (ad 74), .ref (ad 75)]) := by
  show (Sum.inr (8, mFs ad n0 60 [(0, 0), (2, 61), (0, 0), (2, 62), (0, 0), (2, 63), (0, 0), (2, 64), (0, 0), (0, 0), (1, 0), (0, 0), (0, 0), (0, 0), (0, 0), (0, 0), (0, 0), (0, 0), (2, 65), (2, 66), (2, 67), (2, 68), (2, 69), (2, 70), (2, 71), (2, 72), (0, 0), (2, 73), (0, 0), (0, 0), (0, 0), (0, 0), (0, 0), (0, 0), (0, 0), (0, 0), (0, 0), (2, 74), (2, 75)]) : va_E) = _
  rw [mFs_go]
  rfl
set_option maxHeartbeats 4000000 in
theorem k9_mid {X : mX} {V : nV} {b a0 k n : Nat} {w60 : va_W} {ro : Nat → Nat} (h60 : b60 V a0 w60) (C : nCtx X V MX9_init) (F : nFin X V MX9_init ([(b, .inr (8, df_9))] ++ w60) (bX9 V b a0 ro)) (hE : nEx X (nExR V ro ([(b, .inr (8, df_9))] ++ w60))) (q1 q2 q3 q4 q5 q6 q7 q8 q9 q10 q11 q12 q13 q14 q15 : Nat) (hk : k ≤ 15) (hn : n ≤ 872) : nG X V MX9_init k n 125 (mLa [.ref b]) [] ((b, .inr (8, [.int 0, .ref q1, .int 0, .ref q2, .int 0, .ref q3, .int 0, .ref q4, .int 0, .int 0, .long 0, .int 0, .int 0, .int 0, .int 0, .int 0, .int 0, .int 0, .ref q5, .ref q6, .ref q7, .ref q8, .ref q9, .ref q10, .ref q11, .ref q12, .int 0, .ref q13, .int 0, .int 0, .int 0, .int 0, .int 0, .int 0, .int 0, .int 0, .int 0, .ref q14, .ref q15])) :: (w60 ++ [(q1, .inl (V.2 0, 18, .inl (fun _ => 0))), (q2, .inl (V.2 0, 30, .inl (fun _ => 0))), (q3, .inl (V.2 0, 24, .inl (fun _ => 0))), (q4, .inl (V.2 0, 160, .inl (fun _ => 0))), (q5, .inl (V.2 0, 84, .inl (fun _ => 0))), (q6, .inl (V.2 0, 32, .inl (fun _ => 0))), (q7, .inl (V.2 0, 32, .inl (fun _ => 0))), (q8, .inl (V.2 0, 32, .inl (fun _ => 0))), (q9, .inl (V.2 0, 32, .inl (fun _ => 0))), (q10, .inl (V.2 0, 64, .inl (fun _ => 0))), (q11, .inl (V.2 1, 2, .inl (fun _ => 0))), (q12, .inl (V.2 0, 256, .inl (fun _ => 0))), (q13, .inl (V.2 0, 10, .inl (fun _ => 0))), (q14, .inl (V.2 1, 64, .inl (fun _ => 0))), (q15, .inl (V.2 0, 32, .inl (fun _ => 0)))])) := by
  obtain ⟨ad0, hlen, ha0, hcell⟩ := h60
  have hT : ∀ j : Nat, (((b, .inr (8, [.int 0, .ref q1, .int 0, .ref q2, .int 0, .ref q3, .int 0, .ref q4, .int 0, .int 0, .long 0, .int 0, .int 0, .int 0, .int 0, .int 0, .int 0, .int 0, .ref q5, .ref q6, .ref q7, .ref q8, .ref q9, .ref q10, .ref q11, .ref q12, .int 0, .ref q13, .int 0, .int 0, .int 0, .int 0, .int 0, .int 0, .int 0, .int 0, .int 0, .ref q14, .ref q15])) :: (w60 ++ [(q1, .inl (V.2 0, 18, .inl (fun _ => 0))), (q2, .inl (V.2 0, 30, .inl (fun _ => 0))), (q3, .inl (V.2 0, 24, .inl (fun _ => 0))), (q4, .inl (V.2 0, 160, .inl (fun _ => 0))), (q5, .inl (V.2 0, 84, .inl (fun _ => 0))), (q6, .inl (V.2 0, 32, .inl (fun _ => 0))), (q7, .inl (V.2 0, 32, .inl (fun _ => 0))), (q8, .inl (V.2 0, 32, .inl (fun _ => 0))), (q9, .inl (V.2 0, 32, .inl (fun _ => 0))), (q10, .inl (V.2 0, 64, .inl (fun _ => 0))), (q11, .inl (V.2 1, 2, .inl (fun _ => 0))), (q12, .inl (V.2 0, 256, .inl (fun _ => 0))), (q13, .inl (V.2 0, 10, .inl (fun _ => 0))), (q14, .inl (V.2 1, 64, .inl (fun _ => 0))), (q15, .inl (V.2 0, 32, .inl (fun _ => 0)))])) : va_W)[61 + j]? = ([(q1, .inl (V.2 0, 18, .inl (fun _ => 0))), (q2, .inl (V.2 0, 30, .inl (fun _ => 0))), (q3, .inl (V.2 0, 24, .inl (fun _ => 0))), (q4, .inl (V.2 0, 160, .inl (fun _ => 0))), (q5, .inl (V.2 0, 84, .inl (fun _ => 0))), (q6, .inl (V.2 0, 32, .inl (fun _ => 0))), (q7, .inl (V.2 0, 32, .inl (fun _ => 0))), (q8, .inl (V.2 0, 32, .inl (fun _ => 0))), (q9, .inl (V.2 0, 32, .inl (fun _ => 0))), (q10, .inl (V.2 0, 64, .inl (fun _ => 0))), (q11, .inl (V.2 1, 2, .inl (fun _ => 0))), (q12, .inl (V.2 0, 256, .inl (fun _ => 0))), (q13, .inl (V.2 0, 10, .inl (fun _ => 0))), (q14, .inl (V.2 1, 64, .inl (fun _ => 0))), (q15, .inl (V.2 0, 32, .inl (fun _ => 0)))] : va_W)[j]? := by
    intro j
    rw [show 61 + j = 60 + j + 1 by omega, List.getElem?_cons_succ, List.getElem?_append_right (by omega), hlen]
    congr 1
    omega
  have hW : ∀ j : Nat, j < 60 → (((b, .inr (8, [.int 0, .ref q1, .int 0, .ref q2, .int 0, .ref q3, .int 0, .ref q4, .int 0, .int 0, .long 0, .int 0, .int 0, .int 0, .int 0, .int 0, .int 0, .int 0, .ref q5, .ref q6, .ref q7, .ref q8, .ref q9, .ref q10, .ref q11, .ref q12, .int 0, .ref q13, .int 0, .int 0, .int 0, .int 0, .int 0, .int 0, .int 0, .int 0, .int 0, .ref q14, .ref q15])) :: (w60 ++ [(q1, .inl (V.2 0, 18, .inl (fun _ => 0))), (q2, .inl (V.2 0, 30, .inl (fun _ => 0))), (q3, .inl (V.2 0, 24, .inl (fun _ => 0))), (q4, .inl (V.2 0, 160, .inl (fun _ => 0))), (q5, .inl (V.2 0, 84, .inl (fun _ => 0))), (q6, .inl (V.2 0, 32, .inl (fun _ => 0))), (q7, .inl (V.2 0, 32, .inl (fun _ => 0))), (q8, .inl (V.2 0, 32, .inl (fun _ => 0))), (q9, .inl (V.2 0, 32, .inl (fun _ => 0))), (q10, .inl (V.2 0, 64, .inl (fun _ => 0))), (q11, .inl (V.2 1, 2, .inl (fun _ => 0))), (q12, .inl (V.2 0, 256, .inl (fun _ => 0))), (q13, .inl (V.2 0, 10, .inl (fun _ => 0))), (q14, .inl (V.2 1, 64, .inl (fun _ => 0))), (q15, .inl (V.2 0, 32, .inl (fun _ => 0)))])) : va_W)[j + 1]? = w60[j]? := by
    intro j hj
    rw [List.getElem?_cons_succ, List.getElem?_append_left (by omega)]
  obtain ⟨ad, hlo, ⟨a60, a61, a62, a63, a64, a65, a66, a67, a68, a69, a70, a71, a72, a73, a74, a75⟩, hro⟩ := nAd_ex ad0 ro b q1 q2 q3 q4 q5 q6 q7 q8 q9 q10 q11 q12 q13 q14 q15
  refine nG_toM (ad := ad) (w := n0) (lv' := [.ref 60]) (st' := []) nPi (fun i j _ _ e => nPi_inj e) ?_ rfl ?_ (fun hI hA => ?_)
  · intro i c hi hc
    by_cases h : i < 60
    · obtain ⟨e, h1, h2⟩ := hcell i c h hc
      refine ⟨e, ?_, ?_⟩
      · rw [hlo i h, nPi_lo h, hW i h]
        exact h1
      · rw [mE_ad (ad0 := ad0) (nRef60 i c h hc) hlo]
        exact h2
    · have hi : i < 76 := hi
      clear hcell hW
      rcases (show i = 60 ∨ i = 61 ∨ i = 62 ∨ i = 63 ∨ i = 64 ∨ i = 65 ∨ i = 66 ∨ i = 67 ∨ i = 68 ∨ i = 69 ∨ i = 70 ∨ i = 71 ∨ i = 72 ∨ i = 73 ∨ i = 74 ∨ i = 75 by omega) with rfl | rfl | rfl | rfl | rfl | rfl | rfl | rfl | rfl | rfl | rfl | rfl | rfl | rfl | rfl | rfl
      · obtain rfl := Option.some.inj (hc.symm.trans sh60)
        refine ⟨.inr (8, [.int 0, .ref q1, .int 0, .ref q2, .int 0, .ref q3, .int 0, .ref q4, .int 0, .int 0, .long 0, .int 0, .int 0, .int 0, .int 0, .int 0, .int 0, .int 0, .ref q5, .ref q6, .ref q7, .ref q8, .ref q9, .ref q10, .ref q11, .ref q12, .int 0, .ref q13, .int 0, .int 0, .int 0, .int 0, .int 0, .int 0, .int 0, .int 0, .int 0, .ref q14, .ref q15]), ?_, Or.inl ?_⟩
        · rw [a60]
          rfl
        · rw [m60, a61, a62, a63, a64, a65, a66, a67, a68, a69, a70, a71, a72, a73, a74, a75]
      · obtain rfl := Option.some.inj (hc.symm.trans sh61)
        refine ⟨.inl (V.2 0, 18, .inl (fun _ => 0)), ?_, Or.inl rfl⟩
        rw [a61]
        exact hT 0
      · obtain rfl := Option.some.inj (hc.symm.trans sh62)
        refine ⟨.inl (V.2 0, 30, .inl (fun _ => 0)), ?_, Or.inl rfl⟩
        rw [a62]
        exact hT 1
      · obtain rfl := Option.some.inj (hc.symm.trans sh63)
        refine ⟨.inl (V.2 0, 24, .inl (fun _ => 0)), ?_, Or.inl rfl⟩
        rw [a63]
        exact hT 2
      · obtain rfl := Option.some.inj (hc.symm.trans sh64)
        refine ⟨.inl (V.2 0, 160, .inl (fun _ => 0)), ?_, Or.inl rfl⟩
        rw [a64]
        exact hT 3
      · obtain rfl := Option.some.inj (hc.symm.trans sh65)
        refine ⟨.inl (V.2 0, 84, .inl (fun _ => 0)), ?_, Or.inl rfl⟩
        rw [a65]
        exact hT 4
      · obtain rfl := Option.some.inj (hc.symm.trans sh66)
        refine ⟨.inl (V.2 0, 32, .inl (fun _ => 0)), ?_, Or.inl rfl⟩
        rw [a66]
        exact hT 5
      · obtain rfl := Option.some.inj (hc.symm.trans sh67)
        refine ⟨.inl (V.2 0, 32, .inl (fun _ => 0)), ?_, Or.inl rfl⟩
        rw [a67]
        exact hT 6
      · obtain rfl := Option.some.inj (hc.symm.trans sh68)
        refine ⟨.inl (V.2 0, 32, .inl (fun _ => 0)), ?_, Or.inl rfl⟩
        rw [a68]
        exact hT 7
      · obtain rfl := Option.some.inj (hc.symm.trans sh69)
        refine ⟨.inl (V.2 0, 32, .inl (fun _ => 0)), ?_, Or.inl rfl⟩
        rw [a69]
        exact hT 8
      · obtain rfl := Option.some.inj (hc.symm.trans sh70)
        refine ⟨.inl (V.2 0, 64, .inl (fun _ => 0)), ?_, Or.inl rfl⟩
        rw [a70]
        exact hT 9
      · obtain rfl := Option.some.inj (hc.symm.trans sh71)
        refine ⟨.inl (V.2 1, 2, .inl (fun _ => 0)), ?_, Or.inl rfl⟩
        rw [a71]
        exact hT 10
      · obtain rfl := Option.some.inj (hc.symm.trans sh72)
        refine ⟨.inl (V.2 0, 256, .inl (fun _ => 0)), ?_, Or.inl rfl⟩
        rw [a72]
        exact hT 11
      · obtain rfl := Option.some.inj (hc.symm.trans sh73)
        refine ⟨.inl (V.2 0, 10, .inl (fun _ => 0)), ?_, Or.inl rfl⟩
        rw [a73]
        exact hT 12
      · obtain rfl := Option.some.inj (hc.symm.trans sh74)
        refine ⟨.inl (V.2 1, 64, .inl (fun _ => 0)), ?_, Or.inl rfl⟩
        rw [a74]
        exact hT 13
      · obtain rfl := Option.some.inj (hc.symm.trans sh75)
        refine ⟨.inl (V.2 0, 32, .inl (fun _ => 0)), ?_, Or.inl rfl⟩
        rw [a75]
        exact hT 14
  · intro k v hk hv
    match k, hk with
    | 0, hk => cases hk; show some (Value.ref b) = some (Value.ref (ad 60)); rw [a60]
    | k + 1, hk => simp at hk
  have C' := C.m (k := k) (n := n) hI hA (nRo_of F hE hro) hk hn
  refine mG_aload_n C' dX9_init_125 rfl rfl ?_
  refine mG_Vv (Z := MX9_begin) (as := []) (rest := []) C' dX9_init_126 (mTm 829 (by decide +kernel) (by decide +kernel)) zX9_begin ⟨(by exact Nat.le_of_ble_eq_true rfl), (by exact Nat.le_of_ble_eq_true rfl)⟩ sh60 rfl rfl (by exact Nat.le_of_ble_eq_true rfl) rfl (k_X9_begin y0_M y0_ok) (fun u K => ?_)
  obtain ⟨f, g1, g2, g3, g4, g5⟩ := K
  exact mG_nret C F hI hA dX9_init_129 hk hn ⟨ad, u, rfl, ⟨z0_ok, z0_X f, z0_Mo f g1 g2 g3 g4 g5⟩, (hlo 0 (by omega)).trans ha0, a60, hro⟩
set_option maxHeartbeats 4000000 in
theorem k_X9_init {V : nV} {b a0 : Nat} {w60 : va_W} {ro : Nat → Nat} (h60 : b60 V a0 w60) : nM V MX9_init (nExR V ro ([(b, .inr (8, df_9))] ++ w60)) [.ref b] ([(b, .inr (8, df_9))] ++ w60) (bX9 V b a0 ro) := by
  refine nM_intro (by decide) (by exact Nat.le_of_ble_eq_true rfl) rfl (fun X C F hE => ?_)
  refine nG_aload_n C dX9_init_0 rfl rfl ?_
  refine nG_obj C dX9_init_1 lko_9 to_in to_co (by exact Nat.le_of_ble_eq_true rfl) (by exact Nat.le_of_ble_eq_true rfl) ?_
  refine nG_aload_n C dX9_init_4 rfl rfl ?_
  refine nG_bipush (v := 18) C dX9_init_5 (by decide) ?_
  refine nG_newI (N := 18) C dX9_init_7 ta_int (by decide) (by decide) (by exact Nat.le_of_ble_eq_true rfl) (by exact Nat.le_of_ble_eq_true rfl) (by exact Nat.le_of_ble_eq_true rfl) (fun q1 => ?_)
  refine nG_putF (q0 := 0) (a := b) (r := q1) (ws' := ([(b, .inr (8, [.int 0, .ref q1, .int 0, .null, .int 0, .null, .int 0, .null, .int 0, .int 0, .long 0, .int 0, .int 0, .int 0, .int 0, .int 0, .int 0, .int 0, .null, .null, .null, .null, .null, .null, .null, .null, .int 0, .null, .int 0, .int 0, .int 0, .int 0, .int 0, .int 0, .int 0, .int 0, .int 0, .null, .null]))] : va_W) ++ w60 ++ ([(q1, .inl (V.2 0, 18, .inl (fun _ => 0)))] : va_W)) C dX9_init_9 rfl nf_9_1 rfl (by exact Nat.le_of_ble_eq_true rfl) rfl rfl rfl ?_
  refine nG_aload_n C dX9_init_12 rfl rfl ?_
  refine nG_bipush (v := 30) C dX9_init_13 (by decide) ?_
  refine nG_newI (N := 30) C dX9_init_15 ta_int (by decide) (by decide) (by exact Nat.le_of_ble_eq_true rfl) (by exact Nat.le_of_ble_eq_true rfl) (by exact Nat.le_of_ble_eq_true rfl) (fun q2 => ?_)
  refine nG_putF (q0 := 0) (a := b) (r := q2) (ws' := ([(b, .inr (8, [.int 0, .ref q1, .int 0, .ref q2, .int 0, .null, .int 0, .null, .int 0, .int 0, .long 0, .int 0, .int 0, .int 0, .int 0, .int 0, .int 0, .int 0, .null, .null, .null, .null, .null, .null, .null, .null, .int 0, .null, .int 0, .int 0, .int 0, .int 0, .int 0, .int 0, .int 0, .int 0, .int 0, .null, .null]))] : va_W) ++ w60 ++ ([(q1, .inl (V.2 0, 18, .inl (fun _ => 0)))] : va_W) ++ ([(q2, .inl (V.2 0, 30, .inl (fun _ => 0)))] : va_W)) C dX9_init_17 rfl nf_9_3 rfl (by exact Nat.le_of_ble_eq_true rfl) rfl rfl rfl ?_
  refine nG_aload_n C dX9_init_20 rfl rfl ?_
  refine nG_bipush (v := 24) C dX9_init_21 (by decide) ?_
  refine nG_newI (N := 24) C dX9_init_23 ta_int (by decide) (by decide) (by exact Nat.le_of_ble_eq_true rfl) (by exact Nat.le_of_ble_eq_true rfl) (by exact Nat.le_of_ble_eq_true rfl) (fun q3 => ?_)
  refine nG_putF (q0 := 0) (a := b) (r := q3) (ws' := ([(b, .inr (8, [.int 0, .ref q1, .int 0, .ref q2, .int 0, .ref q3, .int 0, .null, .int 0, .int 0, .long 0, .int 0, .int 0, .int 0, .int 0, .int 0, .int 0, .int 0, .null, .null, .null, .null, .null, .null, .null, .null, .int 0, .null, .int 0, .int 0, .int 0, .int 0, .int 0, .int 0, .int 0, .int 0, .int 0, .null, .null]))] : va_W) ++ w60 ++ ([(q1, .inl (V.2 0, 18, .inl (fun _ => 0)))] : va_W) ++ ([(q2, .inl (V.2 0, 30, .inl (fun _ => 0)))] : va_W) ++ ([(q3, .inl (V.2 0, 24, .inl (fun _ => 0)))] : va_W)) C dX9_init_25 rfl nf_9_5 rfl (by exact Nat.le_of_ble_eq_true rfl) rfl rfl rfl ?_
  refine nG_aload_n C dX9_init_28 rfl rfl ?_
  refine nG_sipush (v := 160) C dX9_init_29 (by decide) ?_
  refine nG_newI (N := 160) C dX9_init_32 ta_int (by decide) (by decide) (by exact Nat.le_of_ble_eq_true rfl) (by exact Nat.le_of_ble_eq_true rfl) (by exact Nat.le_of_ble_eq_true rfl) (fun q4 => ?_)
  refine nG_putF (q0 := 0) (a := b) (r := q4) (ws' := ([(b, .inr (8, [.int 0, .ref q1, .int 0, .ref q2, .int 0, .ref q3, .int 0, .ref q4, .int 0, .int 0, .long 0, .int 0, .int 0, .int 0, .int 0, .int 0, .int 0, .int 0, .null, .null, .null, .null, .null, .null, .null, .null, .int 0, .null, .int 0, .int 0, .int 0, .int 0, .int 0, .int 0, .int 0, .int 0, .int 0, .null, .null]))] : va_W) ++ w60 ++ ([(q1, .inl (V.2 0, 18, .inl (fun _ => 0)))] : va_W) ++ ([(q2, .inl (V.2 0, 30, .inl (fun _ => 0)))] : va_W) ++ ([(q3, .inl (V.2 0, 24, .inl (fun _ => 0)))] : va_W) ++ ([(q4, .inl (V.2 0, 160, .inl (fun _ => 0)))] : va_W)) C dX9_init_34 rfl nf_9_7 rfl (by exact Nat.le_of_ble_eq_true rfl) rfl rfl rfl ?_
  refine nG_aload_n C dX9_init_37 rfl rfl ?_
  refine nG_bipush (v := 84) C dX9_init_38 (by decide) ?_
  refine nG_newI (N := 84) C dX9_init_40 ta_int (by decide) (by decide) (by exact Nat.le_of_ble_eq_true rfl) (by exact Nat.le_of_ble_eq_true rfl) (by exact Nat.le_of_ble_eq_true rfl) (fun q5 => ?_)
  refine nG_putF (q0 := 0) (a := b) (r := q5) (ws' := ([(b, .inr (8, [.int 0, .ref q1, .int 0, .ref q2, .int 0, .ref q3, .int 0, .ref q4, .int 0, .int 0, .long 0, .int 0, .int 0, .int 0, .int 0, .int 0, .int 0, .int 0, .ref q5, .null, .null, .null, .null, .null, .null, .null, .int 0, .null, .int 0, .int 0, .int 0, .int 0, .int 0, .int 0, .int 0, .int 0, .int 0, .null, .null]))] : va_W) ++ w60 ++ ([(q1, .inl (V.2 0, 18, .inl (fun _ => 0)))] : va_W) ++ ([(q2, .inl (V.2 0, 30, .inl (fun _ => 0)))] : va_W) ++ ([(q3, .inl (V.2 0, 24, .inl (fun _ => 0)))] : va_W) ++ ([(q4, .inl (V.2 0, 160, .inl (fun _ => 0)))] : va_W) ++ ([(q5, .inl (V.2 0, 84, .inl (fun _ => 0)))] : va_W)) C dX9_init_42 rfl nf_9_18 rfl (by exact Nat.le_of_ble_eq_true rfl) rfl rfl rfl ?_
  refine nG_aload_n C dX9_init_45 rfl rfl ?_
  refine nG_bipush (v := 32) C dX9_init_46 (by decide) ?_
  refine nG_newI (N := 32) C dX9_init_48 ta_int (by decide) (by decide) (by exact Nat.le_of_ble_eq_true rfl) (by exact Nat.le_of_ble_eq_true rfl) (by exact Nat.le_of_ble_eq_true rfl) (fun q6 => ?_)
  refine nG_putF (q0 := 0) (a := b) (r := q6) (ws' := ([(b, .inr (8, [.int 0, .ref q1, .int 0, .ref q2, .int 0, .ref q3, .int 0, .ref q4, .int 0, .int 0, .long 0, .int 0, .int 0, .int 0, .int 0, .int 0, .int 0, .int 0, .ref q5, .ref q6, .null, .null, .null, .null, .null, .null, .int 0, .null, .int 0, .int 0, .int 0, .int 0, .int 0, .int 0, .int 0, .int 0, .int 0, .null, .null]))] : va_W) ++ w60 ++ ([(q1, .inl (V.2 0, 18, .inl (fun _ => 0)))] : va_W) ++ ([(q2, .inl (V.2 0, 30, .inl (fun _ => 0)))] : va_W) ++ ([(q3, .inl (V.2 0, 24, .inl (fun _ => 0)))] : va_W) ++ ([(q4, .inl (V.2 0, 160, .inl (fun _ => 0)))] : va_W) ++ ([(q5, .inl (V.2 0, 84, .inl (fun _ => 0)))] : va_W) ++ ([(q6, .inl (V.2 0, 32, .inl (fun _ => 0)))] : va_W)) C dX9_init_50 rfl nf_9_19 rfl (by exact Nat.le_of_ble_eq_true rfl) rfl rfl rfl ?_
  refine nG_aload_n C dX9_init_53 rfl rfl ?_
  refine nG_bipush (v := 32) C dX9_init_54 (by decide) ?_
  refine nG_newI (N := 32) C dX9_init_56 ta_int (by decide) (by decide) (by exact Nat.le_of_ble_eq_true rfl) (by exact Nat.le_of_ble_eq_true rfl) (by exact Nat.le_of_ble_eq_true rfl) (fun q7 => ?_)
  refine nG_putF (q0 := 0) (a := b) (r := q7) (ws' := ([(b, .inr (8, [.int 0, .ref q1, .int 0, .ref q2, .int 0, .ref q3, .int 0, .ref q4, .int 0, .int 0, .long 0, .int 0, .int 0, .int 0, .int 0, .int 0, .int 0, .int 0, .ref q5, .ref q6, .ref q7, .null, .null, .null, .null, .null, .int 0, .null, .int 0, .int 0, .int 0, .int 0, .int 0, .int 0, .int 0, .int 0, .int 0, .null, .null]))] : va_W) ++ w60 ++ ([(q1, .inl (V.2 0, 18, .inl (fun _ => 0)))] : va_W) ++ ([(q2, .inl (V.2 0, 30, .inl (fun _ => 0)))] : va_W) ++ ([(q3, .inl (V.2 0, 24, .inl (fun _ => 0)))] : va_W) ++ ([(q4, .inl (V.2 0, 160, .inl (fun _ => 0)))] : va_W) ++ ([(q5, .inl (V.2 0, 84, .inl (fun _ => 0)))] : va_W) ++ ([(q6, .inl (V.2 0, 32, .inl (fun _ => 0)))] : va_W) ++ ([(q7, .inl (V.2 0, 32, .inl (fun _ => 0)))] : va_W)) C dX9_init_58 rfl nf_9_20 rfl (by exact Nat.le_of_ble_eq_true rfl) rfl rfl rfl ?_
  refine nG_aload_n C dX9_init_61 rfl rfl ?_
  refine nG_bipush (v := 32) C dX9_init_62 (by decide) ?_
  refine nG_newI (N := 32) C dX9_init_64 ta_int (by decide) (by decide) (by exact Nat.le_of_ble_eq_true rfl) (by exact Nat.le_of_ble_eq_true rfl) (by exact Nat.le_of_ble_eq_true rfl) (fun q8 => ?_)
  refine nG_putF (q0 := 0) (a := b) (r := q8) (ws' := ([(b, .inr (8, [.int 0, .ref q1, .int 0, .ref q2, .int 0, .ref q3, .int 0, .ref q4, .int 0, .int 0, .long 0, .int 0, .int 0, .int 0, .int 0, .int 0, .int 0, .int 0, .ref q5, .ref q6, .ref q7, .ref q8, .null, .null, .null, .null, .int 0, .null, .int 0, .int 0, .int 0, .int 0, .int 0, .int 0, .int 0, .int 0, .int 0, .null, .null]))] : va_W) ++ w60 ++ ([(q1, .inl (V.2 0, 18, .inl (fun _ => 0)))] : va_W) ++ ([(q2, .inl (V.2 0, 30, .inl (fun _ => 0)))] : va_W) ++ ([(q3, .inl (V.2 0, 24, .inl (fun _ => 0)))] : va_W) ++ ([(q4, .inl (V.2 0, 160, .inl (fun _ => 0)))] : va_W) ++ ([(q5, .inl (V.2 0, 84, .inl (fun _ => 0)))] : va_W) ++ ([(q6, .inl (V.2 0, 32, .inl (fun _ => 0)))] : va_W) ++ ([(q7, .inl (V.2 0, 32, .inl (fun _ => 0)))] : va_W) ++ ([(q8, .inl (V.2 0, 32, .inl (fun _ => 0)))] : va_W)) C dX9_init_66 rfl nf_9_21 rfl (by exact Nat.le_of_ble_eq_true rfl) rfl rfl rfl ?_
  refine nG_aload_n C dX9_init_69 rfl rfl ?_
  refine nG_bipush (v := 32) C dX9_init_70 (by decide) ?_
  refine nG_newI (N := 32) C dX9_init_72 ta_int (by decide) (by decide) (by exact Nat.le_of_ble_eq_true rfl) (by exact Nat.le_of_ble_eq_true rfl) (by exact Nat.le_of_ble_eq_true rfl) (fun q9 => ?_)
  refine nG_putF (q0 := 0) (a := b) (r := q9) (ws' := ([(b, .inr (8, [.int 0, .ref q1, .int 0, .ref q2, .int 0, .ref q3, .int 0, .ref q4, .int 0, .int 0, .long 0, .int 0, .int 0, .int 0, .int 0, .int 0, .int 0, .int 0, .ref q5, .ref q6, .ref q7, .ref q8, .ref q9, .null, .null, .null, .int 0, .null, .int 0, .int 0, .int 0, .int 0, .int 0, .int 0, .int 0, .int 0, .int 0, .null, .null]))] : va_W) ++ w60 ++ ([(q1, .inl (V.2 0, 18, .inl (fun _ => 0)))] : va_W) ++ ([(q2, .inl (V.2 0, 30, .inl (fun _ => 0)))] : va_W) ++ ([(q3, .inl (V.2 0, 24, .inl (fun _ => 0)))] : va_W) ++ ([(q4, .inl (V.2 0, 160, .inl (fun _ => 0)))] : va_W) ++ ([(q5, .inl (V.2 0, 84, .inl (fun _ => 0)))] : va_W) ++ ([(q6, .inl (V.2 0, 32, .inl (fun _ => 0)))] : va_W) ++ ([(q7, .inl (V.2 0, 32, .inl (fun _ => 0)))] : va_W) ++ ([(q8, .inl (V.2 0, 32, .inl (fun _ => 0)))] : va_W) ++ ([(q9, .inl (V.2 0, 32, .inl (fun _ => 0)))] : va_W)) C dX9_init_74 rfl nf_9_22 rfl (by exact Nat.le_of_ble_eq_true rfl) rfl rfl rfl ?_
  refine nG_aload_n C dX9_init_77 rfl rfl ?_
  refine nG_bipush (v := 64) C dX9_init_78 (by decide) ?_
  refine nG_newI (N := 64) C dX9_init_80 ta_int (by decide) (by decide) (by exact Nat.le_of_ble_eq_true rfl) (by exact Nat.le_of_ble_eq_true rfl) (by exact Nat.le_of_ble_eq_true rfl) (fun q10 => ?_)
  refine nG_putF (q0 := 0) (a := b) (r := q10) (ws' := ([(b, .inr (8, [.int 0, .ref q1, .int 0, .ref q2, .int 0, .ref q3, .int 0, .ref q4, .int 0, .int 0, .long 0, .int 0, .int 0, .int 0, .int 0, .int 0, .int 0, .int 0, .ref q5, .ref q6, .ref q7, .ref q8, .ref q9, .ref q10, .null, .null, .int 0, .null, .int 0, .int 0, .int 0, .int 0, .int 0, .int 0, .int 0, .int 0, .int 0, .null, .null]))] : va_W) ++ w60 ++ ([(q1, .inl (V.2 0, 18, .inl (fun _ => 0)))] : va_W) ++ ([(q2, .inl (V.2 0, 30, .inl (fun _ => 0)))] : va_W) ++ ([(q3, .inl (V.2 0, 24, .inl (fun _ => 0)))] : va_W) ++ ([(q4, .inl (V.2 0, 160, .inl (fun _ => 0)))] : va_W) ++ ([(q5, .inl (V.2 0, 84, .inl (fun _ => 0)))] : va_W) ++ ([(q6, .inl (V.2 0, 32, .inl (fun _ => 0)))] : va_W) ++ ([(q7, .inl (V.2 0, 32, .inl (fun _ => 0)))] : va_W) ++ ([(q8, .inl (V.2 0, 32, .inl (fun _ => 0)))] : va_W) ++ ([(q9, .inl (V.2 0, 32, .inl (fun _ => 0)))] : va_W) ++ ([(q10, .inl (V.2 0, 64, .inl (fun _ => 0)))] : va_W)) C dX9_init_82 rfl nf_9_23 rfl (by exact Nat.le_of_ble_eq_true rfl) rfl rfl rfl ?_
  refine nG_aload_n C dX9_init_85 rfl rfl ?_
  refine nG_iconst (v := 2) C dX9_init_86 (by decide) ?_
  refine nG_newZ (N := 2) C dX9_init_87 ta_boolean (by decide) (by decide) (by exact Nat.le_of_ble_eq_true rfl) (by exact Nat.le_of_ble_eq_true rfl) (by exact Nat.le_of_ble_eq_true rfl) (fun q11 => ?_)
  refine nG_putF (q0 := 0) (a := b) (r := q11) (ws' := ([(b, .inr (8, [.int 0, .ref q1, .int 0, .ref q2, .int 0, .ref q3, .int 0, .ref q4, .int 0, .int 0, .long 0, .int 0, .int 0, .int 0, .int 0, .int 0, .int 0, .int 0, .ref q5, .ref q6, .ref q7, .ref q8, .ref q9, .ref q10, .ref q11, .null, .int 0, .null, .int 0, .int 0, .int 0, .int 0, .int 0, .int 0, .int 0, .int 0, .int 0, .null, .null]))] : va_W) ++ w60 ++ ([(q1, .inl (V.2 0, 18, .inl (fun _ => 0)))] : va_W) ++ ([(q2, .inl (V.2 0, 30, .inl (fun _ => 0)))] : va_W) ++ ([(q3, .inl (V.2 0, 24, .inl (fun _ => 0)))] : va_W) ++ ([(q4, .inl (V.2 0, 160, .inl (fun _ => 0)))] : va_W) ++ ([(q5, .inl (V.2 0, 84, .inl (fun _ => 0)))] : va_W) ++ ([(q6, .inl (V.2 0, 32, .inl (fun _ => 0)))] : va_W) ++ ([(q7, .inl (V.2 0, 32, .inl (fun _ => 0)))] : va_W) ++ ([(q8, .inl (V.2 0, 32, .inl (fun _ => 0)))] : va_W) ++ ([(q9, .inl (V.2 0, 32, .inl (fun _ => 0)))] : va_W) ++ ([(q10, .inl (V.2 0, 64, .inl (fun _ => 0)))] : va_W) ++ ([(q11, .inl (V.2 1, 2, .inl (fun _ => 0)))] : va_W)) C dX9_init_89 rfl nf_9_24 rfl (by exact Nat.le_of_ble_eq_true rfl) rfl rfl rfl ?_
  refine nG_aload_n C dX9_init_92 rfl rfl ?_
  refine nG_sipush (v := 256) C dX9_init_93 (by decide) ?_
  refine nG_newI (N := 256) C dX9_init_96 ta_int (by decide) (by decide) (by exact Nat.le_of_ble_eq_true rfl) (by exact Nat.le_of_ble_eq_true rfl) (by exact Nat.le_of_ble_eq_true rfl) (fun q12 => ?_)
  refine nG_putF (q0 := 0) (a := b) (r := q12) (ws' := ([(b, .inr (8, [.int 0, .ref q1, .int 0, .ref q2, .int 0, .ref q3, .int 0, .ref q4, .int 0, .int 0, .long 0, .int 0, .int 0, .int 0, .int 0, .int 0, .int 0, .int 0, .ref q5, .ref q6, .ref q7, .ref q8, .ref q9, .ref q10, .ref q11, .ref q12, .int 0, .null, .int 0, .int 0, .int 0, .int 0, .int 0, .int 0, .int 0, .int 0, .int 0, .null, .null]))] : va_W) ++ w60 ++ ([(q1, .inl (V.2 0, 18, .inl (fun _ => 0)))] : va_W) ++ ([(q2, .inl (V.2 0, 30, .inl (fun _ => 0)))] : va_W) ++ ([(q3, .inl (V.2 0, 24, .inl (fun _ => 0)))] : va_W) ++ ([(q4, .inl (V.2 0, 160, .inl (fun _ => 0)))] : va_W) ++ ([(q5, .inl (V.2 0, 84, .inl (fun _ => 0)))] : va_W) ++ ([(q6, .inl (V.2 0, 32, .inl (fun _ => 0)))] : va_W) ++ ([(q7, .inl (V.2 0, 32, .inl (fun _ => 0)))] : va_W) ++ ([(q8, .inl (V.2 0, 32, .inl (fun _ => 0)))] : va_W) ++ ([(q9, .inl (V.2 0, 32, .inl (fun _ => 0)))] : va_W) ++ ([(q10, .inl (V.2 0, 64, .inl (fun _ => 0)))] : va_W) ++ ([(q11, .inl (V.2 1, 2, .inl (fun _ => 0)))] : va_W) ++ ([(q12, .inl (V.2 0, 256, .inl (fun _ => 0)))] : va_W)) C dX9_init_98 rfl nf_9_25 rfl (by exact Nat.le_of_ble_eq_true rfl) rfl rfl rfl ?_
  refine nG_aload_n C dX9_init_101 rfl rfl ?_
  refine nG_bipush (v := 10) C dX9_init_102 (by decide) ?_
  refine nG_newI (N := 10) C dX9_init_104 ta_int (by decide) (by decide) (by exact Nat.le_of_ble_eq_true rfl) (by exact Nat.le_of_ble_eq_true rfl) (by exact Nat.le_of_ble_eq_true rfl) (fun q13 => ?_)
  refine nG_putF (q0 := 0) (a := b) (r := q13) (ws' := ([(b, .inr (8, [.int 0, .ref q1, .int 0, .ref q2, .int 0, .ref q3, .int 0, .ref q4, .int 0, .int 0, .long 0, .int 0, .int 0, .int 0, .int 0, .int 0, .int 0, .int 0, .ref q5, .ref q6, .ref q7, .ref q8, .ref q9, .ref q10, .ref q11, .ref q12, .int 0, .ref q13, .int 0, .int 0, .int 0, .int 0, .int 0, .int 0, .int 0, .int 0, .int 0, .null, .null]))] : va_W) ++ w60 ++ ([(q1, .inl (V.2 0, 18, .inl (fun _ => 0)))] : va_W) ++ ([(q2, .inl (V.2 0, 30, .inl (fun _ => 0)))] : va_W) ++ ([(q3, .inl (V.2 0, 24, .inl (fun _ => 0)))] : va_W) ++ ([(q4, .inl (V.2 0, 160, .inl (fun _ => 0)))] : va_W) ++ ([(q5, .inl (V.2 0, 84, .inl (fun _ => 0)))] : va_W) ++ ([(q6, .inl (V.2 0, 32, .inl (fun _ => 0)))] : va_W) ++ ([(q7, .inl (V.2 0, 32, .inl (fun _ => 0)))] : va_W) ++ ([(q8, .inl (V.2 0, 32, .inl (fun _ => 0)))] : va_W) ++ ([(q9, .inl (V.2 0, 32, .inl (fun _ => 0)))] : va_W) ++ ([(q10, .inl (V.2 0, 64, .inl (fun _ => 0)))] : va_W) ++ ([(q11, .inl (V.2 1, 2, .inl (fun _ => 0)))] : va_W) ++ ([(q12, .inl (V.2 0, 256, .inl (fun _ => 0)))] : va_W) ++ ([(q13, .inl (V.2 0, 10, .inl (fun _ => 0)))] : va_W)) C dX9_init_106 rfl nf_9_27 rfl (by exact Nat.le_of_ble_eq_true rfl) rfl rfl rfl ?_
  refine nG_aload_n C dX9_init_109 rfl rfl ?_
  refine nG_bipush (v := 64) C dX9_init_110 (by decide) ?_
  refine nG_newZ (N := 64) C dX9_init_112 ta_boolean (by decide) (by decide) (by exact Nat.le_of_ble_eq_true rfl) (by exact Nat.le_of_ble_eq_true rfl) (by exact Nat.le_of_ble_eq_true rfl) (fun q14 => ?_)
  refine nG_putF (q0 := 0) (a := b) (r := q14) (ws' := ([(b, .inr (8, [.int 0, .ref q1, .int 0, .ref q2, .int 0, .ref q3, .int 0, .ref q4, .int 0, .int 0, .long 0, .int 0, .int 0, .int 0, .int 0, .int 0, .int 0, .int 0, .ref q5, .ref q6, .ref q7, .ref q8, .ref q9, .ref q10, .ref q11, .ref q12, .int 0, .ref q13, .int 0, .int 0, .int 0, .int 0, .int 0, .int 0, .int 0, .int 0, .int 0, .ref q14, .null]))] : va_W) ++ w60 ++ ([(q1, .inl (V.2 0, 18, .inl (fun _ => 0)))] : va_W) ++ ([(q2, .inl (V.2 0, 30, .inl (fun _ => 0)))] : va_W) ++ ([(q3, .inl (V.2 0, 24, .inl (fun _ => 0)))] : va_W) ++ ([(q4, .inl (V.2 0, 160, .inl (fun _ => 0)))] : va_W) ++ ([(q5, .inl (V.2 0, 84, .inl (fun _ => 0)))] : va_W) ++ ([(q6, .inl (V.2 0, 32, .inl (fun _ => 0)))] : va_W) ++ ([(q7, .inl (V.2 0, 32, .inl (fun _ => 0)))] : va_W) ++ ([(q8, .inl (V.2 0, 32, .inl (fun _ => 0)))] : va_W) ++ ([(q9, .inl (V.2 0, 32, .inl (fun _ => 0)))] : va_W) ++ ([(q10, .inl (V.2 0, 64, .inl (fun _ => 0)))] : va_W) ++ ([(q11, .inl (V.2 1, 2, .inl (fun _ => 0)))] : va_W) ++ ([(q12, .inl (V.2 0, 256, .inl (fun _ => 0)))] : va_W) ++ ([(q13, .inl (V.2 0, 10, .inl (fun _ => 0)))] : va_W) ++ ([(q14, .inl (V.2 1, 64, .inl (fun _ => 0)))] : va_W)) C dX9_init_114 rfl nf_9_37 rfl (by exact Nat.le_of_ble_eq_true rfl) rfl rfl rfl ?_
  refine nG_aload_n C dX9_init_117 rfl rfl ?_
  refine nG_bipush (v := 32) C dX9_init_118 (by decide) ?_
  refine nG_newI (N := 32) C dX9_init_120 ta_int (by decide) (by decide) (by exact Nat.le_of_ble_eq_true rfl) (by exact Nat.le_of_ble_eq_true rfl) (by exact Nat.le_of_ble_eq_true rfl) (fun q15 => ?_)
  refine nG_putF (q0 := 0) (a := b) (r := q15) (ws' := ([(b, .inr (8, [.int 0, .ref q1, .int 0, .ref q2, .int 0, .ref q3, .int 0, .ref q4, .int 0, .int 0, .long 0, .int 0, .int 0, .int 0, .int 0, .int 0, .int 0, .int 0, .ref q5, .ref q6, .ref q7, .ref q8, .ref q9, .ref q10, .ref q11, .ref q12, .int 0, .ref q13, .int 0, .int 0, .int 0, .int 0, .int 0, .int 0, .int 0, .int 0, .int 0, .ref q14, .ref q15]))] : va_W) ++ w60 ++ ([(q1, .inl (V.2 0, 18, .inl (fun _ => 0)))] : va_W) ++ ([(q2, .inl (V.2 0, 30, .inl (fun _ => 0)))] : va_W) ++ ([(q3, .inl (V.2 0, 24, .inl (fun _ => 0)))] : va_W) ++ ([(q4, .inl (V.2 0, 160, .inl (fun _ => 0)))] : va_W) ++ ([(q5, .inl (V.2 0, 84, .inl (fun _ => 0)))] : va_W) ++ ([(q6, .inl (V.2 0, 32, .inl (fun _ => 0)))] : va_W) ++ ([(q7, .inl (V.2 0, 32, .inl (fun _ => 0)))] : va_W) ++ ([(q8, .inl (V.2 0, 32, .inl (fun _ => 0)))] : va_W) ++ ([(q9, .inl (V.2 0, 32, .inl (fun _ => 0)))] : va_W) ++ ([(q10, .inl (V.2 0, 64, .inl (fun _ => 0)))] : va_W) ++ ([(q11, .inl (V.2 1, 2, .inl (fun _ => 0)))] : va_W) ++ ([(q12, .inl (V.2 0, 256, .inl (fun _ => 0)))] : va_W) ++ ([(q13, .inl (V.2 0, 10, .inl (fun _ => 0)))] : va_W) ++ ([(q14, .inl (V.2 1, 64, .inl (fun _ => 0)))] : va_W) ++ ([(q15, .inl (V.2 0, 32, .inl (fun _ => 0)))] : va_W)) C dX9_init_122 rfl nf_9_38 rfl (by exact Nat.le_of_ble_eq_true rfl) rfl rfl rfl ?_
  refine nG_perm (List.Perm.of_eq (by simp only [List.append_assoc, List.cons_append, List.nil_append])) (k9_mid h60 C F hE q1 q2 q3 q4 q5 q6 q7 q8 q9 q10 q11 q12 q13 q14 q15 (by exact Nat.le_of_ble_eq_true rfl) (by exact Nat.le_of_ble_eq_true rfl))
