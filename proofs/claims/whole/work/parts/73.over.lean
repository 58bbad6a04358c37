/-! ===== CONSTRUCTORS: a world in another order; calls; over to the fixed shape ===== -/
theorem va_nd_of : ∀ l : List Nat, l.Nodup → va_nd l = true
  | [], _ => rfl
  | a :: l, h => by
    rw [List.nodup_cons] at h
    show (decide (a ∉ l) && va_nd l) = true
    rw [va_nd_of l h.2, Bool.and_true]
    exact decide_eq_true h.1
theorem nRow {α : Type} (l : List α) : (List.range l.length).map (fun i => l[i]?) = l.map some := by
  apply List.ext_getElem?
  intro j
  rw [List.getElem?_map, List.getElem?_map]
  by_cases hj : j < l.length
  · rw [List.getElem?_range hj, List.getElem?_eq_getElem hj]
    simp [hj]
  · rw [List.getElem?_eq_none (by simpa using hj), List.getElem?_eq_none (by simpa using hj)]
    rfl
theorem nRowL {α : Type} (a b : List α) : (List.range a.length).map (fun i => (a ++ b)[i]?) = a.map some := by
  rw [← nRow a]
  refine List.map_congr_left (fun i hi => ?_)
  rw [List.getElem?_append_left (List.mem_range.mp hi)]
theorem nRowR {α : Type} (a b : List α) : ((List.range b.length).map (fun i => a.length + i)).map (fun i => (a ++ b)[i]?) = b.map some := by
  rw [← nRow b, List.map_map]
  refine List.map_congr_left (fun i hi => ?_)
  show (a ++ b)[a.length + i]? = b[i]?
  rw [List.getElem?_append_right (by omega)]
  congr 1
  omega
theorem nNdR (a b : Nat) : va_nd ((List.range b).map (fun i => a + i)) = true := by
  refine va_nd_of _ ?_
  unfold List.Nodup
  rw [List.pairwise_map]
  exact (List.nodup_range).imp (fun h e => h (by omega))
theorem va_P_perm {G : va_G} {cl : List vw_C} {ws ws' : va_W} {H : Heap} (h : ws.Perm ws') (hP : va_P G cl ws H) : va_P G cl ws' H := by
  intro k q hk
  obtain ⟨i, hi⟩ := List.getElem?_of_mem (h.mem_iff.mpr (List.mem_of_getElem? hk))
  exact hP i q hi
theorem va_D_nodup {A : Nat → Prop} {ws : va_W} (hD : va_D A ws) : (ws.map (fun q => q.1)).Nodup := by
  unfold List.Nodup
  rw [List.pairwise_iff_getElem]
  intro i j hi hj hij e
  rw [List.length_map] at hi hj
  rw [List.getElem_map, List.getElem_map] at e
  have := hD.1 i j ws[i] ws[j] (List.getElem?_eq_getElem hi) (List.getElem?_eq_getElem hj) e
  omega
theorem va_D_of {A : Nat → Prop} {ws : va_W} (h : (ws.map (fun q => q.1)).Nodup) (hA : ∀ q ∈ ws, A q.1) : va_D A ws := by
  unfold List.Nodup at h
  rw [List.pairwise_iff_getElem] at h
  refine ⟨fun i j p q hp hq e => ?_, fun k q hk => hA q (List.mem_of_getElem? hk)⟩
  obtain ⟨hi, rfl⟩ := List.getElem?_eq_some_iff.mp hp
  obtain ⟨hj, rfl⟩ := List.getElem?_eq_some_iff.mp hq
  rcases Nat.lt_trichotomy i j with q | q | q
  · have := h i j (by rw [List.length_map]; exact hi) (by rw [List.length_map]; exact hj) q
    rw [List.getElem_map, List.getElem_map] at this
    exact absurd e this
  · exact q
  · have := h j i (by rw [List.length_map]; exact hj) (by rw [List.length_map]; exact hi) q
    rw [List.getElem_map, List.getElem_map] at this
    exact absurd e.symm this
theorem va_D_perm {A : Nat → Prop} {ws ws' : va_W} (h : ws.Perm ws') (hD : va_D A ws) : va_D A ws' := by
  refine va_D_of ((h.map (fun q => q.1)).nodup_iff.mp (va_D_nodup hD)) (fun q hq => ?_)
  obtain ⟨i, hi⟩ := List.getElem?_of_mem (h.mem_iff.mpr hq)
  exact hD.2 i q hi
def nXk (X : mX) (k n : Nat) : mX := match X with
  | (p, l, e, R, s, m, args, below, meth, c, _, _, Q, A) => (p, l, e, R, s, m, args, below, meth, c, k, n, Q, A)
def nIn (X : mX) (ad : Nat → Nat) : Prop := match X with
  | (_, _, _, _, _, _, _, _, _, _, _, _, _, A) => ∀ i : Nat, i < mN → A (ad i)
def nRo (X : mX) (E : mEnv) : Prop := match X with
  | (_, _, _, _, s, _, _, _, _, _, _, _, _, A) => mRO E A s s.heap
/-- the same contents, as far as the row goes -/
def nEqv (a b : va_E) : Prop := a = b ∨ ∃ (cA : ClassId) (N : Nat) (f g : Nat → Option Nat), a = .inl (cA, N, .inr (.inr (.inr (.inr f)))) ∧ b = .inl (cA, N, .inr (.inr (.inr (.inr g)))) ∧ ∀ j, j < N → f j = g j
theorem nEqv_at {G : va_G} {cl : List vw_C} {a : Nat} {e e' : va_E} {H : Heap} (h : nEqv e e') (hP : va_at G cl (a, e) H) : va_at G cl (a, e') H := by
  rcases h with rfl | ⟨cA, N, f, g, rfl, rfl, h⟩
  · exact hP
  · have h1 : H[a]? = some (arrV cA N (fun j => va_rf (f j))) := hP
    have h2 : arrV cA N (fun j => va_rf (f j)) = arrV cA N (fun j => va_rf (g j)) := by
      show ({ cls := cA, slots := Array.ofFn (n := N) fun j => va_rf (f j.val), vm := .none } : Cell) = ({ cls := cA, slots := Array.ofFn (n := N) fun j => va_rf (g j.val), vm := .none } : Cell)
      have h3 : (fun j : Fin N => va_rf (f j.val)) = fun j : Fin N => va_rf (g j.val) := funext fun j => by rw [h j.val j.isLt]
      rw [h3]
    show H[a]? = some (arrV cA N (fun j => va_rf (g j)))
    rw [h1, h2]
section NK
variable {X : mX} {V : nV} {D : mD} {k n pc : Nat} {lv st : List Value} {ws : va_W}
theorem nE2_true {wc : va_W} : nE2 X wc (fun _ _ => True) := by
  obtain ⟨p, l, e, R, s, m, args, below, meth, c, k1, n1, Q, A⟩ := X
  intro _ _ _ _ _ _ _
  trivial
theorem nG_perm {ws' : va_W} (h : ws.Perm ws') (kk : nG X V D k n pc lv st ws') : nG X V D k n pc lv st ws := by
  obtain ⟨p, l, e, R, s, m, args, below, meth, c, k1, n1, Q, A⟩ := X
  intro H locs ls hP hD hS hl
  exact kk H locs ls (va_P_perm h hP) (va_D_perm h hD) hS hl
/-- a constructor is called over the last cells -/
theorem nG_callA (C : nCtx X V D) {Z : mD} {Ex : Nat → State → Prop} {ix na b : Nat} {as rest : List Value} {wc wr : va_W} {B : va_W → Prop} (hd : decode D.2.1 pc = .ok (.invokespecial ix, 3)) (hlk : Cond.methodLink D.1.cls ix Z.1 ∈ mTb ∨ (D.1.cls, ix, Z.1) ∈ nLk) (hz : nCal Z na) (hf : mFit Z D) (h1 : k + Z.2.2.2.2.cells ≤ D.2.2.2.2.cells) (h2 : n + Z.2.2.2.2.slots ≤ D.2.2.2.2.slots) (hn : as.length = na) (hr : (rest.map fun v => v.category).sum ≤ 8) (hst : as.reverse ++ .ref b :: rest = st)
    (hM : nM V Z Ex (.ref b :: as) wc B) (hE1 : ∀ (z : Nat) (U : State) (g : JFrame) (mk : MethodId) (a : Array Value), Ex z U → Ex z (U.calling g mk a)) (hE2 : nE2 X wc Ex)
    (kk : ∀ w1, B w1 → nG X V D (k + Z.2.2.2.2.cells) (n + Z.2.2.2.2.slots) (pc + 3) lv rest (wr ++ w1)) : nG X V D k n pc lv st (wr ++ wc) :=
  nG_call C hd hlk hz hf h1 h2 hn hr hst hM hE1 hE2 ((List.range wc.length).map (fun i => wr.length + i)) (List.range wr.length) (nRowR wr wc) (nRowL wr wc) (nNdR _ _) (va_nd_of _ List.nodup_range) (fun i hi hj => by
    obtain ⟨j, -, rfl⟩ := List.mem_map.mp hj
    have := List.mem_range.mp hi
    omega) kk
theorem nCtx.m (C : nCtx X V D) {ad : Nat → Nat} (hI : mInj (ad, V.1, V.2)) (hA : nIn X ad) (hR : nRo X (ad, V.1, V.2)) (h1 : k ≤ D.2.2.2.2.cells) (h2 : n ≤ D.2.2.2.2.slots) : mCtx (nXk X k n) (ad, V.1, V.2) D := by
  obtain ⟨p, l, e, R, s, m, args, below, meth, c, k1, n1, Q, A⟩ := X
  obtain ⟨hx, hb, hml, hown, hts, hK, hA0, hR0, hnm2⟩ := C
  exact ⟨hx, hb, hml, hown, hts, hK.1, hI, hA, hR, hR0, h1, h2⟩
theorem mSh_some {i : Nat} (h : i < mN) : ∃ c, mSh[i]? = some c := by
  rw [← mSh_len] at h
  exact ⟨_, List.getElem?_eq_getElem h⟩
theorem nG_toM {ad : Nat → Nat} {w : mW} {lv' st' : List Value} (pi : Nat → Nat) (hpi : ∀ i j, i < mN → j < mN → pi i = pi j → i = j) (hat : ∀ i c, i < mN → mSh[i]? = some c → ∃ e, ws[pi i]? = some (ad i, e) ∧ nEqv e (mE (ad, V.1, V.2) w i c)) (hst : st'.map (mV ad) = st) (hlv : ∀ (k : Nat) (v : Value), lv'[k]? = some v → v ≠ .retAddr 0 → lv[k]? = some (mV ad v))
    (kk : mInj (ad, V.1, V.2) → nIn X ad → mG (nXk X k n) (ad, V.1, V.2) D pc lv' st' w) : nG X V D k n pc lv st ws := by
  obtain ⟨p, l, e, R, s, m, args, below, meth, c, k1, n1, Q, A⟩ := X
  intro H locs ls hP hD hS hl
  subst hst
  have hI : mInj (ad, V.1, V.2) := by
    intro i j hi hj e
    obtain ⟨c1, hc1⟩ := mSh_some hi
    obtain ⟨c2, hc2⟩ := mSh_some hj
    obtain ⟨e1, h1, -⟩ := hat i c1 hi hc1
    obtain ⟨e2, h2, -⟩ := hat j c2 hj hc2
    exact hpi i j hi hj (hD.1 _ _ _ _ h1 h2 e)
  have hA : ∀ i : Nat, i < mN → A (ad i) := by
    intro i hi
    obtain ⟨c1, hc1⟩ := mSh_some hi
    obtain ⟨e1, h1, -⟩ := hat i c1 hi hc1
    exact hD.2 _ _ h1
  refine kk hI hA H locs ls (fun i x hx => ?_) hS ⟨hl.1, hl.2.1, fun k v hk hv => ?_⟩
  · obtain ⟨c1, hc1, hi, rfl⟩ := mWs_inv hx
    obtain ⟨e1, h1, h2⟩ := hat i c1 hi hc1
    exact nEqv_at h2 (hP _ _ h1)
  · have h3 := hl.2.2 k (mV ad v) (hlv k v hk hv) (by cases v <;> simp [mV] at hv ⊢ <;> exact hv)
    rw [mV_id] at h3
    exact h3
theorem mG_nret (C : nCtx X V D) {ws0 : va_W} {B : va_W → Prop} {ad : Nat → Nat} {u : mW} (F : nFin X V D ws0 B) (hI : mInj (ad, V.1, V.2)) (hA : nIn X ad) (hd : decode D.2.1 pc = .ok (.return_, 1)) (h1 : k ≤ D.2.2.2.2.cells) (h2 : n ≤ D.2.2.2.2.slots) (hB : B (mWs (ad, V.1, V.2) u)) : mG (nXk X k n) (ad, V.1, V.2) D pc lv [] u := by
  obtain ⟨p, l, e, R, s, m, args, below, meth, c, k0, n0, Q, A⟩ := X
  obtain ⟨hx, hb, hml, hown, hts, hK, hA0, hR, hnm⟩ := C
  obtain ⟨rfl, f2, f3, rfl⟩ := F
  intro H locs ls hP hS hl
  refine W.widen h1 h2 ?_
  exact W.vret hx hb f2 (fun t ht _ => ⟨⟨mWs (ad, V.1, V.2) u, rfl, hB, by rw [ht]; exact hP, mDis u hI hA⟩, hS.F ht⟩) hS.2.2 hd f3
end NK
