/-! ===== READING, in mathematical words ===== -/
/-- the sort of a letter: 1 of a word, 2 of a number, 3 other -/
def p_lc (x : Int32) : Nat := if ¬ x < 97 ∧ ¬ 122 < x then 1 else if ¬ x < 48 ∧ ¬ 57 < x then 2 else 3
def p_sk (T : Nat → Int32) (L : Nat) : Nat → Nat → Nat
  | 0, i => i
  | k + 1, i => if i < L ∧ T i = 32 then p_sk T L k (i + 1) else i
def p_ru (T : Nat → Int32) (L c : Nat) : Nat → Nat → Nat
  | 0, i => i
  | k + 1, i => if i < L ∧ p_lc (T i) = c then p_ru T L c k (i + 1) else i
/-- a token: where it starts, where it ends, its sort (0: none is left) -/
abbrev mTk : Type := Nat × Nat × Nat
def p_tok (T : Nat → Int32) (L i : Nat) : mTk := if L ≤ p_sk T L (L - i) i then (p_sk T L (L - i) i, p_sk T L (L - i) i, 0) else if p_lc (T (p_sk T L (L - i) i)) = 3 then (p_sk T L (L - i) i, p_sk T L (L - i) i + 1, 3) else (p_sk T L (L - i) i, p_ru T L (p_lc (T (p_sk T L (L - i) i))) (L - (p_sk T L (L - i) i + 1)) (p_sk T L (L - i) i + 1), p_lc (T (p_sk T L (L - i) i)))
theorem p_sk_le (T : Nat → Int32) {L : Nat} : ∀ k i, i ≤ L → i + k = L → i ≤ p_sk T L k i ∧ p_sk T L k i ≤ L ∧ (p_sk T L k i < L → ¬ T (p_sk T L k i) = 32) := by
  intro k
  induction k with
  | zero => intro i h1 h2; exact ⟨Nat.le_refl _, h1, fun h => by have : i < L := h; omega⟩
  | succ k ih =>
    intro i h1 h2
    rw [p_sk]
    by_cases c : i < L ∧ T i = 32
    · rw [if_pos c]
      obtain ⟨a, b, d⟩ := ih (i + 1) (by omega) (by omega)
      exact ⟨by omega, b, d⟩
    · rw [if_neg c]
      exact ⟨Nat.le_refl _, h1, fun h q => c ⟨h, q⟩⟩
theorem p_ru_le (T : Nat → Int32) {L c : Nat} : ∀ k i, i ≤ L → i + k = L → i ≤ p_ru T L c k i ∧ p_ru T L c k i ≤ L ∧ ∀ j, i ≤ j → j < p_ru T L c k i → p_lc (T j) = c := by
  intro k
  induction k with
  | zero => intro i h1 h2; exact ⟨Nat.le_refl _, h1, fun j a b => by have : j < i := b; omega⟩
  | succ k ih =>
    intro i h1 h2
    rw [p_ru]
    by_cases d : i < L ∧ p_lc (T i) = c
    · rw [if_pos d]
      obtain ⟨a, b, e⟩ := ih (i + 1) (by omega) (by omega)
      refine ⟨by omega, b, fun j h1 h2 => ?_⟩
      by_cases z : j = i
      · rw [z]; exact d.2
      · exact e j (by omega) h2
    · rw [if_neg d]
      exact ⟨Nat.le_refl _, h1, fun j a b => by have : j < i := b; omega⟩
theorem p_lc_in (x : Int32) : p_lc x = 1 ∨ p_lc x = 2 ∨ p_lc x = 3 := by
  unfold p_lc
  split
  · exact Or.inl rfl
  · split
    · exact Or.inr (Or.inl rfl)
    · exact Or.inr (Or.inr rfl)
/-- what is so of a token -/
theorem p_tok_ok (T : Nat → Int32) {L i : Nat} (hi : i ≤ L) : i ≤ (p_tok T L i).1 ∧ (p_tok T L i).1 ≤ (p_tok T L i).2.1 ∧ (p_tok T L i).2.1 ≤ L ∧ ((p_tok T L i).2.2 = 0 → (p_tok T L i).1 = L) ∧ (¬ (p_tok T L i).2.2 = 0 → (p_tok T L i).1 < (p_tok T L i).2.1 ∧ p_lc (T (p_tok T L i).1) = (p_tok T L i).2.2 ∧ ∀ j, (p_tok T L i).1 ≤ j → j < (p_tok T L i).2.1 → p_lc (T j) = (p_tok T L i).2.2) := by
  obtain ⟨a, b, c⟩ := p_sk_le T (L - i) i hi (by omega)
  unfold p_tok
  by_cases h : L ≤ p_sk T L (L - i) i
  · rw [if_pos h]
    exact ⟨a, Nat.le_refl _, b, fun _ => Nat.le_antisymm b h, fun q => absurd rfl q⟩
  · rw [if_neg h]
    by_cases d : p_lc (T (p_sk T L (L - i) i)) = 3
    · rw [if_pos d]
      refine ⟨a, by dsimp only; omega, by dsimp only; omega, fun q => absurd (show (3 : Nat) = 0 from q) (by decide), fun _ => ⟨by dsimp only; omega, d, fun j h1 h2 => ?_⟩⟩
      dsimp only at h1 h2
      rw [show j = p_sk T L (L - i) i by omega]; exact d
    · rw [if_neg d]
      obtain ⟨e, f, g⟩ := p_ru_le T (L := L) (c := p_lc (T (p_sk T L (L - i) i))) (L - (p_sk T L (L - i) i + 1)) (p_sk T L (L - i) i + 1) (by omega) (by omega)
      refine ⟨a, by dsimp only; omega, f, fun q => ?_, fun _ => ⟨by dsimp only; omega, rfl, fun j h1 h2 => ?_⟩⟩
      · dsimp only at q; rcases p_lc_in (T (p_sk T L (L - i) i)) with z | z | z <;> omega
      · dsimp only at h1 h2 ⊢
        by_cases z : j = p_sk T L (L - i) i
        · rw [z]
        · exact g j (by omega) h2
/-- the number that a token is -/
def p_nb (T : Nat → Int32) (s : Nat) : Nat → Int32
  | 0 => 0
  | k + 1 => 10 * p_nb T s k + T (s + k) - 48
/-- which word a token is -/
def p_eq (T : Nat → Int32) (s k : Nat) : Nat → Bool
  | 0 => true
  | i + 1 => p_eq T s k i && decide ((mStB.getD k []).getD i 0 = T (s + i))
def p_is (T : Nat → Int32) (s e k : Nat) : Bool := decide (mStN.getD k 0 = e - s) && p_eq T s k (mStN.getD k 0)
def p_wf (T : Nat → Int32) (s e : Nat) : Nat → Nat → Int32
  | 0, _ => -1
  | n + 1, k => if p_is T s e k = true then nI k else p_wf T s e n (k + 1)
def p_wd (T : Nat → Int32) (t : mTk) : Int32 := if t.2.2 = 1 then p_wf T t.1 t.2.1 9 0 else -1
/-- how many facts, people, causes -/
abbrev mC3 : Type := Nat × Nat × Nat
def p_room (c : mC3) (k : Int32) : Bool := if k = 0 ∨ k = 8 then true else if k = 1 ∨ k = 2 then decide (c.1 < 6) else if k = 7 then decide (c.2.2 < 6) else decide (c.2.1 < 5)
def p_cnt (c : mC3) (k : Int32) : mC3 := if k = 0 then (0, 0, 0) else if k = 8 then (c.1, c.2.1, 0) else if k = 1 ∨ k = 2 then (c.1 + 1, c.2.1, c.2.2) else if k = 7 then (c.1, c.2.1, c.2.2 + 1) else (c.1, c.2.1 + 1, c.2.2)
/-- the most that each number behind a word can be -/
def p_max (c : mC3) (k : Int32) : List Int32 := if k = 0 ∨ k = 8 then [] else if k = 1 ∨ k = 2 then [40, 1] else if k = 5 then [nI c.1 - 1, 1, nI c.1 - 1, 1, 3] else [nI c.1 - 1, 1, nI c.1 - 1, 1]
def p_num (T : Nat → Int32) (t : mTk) (m : Int32) : Bool := decide (t.2.2 = 2) && (decide (t.2.1 - t.1 ≤ 2) && decide (p_nb T t.1 (t.2.1 - t.1) ≤ m))
/-- the numbers: a fault, or what they are and where they end -/
def p_ns (T : Nat → Int32) (L : Nat) : List Int32 → Nat → Nat ⊕ (List Int32 × Nat)
  | [], i => .inr ([], i)
  | m :: ms, i => if p_num T (p_tok T L i) m = true then (match p_ns T L ms (p_tok T L i).2.1 with
    | .inl s => .inl s
    | .inr r => .inr (p_nb T (p_tok T L i).1 ((p_tok T L i).2.1 - (p_tok T L i).1) :: r.1, r.2)) else .inl (p_tok T L i).1
abbrev mCl : Type := Int32 × List Int32
/-- a clause -/
def p_cl (T : Nat → Int32) (L : Nat) (c : mC3) (i : Nat) : Nat ⊕ (mCl × mC3 × Nat) :=
  if p_wd T (p_tok T L i) = -1 then .inl (p_tok T L i).1 else if p_room c (p_wd T (p_tok T L i)) = false then .inl (p_tok T L i).1 else match p_ns T L (p_max c (p_wd T (p_tok T L i))) (p_tok T L i).2.1 with
    | .inl s => .inl s
    | .inr r => .inr ((p_wd T (p_tok T L i), r.1), p_cnt c (p_wd T (p_tok T L i)), r.2)
/-- a text, clause by clause -/
def p_all (T : Nat → Int32) (L : Nat) : Nat → mC3 → Nat → Nat ⊕ List mCl
  | 0, _, i => .inl i
  | n + 1, c, i => match p_cl T L c i with
    | .inl s => .inl s
    | .inr r => if (p_tok T L r.2.2).2.2 = 0 then .inr [r.1] else if T (p_tok T L r.2.2).1 = 59 then (if n = 0 then .inl (p_tok T L r.2.2).1 else match p_all T L n r.2.1 (p_tok T L r.2.2).2.1 with
      | .inl s => .inl s
      | .inr cs => .inr (r.1 :: cs)) else .inl (p_tok T L r.2.2).1
def p_of (Z : mZ) : Nat ⊕ List mCl := p_all Z.2.2.2.2.1.2 Z.2.2.2.2.1.1 14 Z.1.1 0
def r_fault (Z : mZ) : Int32 := match p_of Z with
  | .inl s => nI s
  | .inr _ => -1
/-- a clause done -/
def y_put (F : Nat → Nat → Int32) (n : Nat) (r : Nat → Int32) : Nat → Nat → Int32 := fun a k => if a = n then r k else F a k
def y_add (Y : mY) (cl : mCl) : mY :=
  if cl.1 = 0 then ((0, 0, 0), Y.2) else if cl.1 = 8 then ((Y.1.1, Y.1.2.1, 0), Y.2) else
  if cl.1 = 7 then ((Y.1.1, Y.1.2.1, Y.1.2.2 + 1), Y.2.1, Y.2.2.1, y_put Y.2.2.2 Y.1.2.2 (fun k => cl.2.getD k 0)) else
  if cl.1 = 1 ∨ cl.1 = 2 then ((Y.1.1 + 1, Y.1.2.1, Y.1.2.2), y_put Y.2.1 Y.1.1 (fun k => if k = 0 then cl.1 - 1 else cl.2.getD (k - 1) 0), Y.2.2.1, Y.2.2.2) else
  ((Y.1.1, Y.1.2.1 + 1, Y.1.2.2), Y.2.1, y_put Y.2.2.1 Y.1.2.1 (fun k => if k = 0 then cl.1 - 3 else if k = 5 then (if cl.1 = 5 then cl.2.getD 4 0 else 0) else cl.2.getD (k - 1) 0), Y.2.2.2)
def y_all (Y : mY) (cs : List mCl) : mY := cs.foldl y_add Y
def y_told (Y : mY) : Int32 := q_ds (fun f => decide (Y.2.1 f 2 = 1)) Y.1.1
def o_city (Z : mZ) : Int32 × mZ := match p_of Z with
  | .inl _ => (-4, Z)
  | .inr cs => (nI cs.length, (y_all Z.1 cs, (y_told (y_all Z.1 cs), 0, 0), (0, Z.2.2.1.2), (fun _ => none), (0, Z.2.2.2.2.1.2), (0, Z.2.2.2.2.2.2.1, Z.2.2.2.2.2.2.2)))
