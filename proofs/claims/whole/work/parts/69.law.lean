/-! ===== THE LAW'S LOOP ===== -/
/-- the script lies at cell 150 of the world, outside what is written -/
def lScr (X : mX) (E : mEnv) (L : Nat) (xs : Nat → Int32) : Prop := match X with
  | (_, _, _, _, s, _, _, _, _, _, _, _, _, A) => va_X (E.1 150) L xs s s.heap ∧ E.1 150 < s.heap.size ∧ ¬ A (E.1 150)
section LL
variable {X : mX} {E : mEnv} {D : mD} {pc : Nat} {lv st : List Value} {w : mW} {L : Nat} {xs : Nat → Int32}
theorem mG_sld (C : mCtx X E D) (S : lScr X E L xs) {i : Int32} (hd : decode D.2.1 pc = .ok (.iaload, 1)) (hin : vp_in i L) (kk : mG X E D (pc + 1) lv (.int (xs i.toNatClampNeg) :: st) w) : mG X E D pc lv (.int i :: .ref 150 :: st) w := by
  obtain ⟨p, l, e, R, s, m, args, below, meth, c, cells, slots, Q, A⟩ := X
  obtain ⟨hx, hb, hml, hown, hts, hK, hI, hA, hRO, hR, hcl, hsl⟩ := C
  obtain ⟨s1, s2, s3⟩ := S
  intro H locs ls hP hS hl
  exact va_sld hx hb s1 s2 s3 hS hin hd (kk H locs ls hP hS hl)
theorem mG_srl (C : mCtx X E D) (S : lScr X E L xs) (hd : decode D.2.1 pc = .ok (.arraylength, 1)) (kk : mG X E D (pc + 1) lv (.int (Int32.ofNat L) :: st) w) : mG X E D pc lv (.ref 150 :: st) w := by
  obtain ⟨p, l, e, R, s, m, args, below, meth, c, cells, slots, Q, A⟩ := X
  obtain ⟨hx, hb, hml, hown, hts, hK, hI, hA, hRO, hR, hcl, hsl⟩ := C
  obtain ⟨s1, s2, s3⟩ := S
  intro H locs ls hP hS hl
  exact va_slen hx hb s1 s2 s3 hS hd (kk H locs ls hP hS hl)
theorem lw_cnt {i : Nat} (hL : L ≤ 3584) (hi : i ≤ 4000) (h : ¬ Int32.ofNat L - 7 < nI i) : i + 7 ≤ L := by
  rcases Nat.lt_or_ge L 7 with q | q
  · refine absurd ?_ h
    rw [Int32.lt_iff_toInt_lt, nI_toInt (by omega)]
    rcases (show L = 0 ∨ L = 1 ∨ L = 2 ∨ L = 3 ∨ L = 4 ∨ L = 5 ∨ L = 6 by omega) with rfl | rfl | rfl | rfl | rfl | rfl | rfl
    all_goals first
      | (rw [show (Int32.ofNat 0 - 7).toInt = -7 by decide]; omega)
      | (rw [show (Int32.ofNat 1 - 7).toInt = -6 by decide]; omega)
      | (rw [show (Int32.ofNat 2 - 7).toInt = -5 by decide]; omega)
      | (rw [show (Int32.ofNat 3 - 7).toInt = -4 by decide]; omega)
      | (rw [show (Int32.ofNat 4 - 7).toInt = -3 by decide]; omega)
      | (rw [show (Int32.ofNat 5 - 7).toInt = -2 by decide]; omega)
      | (rw [show (Int32.ofNat 6 - 7).toInt = -1 by decide]; omega)
  · have e : Int32.ofNat L - 7 = nI (L - 7) := by
      have h1 : nI (L - 7) + 7 = Int32.ofNat L := by
        show nI (L - 7) + nI 7 = nI L
        rw [nI_add, Nat.sub_add_cancel q]
      rw [← h1, Int32.add_sub_cancel]
    rw [e, nI_ltI (by omega) (by omega)] at h
    omega
theorem lw_inb {i k : Nat} (hL : L ≤ 3584) (h : i + 7 ≤ L) (hk : k < 7) : vp_in (nI i + nI k) L := by
  rw [nI_add]
  exact vp_in_nI (by omega) (by omega)
/-- 989: the next call of the script -/
theorem lw_next (C : mCtx X E ML_law) {i : Nat} (kk : mG X E ML_law 18 [.ref 150, .ref 0, .ref 60, .int (nI (i + 7))] [] w) : mG X E ML_law 989 [.ref 150, .ref 0, .ref 60, .int (nI i)] [] w := by
  refine mG_iincc (lv' := [.ref 150, .ref 0, .ref 60, .int (nI (i + 7))]) C dL_law_989 rfl ic7 (by decide) (by rw [show (7 : Int32) = nI 7 from rfl, nI_add]; rfl) ?_
  exact mG_goto (tgt := 18) C dL_law_992 rfl kk

set_option maxRecDepth 20000 in
set_option maxHeartbeats 1000000 in
theorem lw_c0 (C : mCtx X E ML_law) (S : lScr X E L xs) (hL : L ≤ 3584) {i : Nat} (hi : i + 7 ≤ L) {Z : mZ} (hI : zI Z w) (kk : ∀ u Z, zI Z u → mG X E ML_law 989 [.ref 150, .ref 0, .ref 60, .int (nI i)] [] u) : mG X E ML_law 156 [.ref 150, .ref 0, .ref 60, .int (nI i)] [] w := by
  refine mG_aload_n C dL_law_156 rfl rfl ?_
  refine mG_aload_n C dL_law_157 rfl rfl ?_
  refine mG_iload_n C dL_law_158 rfl rfl ?_
  refine mG_iconst C dL_law_159 ic1 ?_
  refine mG_iadd C dL_law_160 ?_
  refine mG_sld C S dL_law_161 (lw_inb (k := 1) hL hi (by decide)) ?_
  refine mG_Vi (Z := MX8_write) (as := [.int (xs (nI i + nI 1).toNatClampNeg)]) (rest := []) C dL_law_162 lk_304 zX8_write ⟨Nat.le_of_ble_eq_true rfl, Nat.le_of_ble_eq_true rfl⟩ sh0 rfl rfl (Nat.le_of_ble_eq_true rfl) rfl (s_write (E := E) hI (xs (nI i + nI 1).toNatClampNeg)) (fun v u K => ?_)
  refine mG_aload_n C dL_law_165 rfl rfl ?_
  refine mG_aload_n C dL_law_166 rfl rfl ?_
  refine mG_iload_n C dL_law_167 rfl rfl ?_
  refine mG_iconst C dL_law_168 ic1 ?_
  refine mG_iadd C dL_law_169 ?_
  refine mG_sld C S dL_law_170 (lw_inb (k := 1) hL hi (by decide)) ?_
  refine mG_Vi (Z := MX9_write) (as := [.int (xs (nI i + nI 1).toNatClampNeg)]) (rest := [.int v]) C dL_law_171 lk_952 zX9_write ⟨Nat.le_of_ble_eq_true rfl, Nat.le_of_ble_eq_true rfl⟩ sh60 rfl rfl (Nat.le_of_ble_eq_true rfl) rfl K (fun v' u' K => ?_)
  refine mG_icmp_eq (tgt := 989) C dL_law_174 rfl (fun _ => ?_) (fun h => absurd K.1 h)
  obtain ⟨-, Z', hZ⟩ := K
  exact kk u' Z' hZ
set_option maxRecDepth 20000 in
set_option maxHeartbeats 1000000 in
theorem lw_c1 (C : mCtx X E ML_law) (S : lScr X E L xs) (hL : L ≤ 3584) {i : Nat} (hi : i + 7 ≤ L) {Z : mZ} (hI : zI Z w) (kk : ∀ u Z, zI Z u → mG X E ML_law 989 [.ref 150, .ref 0, .ref 60, .int (nI i)] [] u) : mG X E ML_law 179 [.ref 150, .ref 0, .ref 60, .int (nI i)] [] w := by
  refine mG_aload_n C dL_law_179 rfl rfl ?_
  refine mG_Vi (Z := MX8_erase) (as := []) (rest := []) C dL_law_180 lk_312 zX8_erase ⟨Nat.le_of_ble_eq_true rfl, Nat.le_of_ble_eq_true rfl⟩ sh0 rfl rfl (Nat.le_of_ble_eq_true rfl) rfl (s_erase (E := E) hI ) (fun v u K => ?_)
  refine mG_aload_n C dL_law_183 rfl rfl ?_
  refine mG_Vi (Z := MX9_erase) (as := []) (rest := [.int v]) C dL_law_184 lk_959 zX9_erase ⟨Nat.le_of_ble_eq_true rfl, Nat.le_of_ble_eq_true rfl⟩ sh60 rfl rfl (Nat.le_of_ble_eq_true rfl) rfl K (fun v' u' K => ?_)
  refine mG_icmp_eq (tgt := 989) C dL_law_187 rfl (fun _ => ?_) (fun h => absurd K.1 h)
  obtain ⟨-, Z', hZ⟩ := K
  exact kk u' Z' hZ
set_option maxRecDepth 20000 in
set_option maxHeartbeats 1000000 in
theorem lw_c2 (C : mCtx X E ML_law) (S : lScr X E L xs) (hL : L ≤ 3584) {i : Nat} (hi : i + 7 ≤ L) {Z : mZ} (hI : zI Z w) (kk : ∀ u Z, zI Z u → mG X E ML_law 989 [.ref 150, .ref 0, .ref 60, .int (nI i)] [] u) : mG X E ML_law 192 [.ref 150, .ref 0, .ref 60, .int (nI i)] [] w := by
  refine mG_aload_n C dL_law_192 rfl rfl ?_
  refine mG_Vi (Z := MX8_fault) (as := []) (rest := []) C dL_law_193 lk_316 zX8_fault ⟨Nat.le_of_ble_eq_true rfl, Nat.le_of_ble_eq_true rfl⟩ sh0 rfl rfl (Nat.le_of_ble_eq_true rfl) rfl (s_fault (E := E) hI ) (fun v u K => ?_)
  refine mG_aload_n C dL_law_196 rfl rfl ?_
  refine mG_Vi (Z := MX9_fault) (as := []) (rest := [.int v]) C dL_law_197 lk_963 zX9_fault ⟨Nat.le_of_ble_eq_true rfl, Nat.le_of_ble_eq_true rfl⟩ sh60 rfl rfl (Nat.le_of_ble_eq_true rfl) rfl K (fun v' u' K => ?_)
  refine mG_icmp_eq (tgt := 989) C dL_law_200 rfl (fun _ => ?_) (fun h => absurd K.1 h)
  obtain ⟨-, Z', hZ⟩ := K
  exact kk u' Z' hZ
set_option maxRecDepth 20000 in
set_option maxHeartbeats 1000000 in
theorem lw_c3 (C : mCtx X E ML_law) (S : lScr X E L xs) (hL : L ≤ 3584) {i : Nat} (hi : i + 7 ≤ L) {Z : mZ} (hI : zI Z w) (kk : ∀ u Z, zI Z u → mG X E ML_law 989 [.ref 150, .ref 0, .ref 60, .int (nI i)] [] u) : mG X E ML_law 205 [.ref 150, .ref 0, .ref 60, .int (nI i)] [] w := by
  refine mG_aload_n C dL_law_205 rfl rfl ?_
  refine mG_Vi (Z := MX8_city) (as := []) (rest := []) C dL_law_206 lk_430 zX8_city ⟨Nat.le_of_ble_eq_true rfl, Nat.le_of_ble_eq_true rfl⟩ sh0 rfl rfl (Nat.le_of_ble_eq_true rfl) rfl (s_city (E := E) hI ) (fun v u K => ?_)
  refine mG_aload_n C dL_law_209 rfl rfl ?_
  refine mG_Vi (Z := MX9_city) (as := []) (rest := [.int v]) C dL_law_210 lk_1010 zX9_city ⟨Nat.le_of_ble_eq_true rfl, Nat.le_of_ble_eq_true rfl⟩ sh60 rfl rfl (Nat.le_of_ble_eq_true rfl) rfl K (fun v' u' K => ?_)
  refine mG_icmp_eq (tgt := 989) C dL_law_213 rfl (fun _ => ?_) (fun h => absurd K.1 h)
  obtain ⟨-, Z', hZ⟩ := K
  exact kk u' Z' hZ
set_option maxRecDepth 20000 in
set_option maxHeartbeats 1000000 in
theorem lw_c4 (C : mCtx X E ML_law) (S : lScr X E L xs) (hL : L ≤ 3584) {i : Nat} (hi : i + 7 ≤ L) {Z : mZ} (hI : zI Z w) (kk : ∀ u Z, zI Z u → mG X E ML_law 989 [.ref 150, .ref 0, .ref 60, .int (nI i)] [] u) : mG X E ML_law 218 [.ref 150, .ref 0, .ref 60, .int (nI i)] [] w := by
  refine mG_aload_n C dL_law_218 rfl rfl ?_
  refine mG_aload_n C dL_law_219 rfl rfl ?_
  refine mG_iload_n C dL_law_220 rfl rfl ?_
  refine mG_iconst C dL_law_221 ic1 ?_
  refine mG_iadd C dL_law_222 ?_
  refine mG_sld C S dL_law_223 (lw_inb (k := 1) hL hi (by decide)) ?_
  refine mG_aload_n C dL_law_224 rfl rfl ?_
  refine mG_iload_n C dL_law_225 rfl rfl ?_
  refine mG_iconst C dL_law_226 ic2 ?_
  refine mG_iadd C dL_law_227 ?_
  refine mG_sld C S dL_law_228 (lw_inb (k := 2) hL hi (by decide)) ?_
  refine mG_Vi (Z := MX8_fact) (as := [.int (xs (nI i + nI 1).toNatClampNeg), .int (xs (nI i + nI 2).toNatClampNeg)]) (rest := []) C dL_law_229 lk_462 zX8_fact ⟨Nat.le_of_ble_eq_true rfl, Nat.le_of_ble_eq_true rfl⟩ sh0 rfl rfl (Nat.le_of_ble_eq_true rfl) rfl (s_fact (E := E) hI (xs (nI i + nI 1).toNatClampNeg) (xs (nI i + nI 2).toNatClampNeg)) (fun v u K => ?_)
  refine mG_aload_n C dL_law_232 rfl rfl ?_
  refine mG_aload_n C dL_law_233 rfl rfl ?_
  refine mG_iload_n C dL_law_234 rfl rfl ?_
  refine mG_iconst C dL_law_235 ic1 ?_
  refine mG_iadd C dL_law_236 ?_
  refine mG_sld C S dL_law_237 (lw_inb (k := 1) hL hi (by decide)) ?_
  refine mG_aload_n C dL_law_238 rfl rfl ?_
  refine mG_iload_n C dL_law_239 rfl rfl ?_
  refine mG_iconst C dL_law_240 ic2 ?_
  refine mG_iadd C dL_law_241 ?_
  refine mG_sld C S dL_law_242 (lw_inb (k := 2) hL hi (by decide)) ?_
  refine mG_Vi (Z := MX9_fact) (as := [.int (xs (nI i + nI 1).toNatClampNeg), .int (xs (nI i + nI 2).toNatClampNeg)]) (rest := [.int v]) C dL_law_243 lk_1018 zX9_fact ⟨Nat.le_of_ble_eq_true rfl, Nat.le_of_ble_eq_true rfl⟩ sh60 rfl rfl (Nat.le_of_ble_eq_true rfl) rfl K (fun v' u' K => ?_)
  refine mG_icmp_eq (tgt := 989) C dL_law_246 rfl (fun _ => ?_) (fun h => absurd K.1 h)
  obtain ⟨-, Z', hZ⟩ := K
  exact kk u' Z' hZ
set_option maxRecDepth 20000 in
set_option maxHeartbeats 1000000 in
theorem lw_c5 (C : mCtx X E ML_law) (S : lScr X E L xs) (hL : L ≤ 3584) {i : Nat} (hi : i + 7 ≤ L) {Z : mZ} (hI : zI Z w) (kk : ∀ u Z, zI Z u → mG X E ML_law 989 [.ref 150, .ref 0, .ref 60, .int (nI i)] [] u) : mG X E ML_law 251 [.ref 150, .ref 0, .ref 60, .int (nI i)] [] w := by
  refine mG_aload_n C dL_law_251 rfl rfl ?_
  refine mG_aload_n C dL_law_252 rfl rfl ?_
  refine mG_iload_n C dL_law_253 rfl rfl ?_
  refine mG_iconst C dL_law_254 ic1 ?_
  refine mG_iadd C dL_law_255 ?_
  refine mG_sld C S dL_law_256 (lw_inb (k := 1) hL hi (by decide)) ?_
  refine mG_aload_n C dL_law_257 rfl rfl ?_
  refine mG_iload_n C dL_law_258 rfl rfl ?_
  refine mG_iconst C dL_law_259 ic2 ?_
  refine mG_iadd C dL_law_260 ?_
  refine mG_sld C S dL_law_261 (lw_inb (k := 2) hL hi (by decide)) ?_
  refine mG_Vi (Z := MX8_one) (as := [.int (xs (nI i + nI 1).toNatClampNeg), .int (xs (nI i + nI 2).toNatClampNeg)]) (rest := []) C dL_law_262 lk_470 zX8_one ⟨Nat.le_of_ble_eq_true rfl, Nat.le_of_ble_eq_true rfl⟩ sh0 rfl rfl (Nat.le_of_ble_eq_true rfl) rfl (s_one (E := E) hI (xs (nI i + nI 1).toNatClampNeg) (xs (nI i + nI 2).toNatClampNeg)) (fun v u K => ?_)
  refine mG_aload_n C dL_law_265 rfl rfl ?_
  refine mG_aload_n C dL_law_266 rfl rfl ?_
  refine mG_iload_n C dL_law_267 rfl rfl ?_
  refine mG_iconst C dL_law_268 ic1 ?_
  refine mG_iadd C dL_law_269 ?_
  refine mG_sld C S dL_law_270 (lw_inb (k := 1) hL hi (by decide)) ?_
  refine mG_aload_n C dL_law_271 rfl rfl ?_
  refine mG_iload_n C dL_law_272 rfl rfl ?_
  refine mG_iconst C dL_law_273 ic2 ?_
  refine mG_iadd C dL_law_274 ?_
  refine mG_sld C S dL_law_275 (lw_inb (k := 2) hL hi (by decide)) ?_
  refine mG_Vi (Z := MX9_one) (as := [.int (xs (nI i + nI 1).toNatClampNeg), .int (xs (nI i + nI 2).toNatClampNeg)]) (rest := [.int v]) C dL_law_276 lk_1026 zX9_one ⟨Nat.le_of_ble_eq_true rfl, Nat.le_of_ble_eq_true rfl⟩ sh60 rfl rfl (Nat.le_of_ble_eq_true rfl) rfl K (fun v' u' K => ?_)
  refine mG_icmp_eq (tgt := 989) C dL_law_279 rfl (fun _ => ?_) (fun h => absurd K.1 h)
  obtain ⟨-, Z', hZ⟩ := K
  exact kk u' Z' hZ
set_option maxRecDepth 20000 in
set_option maxHeartbeats 1000000 in
theorem lw_c6 (C : mCtx X E ML_law) (S : lScr X E L xs) (hL : L ≤ 3584) {i : Nat} (hi : i + 7 ≤ L) {Z : mZ} (hI : zI Z w) (kk : ∀ u Z, zI Z u → mG X E ML_law 989 [.ref 150, .ref 0, .ref 60, .int (nI i)] [] u) : mG X E ML_law 284 [.ref 150, .ref 0, .ref 60, .int (nI i)] [] w := by
  refine mG_aload_n C dL_law_284 rfl rfl ?_
  refine mG_aload_n C dL_law_285 rfl rfl ?_
  refine mG_iload_n C dL_law_286 rfl rfl ?_
  refine mG_iconst C dL_law_287 ic1 ?_
  refine mG_iadd C dL_law_288 ?_
  refine mG_sld C S dL_law_289 (lw_inb (k := 1) hL hi (by decide)) ?_
  refine mG_aload_n C dL_law_290 rfl rfl ?_
  refine mG_iload_n C dL_law_291 rfl rfl ?_
  refine mG_iconst C dL_law_292 ic2 ?_
  refine mG_iadd C dL_law_293 ?_
  refine mG_sld C S dL_law_294 (lw_inb (k := 2) hL hi (by decide)) ?_
  refine mG_Vi (Z := MX8_cause) (as := [.int (xs (nI i + nI 1).toNatClampNeg), .int (xs (nI i + nI 2).toNatClampNeg)]) (rest := []) C dL_law_295 lk_478 zX8_cause ⟨Nat.le_of_ble_eq_true rfl, Nat.le_of_ble_eq_true rfl⟩ sh0 rfl rfl (Nat.le_of_ble_eq_true rfl) rfl (s_cause (E := E) hI (xs (nI i + nI 1).toNatClampNeg) (xs (nI i + nI 2).toNatClampNeg)) (fun v u K => ?_)
  refine mG_aload_n C dL_law_298 rfl rfl ?_
  refine mG_aload_n C dL_law_299 rfl rfl ?_
  refine mG_iload_n C dL_law_300 rfl rfl ?_
  refine mG_iconst C dL_law_301 ic1 ?_
  refine mG_iadd C dL_law_302 ?_
  refine mG_sld C S dL_law_303 (lw_inb (k := 1) hL hi (by decide)) ?_
  refine mG_aload_n C dL_law_304 rfl rfl ?_
  refine mG_iload_n C dL_law_305 rfl rfl ?_
  refine mG_iconst C dL_law_306 ic2 ?_
  refine mG_iadd C dL_law_307 ?_
  refine mG_sld C S dL_law_308 (lw_inb (k := 2) hL hi (by decide)) ?_
  refine mG_Vi (Z := MX9_cause) (as := [.int (xs (nI i + nI 1).toNatClampNeg), .int (xs (nI i + nI 2).toNatClampNeg)]) (rest := [.int v]) C dL_law_309 lk_1034 zX9_cause ⟨Nat.le_of_ble_eq_true rfl, Nat.le_of_ble_eq_true rfl⟩ sh60 rfl rfl (Nat.le_of_ble_eq_true rfl) rfl K (fun v' u' K => ?_)
  refine mG_icmp_eq (tgt := 989) C dL_law_312 rfl (fun _ => ?_) (fun h => absurd K.1 h)
  obtain ⟨-, Z', hZ⟩ := K
  exact kk u' Z' hZ
set_option maxRecDepth 20000 in
set_option maxHeartbeats 1000000 in
theorem lw_c7 (C : mCtx X E ML_law) (S : lScr X E L xs) (hL : L ≤ 3584) {i : Nat} (hi : i + 7 ≤ L) {Z : mZ} (hI : zI Z w) (kk : ∀ u Z, zI Z u → mG X E ML_law 989 [.ref 150, .ref 0, .ref 60, .int (nI i)] [] u) : mG X E ML_law 317 [.ref 150, .ref 0, .ref 60, .int (nI i)] [] w := by
  refine mG_aload_n C dL_law_317 rfl rfl ?_
  refine mG_aload_n C dL_law_318 rfl rfl ?_
  refine mG_iload_n C dL_law_319 rfl rfl ?_
  refine mG_iconst C dL_law_320 ic1 ?_
  refine mG_iadd C dL_law_321 ?_
  refine mG_sld C S dL_law_322 (lw_inb (k := 1) hL hi (by decide)) ?_
  refine mG_aload_n C dL_law_323 rfl rfl ?_
  refine mG_iload_n C dL_law_324 rfl rfl ?_
  refine mG_iconst C dL_law_325 ic2 ?_
  refine mG_iadd C dL_law_326 ?_
  refine mG_sld C S dL_law_327 (lw_inb (k := 2) hL hi (by decide)) ?_
  refine mG_Vi (Z := MX8_belief) (as := [.int (xs (nI i + nI 1).toNatClampNeg), .int (xs (nI i + nI 2).toNatClampNeg)]) (rest := []) C dL_law_328 lk_482 zX8_belief ⟨Nat.le_of_ble_eq_true rfl, Nat.le_of_ble_eq_true rfl⟩ sh0 rfl rfl (Nat.le_of_ble_eq_true rfl) rfl (s_belief (E := E) hI (xs (nI i + nI 1).toNatClampNeg) (xs (nI i + nI 2).toNatClampNeg)) (fun v u K => ?_)
  refine mG_aload_n C dL_law_331 rfl rfl ?_
  refine mG_aload_n C dL_law_332 rfl rfl ?_
  refine mG_iload_n C dL_law_333 rfl rfl ?_
  refine mG_iconst C dL_law_334 ic1 ?_
  refine mG_iadd C dL_law_335 ?_
  refine mG_sld C S dL_law_336 (lw_inb (k := 1) hL hi (by decide)) ?_
  refine mG_aload_n C dL_law_337 rfl rfl ?_
  refine mG_iload_n C dL_law_338 rfl rfl ?_
  refine mG_iconst C dL_law_339 ic2 ?_
  refine mG_iadd C dL_law_340 ?_
  refine mG_sld C S dL_law_341 (lw_inb (k := 2) hL hi (by decide)) ?_
  refine mG_Vi (Z := MX9_belief) (as := [.int (xs (nI i + nI 1).toNatClampNeg), .int (xs (nI i + nI 2).toNatClampNeg)]) (rest := [.int v]) C dL_law_342 lk_1038 zX9_belief ⟨Nat.le_of_ble_eq_true rfl, Nat.le_of_ble_eq_true rfl⟩ sh60 rfl rfl (Nat.le_of_ble_eq_true rfl) rfl K (fun v' u' K => ?_)
  refine mG_icmp_eq (tgt := 989) C dL_law_345 rfl (fun _ => ?_) (fun h => absurd K.1 h)
  obtain ⟨-, Z', hZ⟩ := K
  exact kk u' Z' hZ
set_option maxRecDepth 20000 in
set_option maxHeartbeats 1000000 in
theorem lw_c8 (C : mCtx X E ML_law) (S : lScr X E L xs) (hL : L ≤ 3584) {i : Nat} (hi : i + 7 ≤ L) {Z : mZ} (hI : zI Z w) (kk : ∀ u Z, zI Z u → mG X E ML_law 989 [.ref 150, .ref 0, .ref 60, .int (nI i)] [] u) : mG X E ML_law 350 [.ref 150, .ref 0, .ref 60, .int (nI i)] [] w := by
  refine mG_aload_n C dL_law_350 rfl rfl ?_
  refine mG_aload_n C dL_law_351 rfl rfl ?_
  refine mG_iload_n C dL_law_352 rfl rfl ?_
  refine mG_iconst C dL_law_353 ic1 ?_
  refine mG_iadd C dL_law_354 ?_
  refine mG_sld C S dL_law_355 (lw_inb (k := 1) hL hi (by decide)) ?_
  refine mG_aload_n C dL_law_356 rfl rfl ?_
  refine mG_iload_n C dL_law_357 rfl rfl ?_
  refine mG_iconst C dL_law_358 ic2 ?_
  refine mG_iadd C dL_law_359 ?_
  refine mG_sld C S dL_law_360 (lw_inb (k := 2) hL hi (by decide)) ?_
  refine mG_Vi (Z := MX8_as) (as := [.int (xs (nI i + nI 1).toNatClampNeg), .int (xs (nI i + nI 2).toNatClampNeg)]) (rest := []) C dL_law_361 lk_492 zX8_as ⟨Nat.le_of_ble_eq_true rfl, Nat.le_of_ble_eq_true rfl⟩ sh0 rfl rfl (Nat.le_of_ble_eq_true rfl) rfl (s_as (E := E) hI (xs (nI i + nI 1).toNatClampNeg) (xs (nI i + nI 2).toNatClampNeg)) (fun v u K => ?_)
  refine mG_aload_n C dL_law_364 rfl rfl ?_
  refine mG_aload_n C dL_law_365 rfl rfl ?_
  refine mG_iload_n C dL_law_366 rfl rfl ?_
  refine mG_iconst C dL_law_367 ic1 ?_
  refine mG_iadd C dL_law_368 ?_
  refine mG_sld C S dL_law_369 (lw_inb (k := 1) hL hi (by decide)) ?_
  refine mG_aload_n C dL_law_370 rfl rfl ?_
  refine mG_iload_n C dL_law_371 rfl rfl ?_
  refine mG_iconst C dL_law_372 ic2 ?_
  refine mG_iadd C dL_law_373 ?_
  refine mG_sld C S dL_law_374 (lw_inb (k := 2) hL hi (by decide)) ?_
  refine mG_Vi (Z := MX9_as) (as := [.int (xs (nI i + nI 1).toNatClampNeg), .int (xs (nI i + nI 2).toNatClampNeg)]) (rest := [.int v]) C dL_law_375 lk_1042 zX9_as ⟨Nat.le_of_ble_eq_true rfl, Nat.le_of_ble_eq_true rfl⟩ sh60 rfl rfl (Nat.le_of_ble_eq_true rfl) rfl K (fun v' u' K => ?_)
  refine mG_icmp_eq (tgt := 989) C dL_law_378 rfl (fun _ => ?_) (fun h => absurd K.1 h)
  obtain ⟨-, Z', hZ⟩ := K
  exact kk u' Z' hZ
set_option maxRecDepth 20000 in
set_option maxHeartbeats 1000000 in
theorem lw_c9 (C : mCtx X E ML_law) (S : lScr X E L xs) (hL : L ≤ 3584) {i : Nat} (hi : i + 7 ≤ L) {Z : mZ} (hI : zI Z w) (kk : ∀ u Z, zI Z u → mG X E ML_law 989 [.ref 150, .ref 0, .ref 60, .int (nI i)] [] u) : mG X E ML_law 383 [.ref 150, .ref 0, .ref 60, .int (nI i)] [] w := by
  refine mG_aload_n C dL_law_383 rfl rfl ?_
  refine mG_aload_n C dL_law_384 rfl rfl ?_
  refine mG_iload_n C dL_law_385 rfl rfl ?_
  refine mG_iconst C dL_law_386 ic1 ?_
  refine mG_iadd C dL_law_387 ?_
  refine mG_sld C S dL_law_388 (lw_inb (k := 1) hL hi (by decide)) ?_
  refine mG_aload_n C dL_law_389 rfl rfl ?_
  refine mG_iload_n C dL_law_390 rfl rfl ?_
  refine mG_iconst C dL_law_391 ic2 ?_
  refine mG_iadd C dL_law_392 ?_
  refine mG_sld C S dL_law_393 (lw_inb (k := 2) hL hi (by decide)) ?_
  refine mG_Vi (Z := MX8_sayingAs) (as := [.int (xs (nI i + nI 1).toNatClampNeg), .int (xs (nI i + nI 2).toNatClampNeg)]) (rest := []) C dL_law_394 lk_505 zX8_sayingAs ⟨Nat.le_of_ble_eq_true rfl, Nat.le_of_ble_eq_true rfl⟩ sh0 rfl rfl (Nat.le_of_ble_eq_true rfl) rfl (s_sayingAs (E := E) hI (xs (nI i + nI 1).toNatClampNeg) (xs (nI i + nI 2).toNatClampNeg)) (fun v u K => ?_)
  refine mG_aload_n C dL_law_397 rfl rfl ?_
  refine mG_aload_n C dL_law_398 rfl rfl ?_
  refine mG_iload_n C dL_law_399 rfl rfl ?_
  refine mG_iconst C dL_law_400 ic1 ?_
  refine mG_iadd C dL_law_401 ?_
  refine mG_sld C S dL_law_402 (lw_inb (k := 1) hL hi (by decide)) ?_
  refine mG_aload_n C dL_law_403 rfl rfl ?_
  refine mG_iload_n C dL_law_404 rfl rfl ?_
  refine mG_iconst C dL_law_405 ic2 ?_
  refine mG_iadd C dL_law_406 ?_
  refine mG_sld C S dL_law_407 (lw_inb (k := 2) hL hi (by decide)) ?_
  refine mG_Vi (Z := MX9_sayingAs) (as := [.int (xs (nI i + nI 1).toNatClampNeg), .int (xs (nI i + nI 2).toNatClampNeg)]) (rest := [.int v]) C dL_law_408 lk_1054 zX9_sayingAs ⟨Nat.le_of_ble_eq_true rfl, Nat.le_of_ble_eq_true rfl⟩ sh60 rfl rfl (Nat.le_of_ble_eq_true rfl) rfl K (fun v' u' K => ?_)
  refine mG_icmp_eq (tgt := 989) C dL_law_411 rfl (fun _ => ?_) (fun h => absurd K.1 h)
  obtain ⟨-, Z', hZ⟩ := K
  exact kk u' Z' hZ
set_option maxRecDepth 20000 in
set_option maxHeartbeats 1000000 in
theorem lw_c10 (C : mCtx X E ML_law) (S : lScr X E L xs) (hL : L ≤ 3584) {i : Nat} (hi : i + 7 ≤ L) {Z : mZ} (hI : zI Z w) (kk : ∀ u Z, zI Z u → mG X E ML_law 989 [.ref 150, .ref 0, .ref 60, .int (nI i)] [] u) : mG X E ML_law 416 [.ref 150, .ref 0, .ref 60, .int (nI i)] [] w := by
  refine mG_aload_n C dL_law_416 rfl rfl ?_
  refine mG_aload_n C dL_law_417 rfl rfl ?_
  refine mG_iload_n C dL_law_418 rfl rfl ?_
  refine mG_iconst C dL_law_419 ic1 ?_
  refine mG_iadd C dL_law_420 ?_
  refine mG_sld C S dL_law_421 (lw_inb (k := 1) hL hi (by decide)) ?_
  refine mG_aload_n C dL_law_422 rfl rfl ?_
  refine mG_iload_n C dL_law_423 rfl rfl ?_
  refine mG_iconst C dL_law_424 ic2 ?_
  refine mG_iadd C dL_law_425 ?_
  refine mG_sld C S dL_law_426 (lw_inb (k := 2) hL hi (by decide)) ?_
  refine mG_aload_n C dL_law_427 rfl rfl ?_
  refine mG_iload_n C dL_law_428 rfl rfl ?_
  refine mG_iconst C dL_law_429 ic3 ?_
  refine mG_iadd C dL_law_430 ?_
  refine mG_sld C S dL_law_431 (lw_inb (k := 3) hL hi (by decide)) ?_
  refine mG_aload_n C dL_law_432 rfl rfl ?_
  refine mG_iload_n C dL_law_433 rfl rfl ?_
  refine mG_iconst C dL_law_434 ic4 ?_
  refine mG_iadd C dL_law_435 ?_
  refine mG_sld C S dL_law_436 (lw_inb (k := 4) hL hi (by decide)) ?_
  refine mG_aload_n C dL_law_437 rfl rfl ?_
  refine mG_iload_n C dL_law_438 rfl rfl ?_
  refine mG_iconst C dL_law_439 ic5 ?_
  refine mG_iadd C dL_law_440 ?_
  refine mG_sld C S dL_law_441 (lw_inb (k := 5) hL hi (by decide)) ?_
  refine mG_Vi (Z := MX8_so) (as := [.int (xs (nI i + nI 1).toNatClampNeg), .int (xs (nI i + nI 2).toNatClampNeg), .int (xs (nI i + nI 3).toNatClampNeg), .int (xs (nI i + nI 4).toNatClampNeg), .int (xs (nI i + nI 5).toNatClampNeg)]) (rest := []) C dL_law_442 lk_516 zX8_so ⟨Nat.le_of_ble_eq_true rfl, Nat.le_of_ble_eq_true rfl⟩ sh0 rfl rfl (Nat.le_of_ble_eq_true rfl) rfl (s_so (E := E) hI (xs (nI i + nI 1).toNatClampNeg) (xs (nI i + nI 2).toNatClampNeg) (xs (nI i + nI 3).toNatClampNeg) (xs (nI i + nI 4).toNatClampNeg) (xs (nI i + nI 5).toNatClampNeg)) (fun v u K => ?_)
  refine mG_aload_n C dL_law_445 rfl rfl ?_
  refine mG_aload_n C dL_law_446 rfl rfl ?_
  refine mG_iload_n C dL_law_447 rfl rfl ?_
  refine mG_iconst C dL_law_448 ic1 ?_
  refine mG_iadd C dL_law_449 ?_
  refine mG_sld C S dL_law_450 (lw_inb (k := 1) hL hi (by decide)) ?_
  refine mG_aload_n C dL_law_451 rfl rfl ?_
  refine mG_iload_n C dL_law_452 rfl rfl ?_
  refine mG_iconst C dL_law_453 ic2 ?_
  refine mG_iadd C dL_law_454 ?_
  refine mG_sld C S dL_law_455 (lw_inb (k := 2) hL hi (by decide)) ?_
  refine mG_aload_n C dL_law_456 rfl rfl ?_
  refine mG_iload_n C dL_law_457 rfl rfl ?_
  refine mG_iconst C dL_law_458 ic3 ?_
  refine mG_iadd C dL_law_459 ?_
  refine mG_sld C S dL_law_460 (lw_inb (k := 3) hL hi (by decide)) ?_
  refine mG_aload_n C dL_law_461 rfl rfl ?_
  refine mG_iload_n C dL_law_462 rfl rfl ?_
  refine mG_iconst C dL_law_463 ic4 ?_
  refine mG_iadd C dL_law_464 ?_
  refine mG_sld C S dL_law_465 (lw_inb (k := 4) hL hi (by decide)) ?_
  refine mG_aload_n C dL_law_466 rfl rfl ?_
  refine mG_iload_n C dL_law_467 rfl rfl ?_
  refine mG_iconst C dL_law_468 ic5 ?_
  refine mG_iadd C dL_law_469 ?_
  refine mG_sld C S dL_law_470 (lw_inb (k := 5) hL hi (by decide)) ?_
  refine mG_Vi (Z := MX9_so) (as := [.int (xs (nI i + nI 1).toNatClampNeg), .int (xs (nI i + nI 2).toNatClampNeg), .int (xs (nI i + nI 3).toNatClampNeg), .int (xs (nI i + nI 4).toNatClampNeg), .int (xs (nI i + nI 5).toNatClampNeg)]) (rest := [.int v]) C dL_law_471 lk_1058 zX9_so ⟨Nat.le_of_ble_eq_true rfl, Nat.le_of_ble_eq_true rfl⟩ sh60 rfl rfl (Nat.le_of_ble_eq_true rfl) rfl K (fun v' u' K => ?_)
  refine mG_icmp_eq (tgt := 989) C dL_law_474 rfl (fun _ => ?_) (fun h => absurd K.1 h)
  obtain ⟨-, Z', hZ⟩ := K
  exact kk u' Z' hZ
set_option maxRecDepth 20000 in
set_option maxHeartbeats 1000000 in
theorem lw_c11 (C : mCtx X E ML_law) (S : lScr X E L xs) (hL : L ≤ 3584) {i : Nat} (hi : i + 7 ≤ L) {Z : mZ} (hI : zI Z w) (kk : ∀ u Z, zI Z u → mG X E ML_law 989 [.ref 150, .ref 0, .ref 60, .int (nI i)] [] u) : mG X E ML_law 479 [.ref 150, .ref 0, .ref 60, .int (nI i)] [] w := by
  refine mG_aload_n C dL_law_479 rfl rfl ?_
  refine mG_aload_n C dL_law_480 rfl rfl ?_
  refine mG_iload_n C dL_law_481 rfl rfl ?_
  refine mG_iconst C dL_law_482 ic1 ?_
  refine mG_iadd C dL_law_483 ?_
  refine mG_sld C S dL_law_484 (lw_inb (k := 1) hL hi (by decide)) ?_
  refine mG_aload_n C dL_law_485 rfl rfl ?_
  refine mG_iload_n C dL_law_486 rfl rfl ?_
  refine mG_iconst C dL_law_487 ic2 ?_
  refine mG_iadd C dL_law_488 ?_
  refine mG_sld C S dL_law_489 (lw_inb (k := 2) hL hi (by decide)) ?_
  refine mG_aload_n C dL_law_490 rfl rfl ?_
  refine mG_iload_n C dL_law_491 rfl rfl ?_
  refine mG_iconst C dL_law_492 ic3 ?_
  refine mG_iadd C dL_law_493 ?_
  refine mG_sld C S dL_law_494 (lw_inb (k := 3) hL hi (by decide)) ?_
  refine mG_aload_n C dL_law_495 rfl rfl ?_
  refine mG_iload_n C dL_law_496 rfl rfl ?_
  refine mG_iconst C dL_law_497 ic4 ?_
  refine mG_iadd C dL_law_498 ?_
  refine mG_sld C S dL_law_499 (lw_inb (k := 4) hL hi (by decide)) ?_
  refine mG_aload_n C dL_law_500 rfl rfl ?_
  refine mG_iload_n C dL_law_501 rfl rfl ?_
  refine mG_iconst C dL_law_502 ic5 ?_
  refine mG_iadd C dL_law_503 ?_
  refine mG_sld C S dL_law_504 (lw_inb (k := 5) hL hi (by decide)) ?_
  refine mG_aload_n C dL_law_505 rfl rfl ?_
  refine mG_iload_n C dL_law_506 rfl rfl ?_
  refine mG_bipush C dL_law_507 bp6 ?_
  refine mG_iadd C dL_law_509 ?_
  refine mG_sld C S dL_law_510 (lw_inb (k := 6) hL hi (by decide)) ?_
  refine mG_Vi (Z := MX8_say) (as := [.int (xs (nI i + nI 1).toNatClampNeg), .int (xs (nI i + nI 2).toNatClampNeg), .int (xs (nI i + nI 3).toNatClampNeg), .int (xs (nI i + nI 4).toNatClampNeg), .int (xs (nI i + nI 5).toNatClampNeg), .int (xs (nI i + nI 6).toNatClampNeg)]) (rest := []) C dL_law_511 lk_603 zX8_say ⟨Nat.le_of_ble_eq_true rfl, Nat.le_of_ble_eq_true rfl⟩ sh0 rfl rfl (Nat.le_of_ble_eq_true rfl) rfl (s_say (E := E) hI (xs (nI i + nI 1).toNatClampNeg) (xs (nI i + nI 2).toNatClampNeg) (xs (nI i + nI 3).toNatClampNeg) (xs (nI i + nI 4).toNatClampNeg) (xs (nI i + nI 5).toNatClampNeg) (xs (nI i + nI 6).toNatClampNeg)) (fun v u K => ?_)
  refine mG_aload_n C dL_law_514 rfl rfl ?_
  refine mG_aload_n C dL_law_515 rfl rfl ?_
  refine mG_iload_n C dL_law_516 rfl rfl ?_
  refine mG_iconst C dL_law_517 ic1 ?_
  refine mG_iadd C dL_law_518 ?_
  refine mG_sld C S dL_law_519 (lw_inb (k := 1) hL hi (by decide)) ?_
  refine mG_aload_n C dL_law_520 rfl rfl ?_
  refine mG_iload_n C dL_law_521 rfl rfl ?_
  refine mG_iconst C dL_law_522 ic2 ?_
  refine mG_iadd C dL_law_523 ?_
  refine mG_sld C S dL_law_524 (lw_inb (k := 2) hL hi (by decide)) ?_
  refine mG_aload_n C dL_law_525 rfl rfl ?_
  refine mG_iload_n C dL_law_526 rfl rfl ?_
  refine mG_iconst C dL_law_527 ic3 ?_
  refine mG_iadd C dL_law_528 ?_
  refine mG_sld C S dL_law_529 (lw_inb (k := 3) hL hi (by decide)) ?_
  refine mG_aload_n C dL_law_530 rfl rfl ?_
  refine mG_iload_n C dL_law_531 rfl rfl ?_
  refine mG_iconst C dL_law_532 ic4 ?_
  refine mG_iadd C dL_law_533 ?_
  refine mG_sld C S dL_law_534 (lw_inb (k := 4) hL hi (by decide)) ?_
  refine mG_aload_n C dL_law_535 rfl rfl ?_
  refine mG_iload_n C dL_law_536 rfl rfl ?_
  refine mG_iconst C dL_law_537 ic5 ?_
  refine mG_iadd C dL_law_538 ?_
  refine mG_sld C S dL_law_539 (lw_inb (k := 5) hL hi (by decide)) ?_
  refine mG_aload_n C dL_law_540 rfl rfl ?_
  refine mG_iload_n C dL_law_541 rfl rfl ?_
  refine mG_bipush C dL_law_542 bp6 ?_
  refine mG_iadd C dL_law_544 ?_
  refine mG_sld C S dL_law_545 (lw_inb (k := 6) hL hi (by decide)) ?_
  refine mG_Vi (Z := MX9_say) (as := [.int (xs (nI i + nI 1).toNatClampNeg), .int (xs (nI i + nI 2).toNatClampNeg), .int (xs (nI i + nI 3).toNatClampNeg), .int (xs (nI i + nI 4).toNatClampNeg), .int (xs (nI i + nI 5).toNatClampNeg), .int (xs (nI i + nI 6).toNatClampNeg)]) (rest := [.int v]) C dL_law_546 lk_1103 zX9_say ⟨Nat.le_of_ble_eq_true rfl, Nat.le_of_ble_eq_true rfl⟩ sh60 rfl rfl (Nat.le_of_ble_eq_true rfl) rfl K (fun v' u' K => ?_)
  refine mG_icmp_eq (tgt := 989) C dL_law_549 rfl (fun _ => ?_) (fun h => absurd K.1 h)
  obtain ⟨-, Z', hZ⟩ := K
  exact kk u' Z' hZ
set_option maxRecDepth 20000 in
set_option maxHeartbeats 1000000 in
theorem lw_c12 (C : mCtx X E ML_law) (S : lScr X E L xs) (hL : L ≤ 3584) {i : Nat} (hi : i + 7 ≤ L) {Z : mZ} (hI : zI Z w) (kk : ∀ u Z, zI Z u → mG X E ML_law 989 [.ref 150, .ref 0, .ref 60, .int (nI i)] [] u) : mG X E ML_law 554 [.ref 150, .ref 0, .ref 60, .int (nI i)] [] w := by
  refine mG_aload_n C dL_law_554 rfl rfl ?_
  refine mG_Vi (Z := MX8_night) (as := []) (rest := []) C dL_law_555 lk_631 zX8_night ⟨Nat.le_of_ble_eq_true rfl, Nat.le_of_ble_eq_true rfl⟩ sh0 rfl rfl (Nat.le_of_ble_eq_true rfl) rfl (s_night (E := E) hI ) (fun v u K => ?_)
  refine mG_aload_n C dL_law_558 rfl rfl ?_
  refine mG_Vi (Z := MX9_night) (as := []) (rest := [.int v]) C dL_law_559 lk_1115 zX9_night ⟨Nat.le_of_ble_eq_true rfl, Nat.le_of_ble_eq_true rfl⟩ sh60 rfl rfl (Nat.le_of_ble_eq_true rfl) rfl K (fun v' u' K => ?_)
  refine mG_icmp_eq (tgt := 989) C dL_law_562 rfl (fun _ => ?_) (fun h => absurd K.1 h)
  obtain ⟨-, Z', hZ⟩ := K
  exact kk u' Z' hZ
set_option maxRecDepth 20000 in
set_option maxHeartbeats 1000000 in
theorem lw_c13 (C : mCtx X E ML_law) (S : lScr X E L xs) (hL : L ≤ 3584) {i : Nat} (hi : i + 7 ≤ L) {Z : mZ} (hI : zI Z w) (kk : ∀ u Z, zI Z u → mG X E ML_law 989 [.ref 150, .ref 0, .ref 60, .int (nI i)] [] u) : mG X E ML_law 567 [.ref 150, .ref 0, .ref 60, .int (nI i)] [] w := by
  refine mG_aload_n C dL_law_567 rfl rfl ?_
  refine mG_Vi (Z := MX8_undo) (as := []) (rest := []) C dL_law_568 lk_638 zX8_undo ⟨Nat.le_of_ble_eq_true rfl, Nat.le_of_ble_eq_true rfl⟩ sh0 rfl rfl (Nat.le_of_ble_eq_true rfl) rfl (s_undo (E := E) hI ) (fun v u K => ?_)
  refine mG_aload_n C dL_law_571 rfl rfl ?_
  refine mG_Vi (Z := MX9_undo) (as := []) (rest := [.int v]) C dL_law_572 lk_1123 zX9_undo ⟨Nat.le_of_ble_eq_true rfl, Nat.le_of_ble_eq_true rfl⟩ sh60 rfl rfl (Nat.le_of_ble_eq_true rfl) rfl K (fun v' u' K => ?_)
  refine mG_icmp_eq (tgt := 989) C dL_law_575 rfl (fun _ => ?_) (fun h => absurd K.1 h)
  obtain ⟨-, Z', hZ⟩ := K
  exact kk u' Z' hZ
set_option maxRecDepth 20000 in
set_option maxHeartbeats 1000000 in
theorem lw_c14 (C : mCtx X E ML_law) (S : lScr X E L xs) (hL : L ≤ 3584) {i : Nat} (hi : i + 7 ≤ L) {Z : mZ} (hI : zI Z w) (kk : ∀ u Z, zI Z u → mG X E ML_law 989 [.ref 150, .ref 0, .ref 60, .int (nI i)] [] u) : mG X E ML_law 580 [.ref 150, .ref 0, .ref 60, .int (nI i)] [] w := by
  refine mG_aload_n C dL_law_580 rfl rfl ?_
  refine mG_aload_n C dL_law_581 rfl rfl ?_
  refine mG_iload_n C dL_law_582 rfl rfl ?_
  refine mG_iconst C dL_law_583 ic1 ?_
  refine mG_iadd C dL_law_584 ?_
  refine mG_sld C S dL_law_585 (lw_inb (k := 1) hL hi (by decide)) ?_
  refine mG_Vi (Z := MX8_keep) (as := [.int (xs (nI i + nI 1).toNatClampNeg)]) (rest := []) C dL_law_586 lk_650 zX8_keep ⟨Nat.le_of_ble_eq_true rfl, Nat.le_of_ble_eq_true rfl⟩ sh0 rfl rfl (Nat.le_of_ble_eq_true rfl) rfl (s_keep (E := E) hI (xs (nI i + nI 1).toNatClampNeg)) (fun v u K => ?_)
  refine mG_aload_n C dL_law_589 rfl rfl ?_
  refine mG_aload_n C dL_law_590 rfl rfl ?_
  refine mG_iload_n C dL_law_591 rfl rfl ?_
  refine mG_iconst C dL_law_592 ic1 ?_
  refine mG_iadd C dL_law_593 ?_
  refine mG_sld C S dL_law_594 (lw_inb (k := 1) hL hi (by decide)) ?_
  refine mG_Vi (Z := MX9_keep) (as := [.int (xs (nI i + nI 1).toNatClampNeg)]) (rest := [.int v]) C dL_law_595 lk_1127 zX9_keep ⟨Nat.le_of_ble_eq_true rfl, Nat.le_of_ble_eq_true rfl⟩ sh60 rfl rfl (Nat.le_of_ble_eq_true rfl) rfl K (fun v' u' K => ?_)
  refine mG_icmp_eq (tgt := 989) C dL_law_598 rfl (fun _ => ?_) (fun h => absurd K.1 h)
  obtain ⟨-, Z', hZ⟩ := K
  exact kk u' Z' hZ
set_option maxRecDepth 20000 in
set_option maxHeartbeats 1000000 in
theorem lw_c15 (C : mCtx X E ML_law) (S : lScr X E L xs) (hL : L ≤ 3584) {i : Nat} (hi : i + 7 ≤ L) {Z : mZ} (hI : zI Z w) (kk : ∀ u Z, zI Z u → mG X E ML_law 989 [.ref 150, .ref 0, .ref 60, .int (nI i)] [] u) : mG X E ML_law 603 [.ref 150, .ref 0, .ref 60, .int (nI i)] [] w := by
  refine mG_aload_n C dL_law_603 rfl rfl ?_
  refine mG_aload_n C dL_law_604 rfl rfl ?_
  refine mG_iload_n C dL_law_605 rfl rfl ?_
  refine mG_iconst C dL_law_606 ic1 ?_
  refine mG_iadd C dL_law_607 ?_
  refine mG_sld C S dL_law_608 (lw_inb (k := 1) hL hi (by decide)) ?_
  refine mG_Vi (Z := MX8_back) (as := [.int (xs (nI i + nI 1).toNatClampNeg)]) (rest := []) C dL_law_609 lk_655 zX8_back ⟨Nat.le_of_ble_eq_true rfl, Nat.le_of_ble_eq_true rfl⟩ sh0 rfl rfl (Nat.le_of_ble_eq_true rfl) rfl (s_back (E := E) hI (xs (nI i + nI 1).toNatClampNeg)) (fun v u K => ?_)
  refine mG_aload_n C dL_law_612 rfl rfl ?_
  refine mG_aload_n C dL_law_613 rfl rfl ?_
  refine mG_iload_n C dL_law_614 rfl rfl ?_
  refine mG_iconst C dL_law_615 ic1 ?_
  refine mG_iadd C dL_law_616 ?_
  refine mG_sld C S dL_law_617 (lw_inb (k := 1) hL hi (by decide)) ?_
  refine mG_Vi (Z := MX9_back) (as := [.int (xs (nI i + nI 1).toNatClampNeg)]) (rest := [.int v]) C dL_law_618 lk_1131 zX9_back ⟨Nat.le_of_ble_eq_true rfl, Nat.le_of_ble_eq_true rfl⟩ sh60 rfl rfl (Nat.le_of_ble_eq_true rfl) rfl K (fun v' u' K => ?_)
  refine mG_icmp_eq (tgt := 989) C dL_law_621 rfl (fun _ => ?_) (fun h => absurd K.1 h)
  obtain ⟨-, Z', hZ⟩ := K
  exact kk u' Z' hZ
set_option maxRecDepth 20000 in
set_option maxHeartbeats 1000000 in
theorem lw_c16 (C : mCtx X E ML_law) (S : lScr X E L xs) (hL : L ≤ 3584) {i : Nat} (hi : i + 7 ≤ L) {Z : mZ} (hI : zI Z w) (kk : ∀ u Z, zI Z u → mG X E ML_law 989 [.ref 150, .ref 0, .ref 60, .int (nI i)] [] u) : mG X E ML_law 626 [.ref 150, .ref 0, .ref 60, .int (nI i)] [] w := by
  refine mG_aload_n C dL_law_626 rfl rfl ?_
  refine mG_aload_n C dL_law_627 rfl rfl ?_
  refine mG_iload_n C dL_law_628 rfl rfl ?_
  refine mG_iconst C dL_law_629 ic1 ?_
  refine mG_iadd C dL_law_630 ?_
  refine mG_sld C S dL_law_631 (lw_inb (k := 1) hL hi (by decide)) ?_
  refine mG_aload_n C dL_law_632 rfl rfl ?_
  refine mG_iload_n C dL_law_633 rfl rfl ?_
  refine mG_iconst C dL_law_634 ic2 ?_
  refine mG_iadd C dL_law_635 ?_
  refine mG_sld C S dL_law_636 (lw_inb (k := 2) hL hi (by decide)) ?_
  refine mG_Vi (Z := MX8_coming) (as := [.int (xs (nI i + nI 1).toNatClampNeg), .int (xs (nI i + nI 2).toNatClampNeg)]) (rest := []) C dL_law_637 lk_660 zX8_coming ⟨Nat.le_of_ble_eq_true rfl, Nat.le_of_ble_eq_true rfl⟩ sh0 rfl rfl (Nat.le_of_ble_eq_true rfl) rfl (s_coming (E := E) hI (xs (nI i + nI 1).toNatClampNeg) (xs (nI i + nI 2).toNatClampNeg)) (fun v u K => ?_)
  refine mG_aload_n C dL_law_640 rfl rfl ?_
  refine mG_aload_n C dL_law_641 rfl rfl ?_
  refine mG_iload_n C dL_law_642 rfl rfl ?_
  refine mG_iconst C dL_law_643 ic1 ?_
  refine mG_iadd C dL_law_644 ?_
  refine mG_sld C S dL_law_645 (lw_inb (k := 1) hL hi (by decide)) ?_
  refine mG_aload_n C dL_law_646 rfl rfl ?_
  refine mG_iload_n C dL_law_647 rfl rfl ?_
  refine mG_iconst C dL_law_648 ic2 ?_
  refine mG_iadd C dL_law_649 ?_
  refine mG_sld C S dL_law_650 (lw_inb (k := 2) hL hi (by decide)) ?_
  refine mG_Vi (Z := MX9_coming) (as := [.int (xs (nI i + nI 1).toNatClampNeg), .int (xs (nI i + nI 2).toNatClampNeg)]) (rest := [.int v]) C dL_law_651 lk_1135 zX9_coming ⟨Nat.le_of_ble_eq_true rfl, Nat.le_of_ble_eq_true rfl⟩ sh60 rfl rfl (Nat.le_of_ble_eq_true rfl) rfl K (fun v' u' K => ?_)
  refine mG_icmp_eq (tgt := 989) C dL_law_654 rfl (fun _ => ?_) (fun h => absurd K.1 h)
  obtain ⟨-, Z', hZ⟩ := K
  exact kk u' Z' hZ
set_option maxRecDepth 20000 in
set_option maxHeartbeats 1000000 in
theorem lw_c17 (C : mCtx X E ML_law) (S : lScr X E L xs) (hL : L ≤ 3584) {i : Nat} (hi : i + 7 ≤ L) {Z : mZ} (hI : zI Z w) (kk : ∀ u Z, zI Z u → mG X E ML_law 989 [.ref 150, .ref 0, .ref 60, .int (nI i)] [] u) : mG X E ML_law 659 [.ref 150, .ref 0, .ref 60, .int (nI i)] [] w := by
  refine mG_aload_n C dL_law_659 rfl rfl ?_
  refine mG_aload_n C dL_law_660 rfl rfl ?_
  refine mG_iload_n C dL_law_661 rfl rfl ?_
  refine mG_iconst C dL_law_662 ic1 ?_
  refine mG_iadd C dL_law_663 ?_
  refine mG_sld C S dL_law_664 (lw_inb (k := 1) hL hi (by decide)) ?_
  refine mG_Vi (Z := MX8_best) (as := [.int (xs (nI i + nI 1).toNatClampNeg)]) (rest := []) C dL_law_665 lk_664 zX8_best ⟨Nat.le_of_ble_eq_true rfl, Nat.le_of_ble_eq_true rfl⟩ sh0 rfl rfl (Nat.le_of_ble_eq_true rfl) rfl (s_best (E := E) hI (xs (nI i + nI 1).toNatClampNeg)) (fun v u K => ?_)
  refine mG_aload_n C dL_law_668 rfl rfl ?_
  refine mG_aload_n C dL_law_669 rfl rfl ?_
  refine mG_iload_n C dL_law_670 rfl rfl ?_
  refine mG_iconst C dL_law_671 ic1 ?_
  refine mG_iadd C dL_law_672 ?_
  refine mG_sld C S dL_law_673 (lw_inb (k := 1) hL hi (by decide)) ?_
  refine mG_Vi (Z := MX9_best) (as := [.int (xs (nI i + nI 1).toNatClampNeg)]) (rest := [.int v]) C dL_law_674 lk_1139 zX9_best ⟨Nat.le_of_ble_eq_true rfl, Nat.le_of_ble_eq_true rfl⟩ sh60 rfl rfl (Nat.le_of_ble_eq_true rfl) rfl K (fun v' u' K => ?_)
  refine mG_icmp_eq (tgt := 989) C dL_law_677 rfl (fun _ => ?_) (fun h => absurd K.1 h)
  obtain ⟨-, Z', hZ⟩ := K
  exact kk u' Z' hZ
set_option maxRecDepth 20000 in
set_option maxHeartbeats 1000000 in
theorem lw_c18 (C : mCtx X E ML_law) (S : lScr X E L xs) (hL : L ≤ 3584) {i : Nat} (hi : i + 7 ≤ L) {Z : mZ} (hI : zI Z w) (kk : ∀ u Z, zI Z u → mG X E ML_law 989 [.ref 150, .ref 0, .ref 60, .int (nI i)] [] u) : mG X E ML_law 682 [.ref 150, .ref 0, .ref 60, .int (nI i)] [] w := by
  refine mG_aload_n C dL_law_682 rfl rfl ?_
  refine mG_aload_n C dL_law_683 rfl rfl ?_
  refine mG_iload_n C dL_law_684 rfl rfl ?_
  refine mG_iconst C dL_law_685 ic1 ?_
  refine mG_iadd C dL_law_686 ?_
  refine mG_sld C S dL_law_687 (lw_inb (k := 1) hL hi (by decide)) ?_
  refine mG_aload_n C dL_law_688 rfl rfl ?_
  refine mG_iload_n C dL_law_689 rfl rfl ?_
  refine mG_iconst C dL_law_690 ic2 ?_
  refine mG_iadd C dL_law_691 ?_
  refine mG_sld C S dL_law_692 (lw_inb (k := 2) hL hi (by decide)) ?_
  refine mG_Vi (Z := MX8_empty) (as := [.int (xs (nI i + nI 1).toNatClampNeg), .int (xs (nI i + nI 2).toNatClampNeg)]) (rest := []) C dL_law_693 lk_691 zX8_empty ⟨Nat.le_of_ble_eq_true rfl, Nat.le_of_ble_eq_true rfl⟩ sh0 rfl rfl (Nat.le_of_ble_eq_true rfl) rfl (s_empty (E := E) hI (xs (nI i + nI 1).toNatClampNeg) (xs (nI i + nI 2).toNatClampNeg)) (fun v u K => ?_)
  refine mG_aload_n C dL_law_696 rfl rfl ?_
  refine mG_aload_n C dL_law_697 rfl rfl ?_
  refine mG_iload_n C dL_law_698 rfl rfl ?_
  refine mG_iconst C dL_law_699 ic1 ?_
  refine mG_iadd C dL_law_700 ?_
  refine mG_sld C S dL_law_701 (lw_inb (k := 1) hL hi (by decide)) ?_
  refine mG_aload_n C dL_law_702 rfl rfl ?_
  refine mG_iload_n C dL_law_703 rfl rfl ?_
  refine mG_iconst C dL_law_704 ic2 ?_
  refine mG_iadd C dL_law_705 ?_
  refine mG_sld C S dL_law_706 (lw_inb (k := 2) hL hi (by decide)) ?_
  refine mG_Vi (Z := MX9_empty) (as := [.int (xs (nI i + nI 1).toNatClampNeg), .int (xs (nI i + nI 2).toNatClampNeg)]) (rest := [.int v]) C dL_law_707 lk_1155 zX9_empty ⟨Nat.le_of_ble_eq_true rfl, Nat.le_of_ble_eq_true rfl⟩ sh60 rfl rfl (Nat.le_of_ble_eq_true rfl) rfl K (fun v' u' K => ?_)
  refine mG_icmp_eq (tgt := 989) C dL_law_710 rfl (fun _ => ?_) (fun h => absurd K.1 h)
  obtain ⟨-, Z', hZ⟩ := K
  exact kk u' Z' hZ
set_option maxRecDepth 20000 in
set_option maxHeartbeats 1000000 in
theorem lw_c19 (C : mCtx X E ML_law) (S : lScr X E L xs) (hL : L ≤ 3584) {i : Nat} (hi : i + 7 ≤ L) {Z : mZ} (hI : zI Z w) (kk : ∀ u Z, zI Z u → mG X E ML_law 989 [.ref 150, .ref 0, .ref 60, .int (nI i)] [] u) : mG X E ML_law 715 [.ref 150, .ref 0, .ref 60, .int (nI i)] [] w := by
  refine mG_aload_n C dL_law_715 rfl rfl ?_
  refine mG_aload_n C dL_law_716 rfl rfl ?_
  refine mG_iload_n C dL_law_717 rfl rfl ?_
  refine mG_iconst C dL_law_718 ic1 ?_
  refine mG_iadd C dL_law_719 ?_
  refine mG_sld C S dL_law_720 (lw_inb (k := 1) hL hi (by decide)) ?_
  refine mG_aload_n C dL_law_721 rfl rfl ?_
  refine mG_iload_n C dL_law_722 rfl rfl ?_
  refine mG_iconst C dL_law_723 ic2 ?_
  refine mG_iadd C dL_law_724 ?_
  refine mG_sld C S dL_law_725 (lw_inb (k := 2) hL hi (by decide)) ?_
  refine mG_aload_n C dL_law_726 rfl rfl ?_
  refine mG_iload_n C dL_law_727 rfl rfl ?_
  refine mG_iconst C dL_law_728 ic3 ?_
  refine mG_iadd C dL_law_729 ?_
  refine mG_sld C S dL_law_730 (lw_inb (k := 3) hL hi (by decide)) ?_
  refine mG_Vi (Z := MX8_said) (as := [.int (xs (nI i + nI 1).toNatClampNeg), .int (xs (nI i + nI 2).toNatClampNeg), .int (xs (nI i + nI 3).toNatClampNeg)]) (rest := []) C dL_law_731 lk_712 zX8_said ⟨Nat.le_of_ble_eq_true rfl, Nat.le_of_ble_eq_true rfl⟩ sh0 rfl rfl (Nat.le_of_ble_eq_true rfl) rfl (s_said (E := E) hI (xs (nI i + nI 1).toNatClampNeg) (xs (nI i + nI 2).toNatClampNeg) (xs (nI i + nI 3).toNatClampNeg)) (fun v u K => ?_)
  refine mG_aload_n C dL_law_734 rfl rfl ?_
  refine mG_aload_n C dL_law_735 rfl rfl ?_
  refine mG_iload_n C dL_law_736 rfl rfl ?_
  refine mG_iconst C dL_law_737 ic1 ?_
  refine mG_iadd C dL_law_738 ?_
  refine mG_sld C S dL_law_739 (lw_inb (k := 1) hL hi (by decide)) ?_
  refine mG_aload_n C dL_law_740 rfl rfl ?_
  refine mG_iload_n C dL_law_741 rfl rfl ?_
  refine mG_iconst C dL_law_742 ic2 ?_
  refine mG_iadd C dL_law_743 ?_
  refine mG_sld C S dL_law_744 (lw_inb (k := 2) hL hi (by decide)) ?_
  refine mG_aload_n C dL_law_745 rfl rfl ?_
  refine mG_iload_n C dL_law_746 rfl rfl ?_
  refine mG_iconst C dL_law_747 ic3 ?_
  refine mG_iadd C dL_law_748 ?_
  refine mG_sld C S dL_law_749 (lw_inb (k := 3) hL hi (by decide)) ?_
  refine mG_Vi (Z := MX9_said) (as := [.int (xs (nI i + nI 1).toNatClampNeg), .int (xs (nI i + nI 2).toNatClampNeg), .int (xs (nI i + nI 3).toNatClampNeg)]) (rest := [.int v]) C dL_law_750 lk_1163 zX9_said ⟨Nat.le_of_ble_eq_true rfl, Nat.le_of_ble_eq_true rfl⟩ sh60 rfl rfl (Nat.le_of_ble_eq_true rfl) rfl K (fun v' u' K => ?_)
  refine mG_icmp_eq (tgt := 989) C dL_law_753 rfl (fun _ => ?_) (fun h => absurd K.1 h)
  obtain ⟨-, Z', hZ⟩ := K
  exact kk u' Z' hZ
set_option maxRecDepth 20000 in
set_option maxHeartbeats 1000000 in
theorem lw_c20 (C : mCtx X E ML_law) (S : lScr X E L xs) (hL : L ≤ 3584) {i : Nat} (hi : i + 7 ≤ L) {Z : mZ} (hI : zI Z w) (kk : ∀ u Z, zI Z u → mG X E ML_law 989 [.ref 150, .ref 0, .ref 60, .int (nI i)] [] u) : mG X E ML_law 758 [.ref 150, .ref 0, .ref 60, .int (nI i)] [] w := by
  refine mG_aload_n C dL_law_758 rfl rfl ?_
  refine mG_aload_n C dL_law_759 rfl rfl ?_
  refine mG_iload_n C dL_law_760 rfl rfl ?_
  refine mG_iconst C dL_law_761 ic1 ?_
  refine mG_iadd C dL_law_762 ?_
  refine mG_sld C S dL_law_763 (lw_inb (k := 1) hL hi (by decide)) ?_
  refine mG_aload_n C dL_law_764 rfl rfl ?_
  refine mG_iload_n C dL_law_765 rfl rfl ?_
  refine mG_iconst C dL_law_766 ic2 ?_
  refine mG_iadd C dL_law_767 ?_
  refine mG_sld C S dL_law_768 (lw_inb (k := 2) hL hi (by decide)) ?_
  refine mG_aload_n C dL_law_769 rfl rfl ?_
  refine mG_iload_n C dL_law_770 rfl rfl ?_
  refine mG_iconst C dL_law_771 ic3 ?_
  refine mG_iadd C dL_law_772 ?_
  refine mG_sld C S dL_law_773 (lw_inb (k := 3) hL hi (by decide)) ?_
  refine mG_aload_n C dL_law_774 rfl rfl ?_
  refine mG_iload_n C dL_law_775 rfl rfl ?_
  refine mG_iconst C dL_law_776 ic4 ?_
  refine mG_iadd C dL_law_777 ?_
  refine mG_sld C S dL_law_778 (lw_inb (k := 4) hL hi (by decide)) ?_
  refine mG_aload_n C dL_law_779 rfl rfl ?_
  refine mG_iload_n C dL_law_780 rfl rfl ?_
  refine mG_iconst C dL_law_781 ic5 ?_
  refine mG_iadd C dL_law_782 ?_
  refine mG_sld C S dL_law_783 (lw_inb (k := 5) hL hi (by decide)) ?_
  refine mG_Vi (Z := MX8_rests) (as := [.int (xs (nI i + nI 1).toNatClampNeg), .int (xs (nI i + nI 2).toNatClampNeg), .int (xs (nI i + nI 3).toNatClampNeg), .int (xs (nI i + nI 4).toNatClampNeg), .int (xs (nI i + nI 5).toNatClampNeg)]) (rest := []) C dL_law_784 lk_724 zX8_rests ⟨Nat.le_of_ble_eq_true rfl, Nat.le_of_ble_eq_true rfl⟩ sh0 rfl rfl (Nat.le_of_ble_eq_true rfl) rfl (s_rests (E := E) hI (xs (nI i + nI 1).toNatClampNeg) (xs (nI i + nI 2).toNatClampNeg) (xs (nI i + nI 3).toNatClampNeg) (xs (nI i + nI 4).toNatClampNeg) (xs (nI i + nI 5).toNatClampNeg)) (fun v u K => ?_)
  refine mG_aload_n C dL_law_787 rfl rfl ?_
  refine mG_aload_n C dL_law_788 rfl rfl ?_
  refine mG_iload_n C dL_law_789 rfl rfl ?_
  refine mG_iconst C dL_law_790 ic1 ?_
  refine mG_iadd C dL_law_791 ?_
  refine mG_sld C S dL_law_792 (lw_inb (k := 1) hL hi (by decide)) ?_
  refine mG_aload_n C dL_law_793 rfl rfl ?_
  refine mG_iload_n C dL_law_794 rfl rfl ?_
  refine mG_iconst C dL_law_795 ic2 ?_
  refine mG_iadd C dL_law_796 ?_
  refine mG_sld C S dL_law_797 (lw_inb (k := 2) hL hi (by decide)) ?_
  refine mG_aload_n C dL_law_798 rfl rfl ?_
  refine mG_iload_n C dL_law_799 rfl rfl ?_
  refine mG_iconst C dL_law_800 ic3 ?_
  refine mG_iadd C dL_law_801 ?_
  refine mG_sld C S dL_law_802 (lw_inb (k := 3) hL hi (by decide)) ?_
  refine mG_aload_n C dL_law_803 rfl rfl ?_
  refine mG_iload_n C dL_law_804 rfl rfl ?_
  refine mG_iconst C dL_law_805 ic4 ?_
  refine mG_iadd C dL_law_806 ?_
  refine mG_sld C S dL_law_807 (lw_inb (k := 4) hL hi (by decide)) ?_
  refine mG_aload_n C dL_law_808 rfl rfl ?_
  refine mG_iload_n C dL_law_809 rfl rfl ?_
  refine mG_iconst C dL_law_810 ic5 ?_
  refine mG_iadd C dL_law_811 ?_
  refine mG_sld C S dL_law_812 (lw_inb (k := 5) hL hi (by decide)) ?_
  refine mG_Vi (Z := MX9_rests) (as := [.int (xs (nI i + nI 1).toNatClampNeg), .int (xs (nI i + nI 2).toNatClampNeg), .int (xs (nI i + nI 3).toNatClampNeg), .int (xs (nI i + nI 4).toNatClampNeg), .int (xs (nI i + nI 5).toNatClampNeg)]) (rest := [.int v]) C dL_law_813 lk_1167 zX9_rests ⟨Nat.le_of_ble_eq_true rfl, Nat.le_of_ble_eq_true rfl⟩ sh60 rfl rfl (Nat.le_of_ble_eq_true rfl) rfl K (fun v' u' K => ?_)
  refine mG_icmp_eq (tgt := 989) C dL_law_816 rfl (fun _ => ?_) (fun h => absurd K.1 h)
  obtain ⟨-, Z', hZ⟩ := K
  exact kk u' Z' hZ
set_option maxRecDepth 20000 in
set_option maxHeartbeats 1000000 in
theorem lw_c21 (C : mCtx X E ML_law) (S : lScr X E L xs) (hL : L ≤ 3584) {i : Nat} (hi : i + 7 ≤ L) {Z : mZ} (hI : zI Z w) (kk : ∀ u Z, zI Z u → mG X E ML_law 989 [.ref 150, .ref 0, .ref 60, .int (nI i)] [] u) : mG X E ML_law 821 [.ref 150, .ref 0, .ref 60, .int (nI i)] [] w := by
  refine mG_aload_n C dL_law_821 rfl rfl ?_
  refine mG_aload_n C dL_law_822 rfl rfl ?_
  refine mG_iload_n C dL_law_823 rfl rfl ?_
  refine mG_iconst C dL_law_824 ic1 ?_
  refine mG_iadd C dL_law_825 ?_
  refine mG_sld C S dL_law_826 (lw_inb (k := 1) hL hi (by decide)) ?_
  refine mG_aload_n C dL_law_827 rfl rfl ?_
  refine mG_iload_n C dL_law_828 rfl rfl ?_
  refine mG_iconst C dL_law_829 ic2 ?_
  refine mG_iadd C dL_law_830 ?_
  refine mG_sld C S dL_law_831 (lw_inb (k := 2) hL hi (by decide)) ?_
  refine mG_Vi (Z := MX8_bet) (as := [.int (xs (nI i + nI 1).toNatClampNeg), .int (xs (nI i + nI 2).toNatClampNeg)]) (rest := []) C dL_law_832 lk_742 zX8_bet ⟨Nat.le_of_ble_eq_true rfl, Nat.le_of_ble_eq_true rfl⟩ sh0 rfl rfl (Nat.le_of_ble_eq_true rfl) rfl (s_bet (E := E) hI (xs (nI i + nI 1).toNatClampNeg) (xs (nI i + nI 2).toNatClampNeg)) (fun v u K => ?_)
  refine mG_aload_n C dL_law_835 rfl rfl ?_
  refine mG_aload_n C dL_law_836 rfl rfl ?_
  refine mG_iload_n C dL_law_837 rfl rfl ?_
  refine mG_iconst C dL_law_838 ic1 ?_
  refine mG_iadd C dL_law_839 ?_
  refine mG_sld C S dL_law_840 (lw_inb (k := 1) hL hi (by decide)) ?_
  refine mG_aload_n C dL_law_841 rfl rfl ?_
  refine mG_iload_n C dL_law_842 rfl rfl ?_
  refine mG_iconst C dL_law_843 ic2 ?_
  refine mG_iadd C dL_law_844 ?_
  refine mG_sld C S dL_law_845 (lw_inb (k := 2) hL hi (by decide)) ?_
  refine mG_Vi (Z := MX9_bet) (as := [.int (xs (nI i + nI 1).toNatClampNeg), .int (xs (nI i + nI 2).toNatClampNeg)]) (rest := [.int v]) C dL_law_846 lk_1175 zX9_bet ⟨Nat.le_of_ble_eq_true rfl, Nat.le_of_ble_eq_true rfl⟩ sh60 rfl rfl (Nat.le_of_ble_eq_true rfl) rfl K (fun v' u' K => ?_)
  refine mG_icmp_eq (tgt := 989) C dL_law_849 rfl (fun _ => ?_) (fun h => absurd K.1 h)
  obtain ⟨-, Z', hZ⟩ := K
  exact kk u' Z' hZ
set_option maxRecDepth 20000 in
set_option maxHeartbeats 1000000 in
theorem lw_c22 (C : mCtx X E ML_law) (S : lScr X E L xs) (hL : L ≤ 3584) {i : Nat} (hi : i + 7 ≤ L) {Z : mZ} (hI : zI Z w) (kk : ∀ u Z, zI Z u → mG X E ML_law 989 [.ref 150, .ref 0, .ref 60, .int (nI i)] [] u) : mG X E ML_law 854 [.ref 150, .ref 0, .ref 60, .int (nI i)] [] w := by
  refine mG_aload_n C dL_law_854 rfl rfl ?_
  refine mG_Vi (Z := MX8_call) (as := []) (rest := []) C dL_law_855 lk_750 zX8_call ⟨Nat.le_of_ble_eq_true rfl, Nat.le_of_ble_eq_true rfl⟩ sh0 rfl rfl (Nat.le_of_ble_eq_true rfl) rfl (s_call (E := E) hI ) (fun v u K => ?_)
  refine mG_aload_n C dL_law_858 rfl rfl ?_
  refine mG_Vi (Z := MX9_call) (as := []) (rest := [.int v]) C dL_law_859 lk_1179 zX9_call ⟨Nat.le_of_ble_eq_true rfl, Nat.le_of_ble_eq_true rfl⟩ sh60 rfl rfl (Nat.le_of_ble_eq_true rfl) rfl K (fun v' u' K => ?_)
  refine mG_icmp_eq (tgt := 989) C dL_law_862 rfl (fun _ => ?_) (fun h => absurd K.1 h)
  obtain ⟨-, Z', hZ⟩ := K
  exact kk u' Z' hZ
set_option maxRecDepth 20000 in
set_option maxHeartbeats 1000000 in
theorem lw_c23 (C : mCtx X E ML_law) (S : lScr X E L xs) (hL : L ≤ 3584) {i : Nat} (hi : i + 7 ≤ L) {Z : mZ} (hI : zI Z w) (kk : ∀ u Z, zI Z u → mG X E ML_law 989 [.ref 150, .ref 0, .ref 60, .int (nI i)] [] u) : mG X E ML_law 867 [.ref 150, .ref 0, .ref 60, .int (nI i)] [] w := by
  refine mG_aload_n C dL_law_867 rfl rfl ?_
  refine mG_aload_n C dL_law_868 rfl rfl ?_
  refine mG_iload_n C dL_law_869 rfl rfl ?_
  refine mG_iconst C dL_law_870 ic1 ?_
  refine mG_iadd C dL_law_871 ?_
  refine mG_sld C S dL_law_872 (lw_inb (k := 1) hL hi (by decide)) ?_
  refine mG_Vi (Z := MX8_sure) (as := [.int (xs (nI i + nI 1).toNatClampNeg)]) (rest := []) C dL_law_873 lk_754 zX8_sure ⟨Nat.le_of_ble_eq_true rfl, Nat.le_of_ble_eq_true rfl⟩ sh0 rfl rfl (Nat.le_of_ble_eq_true rfl) rfl (s_sure (E := E) hI (xs (nI i + nI 1).toNatClampNeg)) (fun v u K => ?_)
  refine mG_aload_n C dL_law_876 rfl rfl ?_
  refine mG_aload_n C dL_law_877 rfl rfl ?_
  refine mG_iload_n C dL_law_878 rfl rfl ?_
  refine mG_iconst C dL_law_879 ic1 ?_
  refine mG_iadd C dL_law_880 ?_
  refine mG_sld C S dL_law_881 (lw_inb (k := 1) hL hi (by decide)) ?_
  refine mG_Vi (Z := MX9_sure) (as := [.int (xs (nI i + nI 1).toNatClampNeg)]) (rest := [.int v]) C dL_law_882 lk_1183 zX9_sure ⟨Nat.le_of_ble_eq_true rfl, Nat.le_of_ble_eq_true rfl⟩ sh60 rfl rfl (Nat.le_of_ble_eq_true rfl) rfl K (fun v' u' K => ?_)
  refine mG_icmp_eq (tgt := 989) C dL_law_885 rfl (fun _ => ?_) (fun h => absurd K.1 h)
  obtain ⟨-, Z', hZ⟩ := K
  exact kk u' Z' hZ
set_option maxRecDepth 20000 in
set_option maxHeartbeats 1000000 in
theorem lw_c24 (C : mCtx X E ML_law) (S : lScr X E L xs) (hL : L ≤ 3584) {i : Nat} (hi : i + 7 ≤ L) {Z : mZ} (hI : zI Z w) (kk : ∀ u Z, zI Z u → mG X E ML_law 989 [.ref 150, .ref 0, .ref 60, .int (nI i)] [] u) : mG X E ML_law 890 [.ref 150, .ref 0, .ref 60, .int (nI i)] [] w := by
  refine mG_aload_n C dL_law_890 rfl rfl ?_
  refine mG_aload_n C dL_law_891 rfl rfl ?_
  refine mG_iload_n C dL_law_892 rfl rfl ?_
  refine mG_iconst C dL_law_893 ic1 ?_
  refine mG_iadd C dL_law_894 ?_
  refine mG_sld C S dL_law_895 (lw_inb (k := 1) hL hi (by decide)) ?_
  refine mG_aload_n C dL_law_896 rfl rfl ?_
  refine mG_iload_n C dL_law_897 rfl rfl ?_
  refine mG_iconst C dL_law_898 ic2 ?_
  refine mG_iadd C dL_law_899 ?_
  refine mG_sld C S dL_law_900 (lw_inb (k := 2) hL hi (by decide)) ?_
  refine mG_Vi (Z := MX8_plan) (as := [.int (xs (nI i + nI 1).toNatClampNeg), .int (xs (nI i + nI 2).toNatClampNeg)]) (rest := []) C dL_law_901 lk_776 zX8_plan ⟨Nat.le_of_ble_eq_true rfl, Nat.le_of_ble_eq_true rfl⟩ sh0 rfl rfl (Nat.le_of_ble_eq_true rfl) rfl (s_plan (E := E) hI (xs (nI i + nI 1).toNatClampNeg) (xs (nI i + nI 2).toNatClampNeg)) (fun v u K => ?_)
  refine mG_aload_n C dL_law_904 rfl rfl ?_
  refine mG_aload_n C dL_law_905 rfl rfl ?_
  refine mG_iload_n C dL_law_906 rfl rfl ?_
  refine mG_iconst C dL_law_907 ic1 ?_
  refine mG_iadd C dL_law_908 ?_
  refine mG_sld C S dL_law_909 (lw_inb (k := 1) hL hi (by decide)) ?_
  refine mG_aload_n C dL_law_910 rfl rfl ?_
  refine mG_iload_n C dL_law_911 rfl rfl ?_
  refine mG_iconst C dL_law_912 ic2 ?_
  refine mG_iadd C dL_law_913 ?_
  refine mG_sld C S dL_law_914 (lw_inb (k := 2) hL hi (by decide)) ?_
  refine mG_Vi (Z := MX9_plan) (as := [.int (xs (nI i + nI 1).toNatClampNeg), .int (xs (nI i + nI 2).toNatClampNeg)]) (rest := [.int v]) C dL_law_915 lk_1192 zX9_plan ⟨Nat.le_of_ble_eq_true rfl, Nat.le_of_ble_eq_true rfl⟩ sh60 rfl rfl (Nat.le_of_ble_eq_true rfl) rfl K (fun v' u' K => ?_)
  refine mG_icmp_eq (tgt := 989) C dL_law_918 rfl (fun _ => ?_) (fun h => absurd K.1 h)
  obtain ⟨-, Z', hZ⟩ := K
  exact kk u' Z' hZ
set_option maxRecDepth 20000 in
set_option maxHeartbeats 1000000 in
theorem lw_c25 (C : mCtx X E ML_law) (S : lScr X E L xs) (hL : L ≤ 3584) {i : Nat} (hi : i + 7 ≤ L) {Z : mZ} (hI : zI Z w) (kk : ∀ u Z, zI Z u → mG X E ML_law 989 [.ref 150, .ref 0, .ref 60, .int (nI i)] [] u) : mG X E ML_law 923 [.ref 150, .ref 0, .ref 60, .int (nI i)] [] w := by
  refine mG_aload_n C dL_law_923 rfl rfl ?_
  refine mG_aload_n C dL_law_924 rfl rfl ?_
  refine mG_iload_n C dL_law_925 rfl rfl ?_
  refine mG_iconst C dL_law_926 ic1 ?_
  refine mG_iadd C dL_law_927 ?_
  refine mG_sld C S dL_law_928 (lw_inb (k := 1) hL hi (by decide)) ?_
  refine mG_aload_n C dL_law_929 rfl rfl ?_
  refine mG_iload_n C dL_law_930 rfl rfl ?_
  refine mG_iconst C dL_law_931 ic2 ?_
  refine mG_iadd C dL_law_932 ?_
  refine mG_sld C S dL_law_933 (lw_inb (k := 2) hL hi (by decide)) ?_
  refine mG_aload_n C dL_law_934 rfl rfl ?_
  refine mG_iload_n C dL_law_935 rfl rfl ?_
  refine mG_iconst C dL_law_936 ic3 ?_
  refine mG_iadd C dL_law_937 ?_
  refine mG_sld C S dL_law_938 (lw_inb (k := 3) hL hi (by decide)) ?_
  refine mG_Vi (Z := MX8_sieges) (as := [.int (xs (nI i + nI 1).toNatClampNeg), .int (xs (nI i + nI 2).toNatClampNeg), .int (xs (nI i + nI 3).toNatClampNeg)]) (rest := []) C dL_law_939 lk_795 zX8_sieges ⟨Nat.le_of_ble_eq_true rfl, Nat.le_of_ble_eq_true rfl⟩ sh0 rfl rfl (Nat.le_of_ble_eq_true rfl) rfl (s_sieges (E := E) hI (xs (nI i + nI 1).toNatClampNeg) (xs (nI i + nI 2).toNatClampNeg) (xs (nI i + nI 3).toNatClampNeg)) (fun v u K => ?_)
  refine mG_aload_n C dL_law_942 rfl rfl ?_
  refine mG_aload_n C dL_law_943 rfl rfl ?_
  refine mG_iload_n C dL_law_944 rfl rfl ?_
  refine mG_iconst C dL_law_945 ic1 ?_
  refine mG_iadd C dL_law_946 ?_
  refine mG_sld C S dL_law_947 (lw_inb (k := 1) hL hi (by decide)) ?_
  refine mG_aload_n C dL_law_948 rfl rfl ?_
  refine mG_iload_n C dL_law_949 rfl rfl ?_
  refine mG_iconst C dL_law_950 ic2 ?_
  refine mG_iadd C dL_law_951 ?_
  refine mG_sld C S dL_law_952 (lw_inb (k := 2) hL hi (by decide)) ?_
  refine mG_aload_n C dL_law_953 rfl rfl ?_
  refine mG_iload_n C dL_law_954 rfl rfl ?_
  refine mG_iconst C dL_law_955 ic3 ?_
  refine mG_iadd C dL_law_956 ?_
  refine mG_sld C S dL_law_957 (lw_inb (k := 3) hL hi (by decide)) ?_
  refine mG_Vi (Z := MX9_sieges) (as := [.int (xs (nI i + nI 1).toNatClampNeg), .int (xs (nI i + nI 2).toNatClampNeg), .int (xs (nI i + nI 3).toNatClampNeg)]) (rest := [.int v]) C dL_law_958 lk_1208 zX9_sieges ⟨Nat.le_of_ble_eq_true rfl, Nat.le_of_ble_eq_true rfl⟩ sh60 rfl rfl (Nat.le_of_ble_eq_true rfl) rfl K (fun v' u' K => ?_)
  refine mG_icmp_eq (tgt := 989) C dL_law_961 rfl (fun _ => ?_) (fun h => absurd K.1 h)
  obtain ⟨-, Z', hZ⟩ := K
  exact kk u' Z' hZ
set_option maxRecDepth 20000 in
set_option maxHeartbeats 1000000 in
theorem lw_c26 (C : mCtx X E ML_law) (S : lScr X E L xs) (hL : L ≤ 3584) {i : Nat} (hi : i + 7 ≤ L) {Z : mZ} (hI : zI Z w) (kk : ∀ u Z, zI Z u → mG X E ML_law 989 [.ref 150, .ref 0, .ref 60, .int (nI i)] [] u) : mG X E ML_law 966 [.ref 150, .ref 0, .ref 60, .int (nI i)] [] w := by
  refine mG_aload_n C dL_law_966 rfl rfl ?_
  refine mG_aload_n C dL_law_967 rfl rfl ?_
  refine mG_iload_n C dL_law_968 rfl rfl ?_
  refine mG_iconst C dL_law_969 ic1 ?_
  refine mG_iadd C dL_law_970 ?_
  refine mG_sld C S dL_law_971 (lw_inb (k := 1) hL hi (by decide)) ?_
  refine mG_Vi (Z := MX8_count) (as := [.int (xs (nI i + nI 1).toNatClampNeg)]) (rest := []) C dL_law_972 lk_810 zX8_count ⟨Nat.le_of_ble_eq_true rfl, Nat.le_of_ble_eq_true rfl⟩ sh0 rfl rfl (Nat.le_of_ble_eq_true rfl) rfl (s_count (E := E) hI (xs (nI i + nI 1).toNatClampNeg)) (fun v u K => ?_)
  refine mG_aload_n C dL_law_975 rfl rfl ?_
  refine mG_aload_n C dL_law_976 rfl rfl ?_
  refine mG_iload_n C dL_law_977 rfl rfl ?_
  refine mG_iconst C dL_law_978 ic1 ?_
  refine mG_iadd C dL_law_979 ?_
  refine mG_sld C S dL_law_980 (lw_inb (k := 1) hL hi (by decide)) ?_
  refine mG_Vi (Z := MX9_count) (as := [.int (xs (nI i + nI 1).toNatClampNeg)]) (rest := [.int v]) C dL_law_981 lk_1219 zX9_count ⟨Nat.le_of_ble_eq_true rfl, Nat.le_of_ble_eq_true rfl⟩ sh60 rfl rfl (Nat.le_of_ble_eq_true rfl) rfl K (fun v' u' K => ?_)
  refine mG_icmp_eq (tgt := 989) C dL_law_984 rfl (fun _ => ?_) (fun h => absurd K.1 h)
  obtain ⟨-, Z', hZ⟩ := K
  exact kk u' Z' hZ
set_option maxRecDepth 20000 in
set_option maxHeartbeats 4000000 in
theorem lw_loop (C : mCtx X E ML_law) (S : lScr X E L xs) (hL : L ≤ 3584) (F : ∀ lv u, mG X E ML_law 996 lv [.int 1] u) : ∀ (n i : Nat) (w : mW) (Z : mZ), i ≤ 3591 → L < i + n → zI Z w → mG X E ML_law 18 [.ref 150, .ref 0, .ref 60, .int (nI i)] [] w := by
  intro n
  induction n with
  | zero =>
    intro i w Z h1 h2 hI
    refine mG_iload_n C dL_law_18 rfl rfl ?_
    refine mG_aload_n C dL_law_19 rfl rfl ?_
    refine mG_srl C S dL_law_20 ?_
    refine mG_bipush C dL_law_21 bp7 ?_
    refine mG_isub C dL_law_23 ?_
    refine mG_icmp_gt (tgt := 995) C dL_law_24 rfl (fun _ => mG_iconst C dL_law_995 ic1 (F _ _)) (fun h => ?_)
    have := lw_cnt hL (by omega) h
    omega
  | succ n ih =>
    intro i w Z h1 h2 hI
    refine mG_iload_n C dL_law_18 rfl rfl ?_
    refine mG_aload_n C dL_law_19 rfl rfl ?_
    refine mG_srl C S dL_law_20 ?_
    refine mG_bipush C dL_law_21 bp7 ?_
    refine mG_isub C dL_law_23 ?_
    refine mG_icmp_gt (tgt := 995) C dL_law_24 rfl (fun _ => mG_iconst C dL_law_995 ic1 (F _ _)) (fun h => ?_)
    have hi := lw_cnt hL (by omega) h
    have kk : ∀ u Z, zI Z u → mG X E ML_law 989 [.ref 150, .ref 0, .ref 60, .int (nI i)] [] u := fun u Z hZ => lw_next C (ih (i + 7) u Z (by omega) (by omega) hZ)
    refine mG_aload_n C dL_law_27 rfl rfl ?_
    refine mG_iload_n C dL_law_28 rfl rfl ?_
    refine mG_sld C S dL_law_29 (vp_in_nI (by omega) (by omega)) ?_
    refine mG_bipush C dL_law_30 bp31 ?_
    refine mG_iand C dL_law_32 ?_
    generalize xs (nI i).toNatClampNeg &&& 31 = y
    by_cases g0 : y = 0
    · exact mG_tableEq (off := 123) (tgt := 156) C dL_law_33 g0 (by decide) (by decide) rfl rfl (lw_c0 C S hL hi hI kk)
    by_cases g1 : y = 1
    · exact mG_tableEq (off := 146) (tgt := 179) C dL_law_33 g1 (by decide) (by decide) rfl rfl (lw_c1 C S hL hi hI kk)
    by_cases g2 : y = 2
    · exact mG_tableEq (off := 159) (tgt := 192) C dL_law_33 g2 (by decide) (by decide) rfl rfl (lw_c2 C S hL hi hI kk)
    by_cases g3 : y = 3
    · exact mG_tableEq (off := 172) (tgt := 205) C dL_law_33 g3 (by decide) (by decide) rfl rfl (lw_c3 C S hL hi hI kk)
    by_cases g4 : y = 4
    · exact mG_tableEq (off := 185) (tgt := 218) C dL_law_33 g4 (by decide) (by decide) rfl rfl (lw_c4 C S hL hi hI kk)
    by_cases g5 : y = 5
    · exact mG_tableEq (off := 218) (tgt := 251) C dL_law_33 g5 (by decide) (by decide) rfl rfl (lw_c5 C S hL hi hI kk)
    by_cases g6 : y = 6
    · exact mG_tableEq (off := 251) (tgt := 284) C dL_law_33 g6 (by decide) (by decide) rfl rfl (lw_c6 C S hL hi hI kk)
    by_cases g7 : y = 7
    · exact mG_tableEq (off := 284) (tgt := 317) C dL_law_33 g7 (by decide) (by decide) rfl rfl (lw_c7 C S hL hi hI kk)
    by_cases g8 : y = 8
    · exact mG_tableEq (off := 317) (tgt := 350) C dL_law_33 g8 (by decide) (by decide) rfl rfl (lw_c8 C S hL hi hI kk)
    by_cases g9 : y = 9
    · exact mG_tableEq (off := 350) (tgt := 383) C dL_law_33 g9 (by decide) (by decide) rfl rfl (lw_c9 C S hL hi hI kk)
    by_cases g10 : y = 10
    · exact mG_tableEq (off := 383) (tgt := 416) C dL_law_33 g10 (by decide) (by decide) rfl rfl (lw_c10 C S hL hi hI kk)
    by_cases g11 : y = 11
    · exact mG_tableEq (off := 446) (tgt := 479) C dL_law_33 g11 (by decide) (by decide) rfl rfl (lw_c11 C S hL hi hI kk)
    by_cases g12 : y = 12
    · exact mG_tableEq (off := 521) (tgt := 554) C dL_law_33 g12 (by decide) (by decide) rfl rfl (lw_c12 C S hL hi hI kk)
    by_cases g13 : y = 13
    · exact mG_tableEq (off := 534) (tgt := 567) C dL_law_33 g13 (by decide) (by decide) rfl rfl (lw_c13 C S hL hi hI kk)
    by_cases g14 : y = 14
    · exact mG_tableEq (off := 547) (tgt := 580) C dL_law_33 g14 (by decide) (by decide) rfl rfl (lw_c14 C S hL hi hI kk)
    by_cases g15 : y = 15
    · exact mG_tableEq (off := 570) (tgt := 603) C dL_law_33 g15 (by decide) (by decide) rfl rfl (lw_c15 C S hL hi hI kk)
    by_cases g16 : y = 16
    · exact mG_tableEq (off := 593) (tgt := 626) C dL_law_33 g16 (by decide) (by decide) rfl rfl (lw_c16 C S hL hi hI kk)
    by_cases g17 : y = 17
    · exact mG_tableEq (off := 626) (tgt := 659) C dL_law_33 g17 (by decide) (by decide) rfl rfl (lw_c17 C S hL hi hI kk)
    by_cases g18 : y = 18
    · exact mG_tableEq (off := 649) (tgt := 682) C dL_law_33 g18 (by decide) (by decide) rfl rfl (lw_c18 C S hL hi hI kk)
    by_cases g19 : y = 19
    · exact mG_tableEq (off := 682) (tgt := 715) C dL_law_33 g19 (by decide) (by decide) rfl rfl (lw_c19 C S hL hi hI kk)
    by_cases g20 : y = 20
    · exact mG_tableEq (off := 725) (tgt := 758) C dL_law_33 g20 (by decide) (by decide) rfl rfl (lw_c20 C S hL hi hI kk)
    by_cases g21 : y = 21
    · exact mG_tableEq (off := 788) (tgt := 821) C dL_law_33 g21 (by decide) (by decide) rfl rfl (lw_c21 C S hL hi hI kk)
    by_cases g22 : y = 22
    · exact mG_tableEq (off := 821) (tgt := 854) C dL_law_33 g22 (by decide) (by decide) rfl rfl (lw_c22 C S hL hi hI kk)
    by_cases g23 : y = 23
    · exact mG_tableEq (off := 834) (tgt := 867) C dL_law_33 g23 (by decide) (by decide) rfl rfl (lw_c23 C S hL hi hI kk)
    by_cases g24 : y = 24
    · exact mG_tableEq (off := 857) (tgt := 890) C dL_law_33 g24 (by decide) (by decide) rfl rfl (lw_c24 C S hL hi hI kk)
    by_cases g25 : y = 25
    · exact mG_tableEq (off := 890) (tgt := 923) C dL_law_33 g25 (by decide) (by decide) rfl rfl (lw_c25 C S hL hi hI kk)
    by_cases g26 : y = 26
    · exact mG_tableEq (off := 933) (tgt := 966) C dL_law_33 g26 (by decide) (by decide) rfl rfl (lw_c26 C S hL hi hI kk)
    have e0 := lv_neT g0 (show (0 : Int32).toInt = 0 by decide)
    have e1 := lv_neT g1 (show (1 : Int32).toInt = 1 by decide)
    have e2 := lv_neT g2 (show (2 : Int32).toInt = 2 by decide)
    have e3 := lv_neT g3 (show (3 : Int32).toInt = 3 by decide)
    have e4 := lv_neT g4 (show (4 : Int32).toInt = 4 by decide)
    have e5 := lv_neT g5 (show (5 : Int32).toInt = 5 by decide)
    have e6 := lv_neT g6 (show (6 : Int32).toInt = 6 by decide)
    have e7 := lv_neT g7 (show (7 : Int32).toInt = 7 by decide)
    have e8 := lv_neT g8 (show (8 : Int32).toInt = 8 by decide)
    have e9 := lv_neT g9 (show (9 : Int32).toInt = 9 by decide)
    have e10 := lv_neT g10 (show (10 : Int32).toInt = 10 by decide)
    have e11 := lv_neT g11 (show (11 : Int32).toInt = 11 by decide)
    have e12 := lv_neT g12 (show (12 : Int32).toInt = 12 by decide)
    have e13 := lv_neT g13 (show (13 : Int32).toInt = 13 by decide)
    have e14 := lv_neT g14 (show (14 : Int32).toInt = 14 by decide)
    have e15 := lv_neT g15 (show (15 : Int32).toInt = 15 by decide)
    have e16 := lv_neT g16 (show (16 : Int32).toInt = 16 by decide)
    have e17 := lv_neT g17 (show (17 : Int32).toInt = 17 by decide)
    have e18 := lv_neT g18 (show (18 : Int32).toInt = 18 by decide)
    have e19 := lv_neT g19 (show (19 : Int32).toInt = 19 by decide)
    have e20 := lv_neT g20 (show (20 : Int32).toInt = 20 by decide)
    have e21 := lv_neT g21 (show (21 : Int32).toInt = 21 by decide)
    have e22 := lv_neT g22 (show (22 : Int32).toInt = 22 by decide)
    have e23 := lv_neT g23 (show (23 : Int32).toInt = 23 by decide)
    have e24 := lv_neT g24 (show (24 : Int32).toInt = 24 by decide)
    have e25 := lv_neT g25 (show (25 : Int32).toInt = 25 by decide)
    have e26 := lv_neT g26 (show (26 : Int32).toInt = 26 by decide)
    exact mG_tableOut (tgt := 989) C dL_law_33 (by omega) rfl (kk w Z hI)
end LL
