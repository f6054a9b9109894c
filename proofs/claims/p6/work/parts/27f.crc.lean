/-! ===== PURE: the reference: sizes, sums, a file that comes from a tape ===== -/
theorem sl4 {xs : List Int32} {i : Nat} (h : i + 4 ≤ xs.length) : sl xs i 4 = [xs.getD i 0, xs.getD (i + 1) 0, xs.getD (i + 2) 0, xs.getD (i + 3) 0] := by
  unfold sl
  rw [sl_succ (by omega), sl_succ (by omega), sl_succ (by omega), sl_succ (by omega), List.take_zero]
theorem sl2 {xs : List Int32} {i : Nat} (h : i + 2 ≤ xs.length) : sl xs i 2 = [xs.getD i 0, xs.getD (i + 1) 0] := by
  unfold sl
  rw [sl_succ (by omega), sl_succ (by omega), List.take_zero]
theorem num4_sl {xs : List Int32} (hb : ∀ x ∈ xs, byteP x) {i j : Nat} (hi : i + 4 ≤ xs.length) (hj : j + 4 ≤ xs.length) (h : num4 xs i = num4 xs j) : sl xs i 4 = sl xs j 4 := by
  obtain ⟨a0, b0⟩ := bN_of (i := i) hb
  obtain ⟨a1, b1⟩ := bN_of (i := i + 1) hb
  obtain ⟨a2, b2⟩ := bN_of (i := i + 2) hb
  obtain ⟨a3, b3⟩ := bN_of (i := i + 3) hb
  obtain ⟨c0, d0⟩ := bN_of (i := j) hb
  obtain ⟨c1, d1⟩ := bN_of (i := j + 1) hb
  obtain ⟨c2, d2⟩ := bN_of (i := j + 2) hb
  obtain ⟨c3, d3⟩ := bN_of (i := j + 3) hb
  unfold num4 at h
  rw [sl4 hi, sl4 hj, b0, b1, b2, b3, d0, d1, d2, d3, show bN xs i = bN xs j by omega, show bN xs (i + 1) = bN xs (j + 1) by omega, show bN xs (i + 2) = bN xs (j + 2) by omega, show bN xs (i + 3) = bN xs (j + 3) by omega]
theorem m_sizes {τ : SM} {xs : List Int32} (h : tpM τ xs) {a : Nat} (ha : a + 26 ≤ xs.length) (hm : num2 xs (a + 4) = 0 ∨ num2 xs (a + 4) = 99) : f_X8_areSizes τ (nI (a + 4)) = some (b2i (szOk xs a), τ) := by
  have L1 := num4_lt h.2.2 (a + 14)
  have L2 := num4_lt h.2.2 (a + 18)
  unfold f_X8_areSizes szOk
  have i1 : f_X8_is τ (nI (a + 4)) 2 99 = some (b2i (decide (num2 xs (a + 4) = 99)), τ) := m_is2 h (v := 99) (by omega) (by decide)
  have i2 : f_X8_isSame τ (nI (a + 14)) (nI (a + 18)) 4 = some (b2i (decide (sl xs (a + 14) 4 = sl xs (a + 18) 4)), τ) := m_same h (k := 4) (by omega) (by omega)
  rw [show (14 : Int32) = nI 14 from rfl, show (10 : Int32) = nI 10 from rfl, nI_add, nI_add, show a + 4 + 14 = a + 18 by omega, show a + 4 + 10 = a + 14 by omega, m_num4 h (by omega), Option.bind_some, m_num4 h (by omega), Option.bind_some, i1, Option.bind_some, i2, Option.bind_some]
  have e15 : (1500 : Int32) < nI (cl (num4 xs (a + 18))) ↔ 1500 < num4 xs (a + 18) := by
    rw [show (1500 : Int32) = nI 1500 from rfl, nI_ltI (by decide) (by unfold cl; omega)]
    unfold cl
    omega
  by_cases c1 : 1500 < num4 xs (a + 18)
  · rw [if_pos (e15.mpr c1), decide_eq_false (by omega)]; rfl
  · rw [if_neg (fun q => c1 (e15.mp q))]
    by_cases c2 : num2 xs (a + 4) = 99
    · rw [decide_eq_true c2, if_neg (show ¬ b2i true = 0 by decide), decide_eq_true ⟨by omega, fun q => by omega⟩]; rfl
    · rw [decide_eq_false c2, if_pos (show b2i false = 0 from rfl)]
      have ec : nI (cl (num4 xs (a + 14))) = nI (cl (num4 xs (a + 18))) ↔ num4 xs (a + 14) = num4 xs (a + 18) := by
        rw [nI_eq (by unfold cl; omega) (by unfold cl; omega)]
        unfold cl
        omega
      by_cases c3 : num4 xs (a + 14) = num4 xs (a + 18)
      · rw [if_pos (ec.mpr c3), decide_eq_true (num4_sl h.2.2 (by omega) (by omega) c3), if_neg (show ¬ b2i true = 0 by decide), decide_eq_true ⟨by omega, fun _ => c3⟩]; rfl
      · rw [if_neg (fun q => c3 (ec.mp q)), decide_eq_false (fun q => c3 (q.2 (hm.resolve_right c2)))]; rfl
theorem byK_n {n k : Nat} (h : n < 2 ^ 32) (hk : k < 4) : byK (nI n) k = nI (n / 2 ^ (8 * k) % 256) := by
  unfold byK
  rw [← sh_byte (by omega)]
  show ush (nI n) (8 * k) &&& 255 = _
  rw [ush_n h (by omega), pk_andN (k := 8) (Nat.lt_of_le_of_lt (Nat.div_le_self _ _) h) (by decide +kernel)]
theorem crc_eq {xs : List Int32} (hb : ∀ x ∈ xs, byteP x) {i : Nat} (c : Int32) : (xs.getD i 0 = byK c 0 ∧ xs.getD (i + 1) 0 = byK c 1 ∧ xs.getD (i + 2) 0 = byK c 2 ∧ xs.getD (i + 3) 0 = byK c 3) ↔ c = nI (num4 xs i) := by
  obtain ⟨n, hn, rfl⟩ := wb_of32 c
  obtain ⟨a0, b0⟩ := bN_of (i := i) hb
  obtain ⟨a1, b1⟩ := bN_of (i := i + 1) hb
  obtain ⟨a2, b2⟩ := bN_of (i := i + 2) hb
  obtain ⟨a3, b3⟩ := bN_of (i := i + 3) hb
  have L := num4_lt hb i
  rw [byK_n hn (by decide), byK_n hn (by decide), byK_n hn (by decide), byK_n hn (by decide), b0, b1, b2, b3, nI_eq (by omega) (by omega), nI_eq (by omega) (by omega), nI_eq (by omega) (by omega), nI_eq (by omega) (by omega)]
  have e : nI n = nI (num4 xs i) ↔ n = num4 xs i := by
    constructor
    · intro q
      have this : (nI n).toBitVec.toNat = (nI (num4 xs i)).toBitVec.toNat := by rw [q]
      rw [pk_tn hn, pk_tn (by omega)] at this
      exact this
    · intro q; rw [q]
  rw [e]
  unfold num4
  simp only [Nat.mul_zero, Nat.pow_zero, Nat.div_one, Nat.reduceMul, Nat.reducePow]
  omega
theorem m_crc20 {τ : SM} {b : List Int32} (hl : b.length ≤ 1500) (h : byM τ 20 b) : f_X8_crc τ 20 = some (crcS b, τ) := by
  unfold f_X8_crc crcS
  exact m_crc_l (k := 20) (by decide) hl h.1 h.2 b.length 0 fu (-1) (by omega) (by unfold fu; omega)
theorem m_icr_s {τ : SM} {xs : List Int32} (h : tpM τ xs) {a k n : Nat} (hk : k < 4) (ha : a + 14 ≤ xs.length) (c : Int32) (s : Bool) : f_X8_isCrc_12 (nI (a + 4)) (n + 1) τ c (b2i s) (nI k) = f_X8_isCrc_12 (nI (a + 4)) n τ c (b2i (s && decide (xs.getD (a + 10 + k) 0 = byK c k))) (nI (k + 1)) := by
  have C := cms
  have h9 := h.1
  rw [f_X8_isCrc_12, if_neg (show ¬ (4 : Int32) ≤ nI k from nI_ge (b := 4) hk (by decide))]
  unfold f_X8_isCrc_53
  rw [nI_1]
  cases s with
  | false => rw [if_pos (show b2i false = 0 from rfl)]; rfl
  | true =>
    rw [if_neg (show ¬ b2i true = 0 by decide), show (6 : Int32) = nI 6 from rfl, nI_add, nI_add, show a + 4 + 6 = a + 10 by omega, if_pos (inb_t (by omega) (by omega)), nI_clamp (by omega), h.2.1 _ (by omega), show (8 : Int32) = nI 8 from rfl, pk_mul]
    show (if xs.getD (a + 10 + k) 0 = byK c k then _ else _) = _
    by_cases q : xs.getD (a + 10 + k) 0 = byK c k
    · rw [if_pos q, decide_eq_true q]; rfl
    · rw [if_neg q, decide_eq_false q]; rfl
theorem m_isCrc {τ : SM} {xs : List Int32} (h : tpM τ xs) {a : Nat} (ha : a + 26 ≤ xs.length) {b : List Int32} (hl : b.length ≤ 1500) (hb : byM τ 20 b) : f_X8_isCrc τ (nI (a + 4)) = some (b2i (decide (crcS b = nI (num4 xs (a + 10)))), τ) := by
  unfold f_X8_isCrc
  rw [m_crc20 hl hb, Option.bind_some, show (1 : Int32) = b2i true from rfl, show (0 : Int32) = nI 0 from rfl, show fu = 99995 + 1 + 1 + 1 + 1 + 1 from rfl]
  show f_X8_isCrc_12 (nI (a + 4)) (99995 + 1 + 1 + 1 + 1 + 1) τ (crcS b) (b2i true) (nI 0) = _
  rw [m_icr_s h (by decide) (by omega), m_icr_s h (by decide) (by omega), m_icr_s h (by decide) (by omega), m_icr_s h (by decide) (by omega), f_X8_isCrc_12, if_pos (show (4 : Int32) ≤ nI (0 + 1 + 1 + 1 + 1) by decide)]
  have nz : ∀ s : Bool, nzb (b2i s) = true := fun s => by cases s <;> decide
  rw [if_pos (nz _)]
  congr 3
  have e := crc_eq (xs := xs) h.2.2 (i := a + 10) (crcS b)
  rw [Bool.true_and, Nat.add_zero]
  by_cases q : crcS b = nI (num4 xs (a + 10))
  · obtain ⟨q0, q1, q2, q3⟩ := e.mpr q
    rw [decide_eq_true q, decide_eq_true q0, decide_eq_true q1, decide_eq_true q2, decide_eq_true q3]
    rfl
  · rw [decide_eq_false q]
    cases hh : (((decide (xs.getD (a + 10) 0 = byK (crcS b) 0) && decide (xs.getD (a + 10 + (0 + 1)) 0 = byK (crcS b) (0 + 1))) && decide (xs.getD (a + 10 + (0 + 1 + 1)) 0 = byK (crcS b) (0 + 1 + 1))) && decide (xs.getD (a + 10 + (0 + 1 + 1 + 1)) 0 = byK (crcS b) (0 + 1 + 1 + 1))) with
    | false => rfl
    | true =>
      exfalso
      apply q
      apply e.mp
      rw [Bool.and_eq_true, Bool.and_eq_true, Bool.and_eq_true] at hh
      exact ⟨of_decide_eq_true hh.1.1.1, of_decide_eq_true hh.1.1.2, of_decide_eq_true hh.1.2, of_decide_eq_true hh.2⟩
/-- a file comes, its name from p on, its bytes those of header a at d -/
theorem m_append {τ : SM} {xs : List Int32} (h : tpM τ xs) {fs : FL} (hf : filesM τ fs) (hw : wfF fs) (h20 : fs.length < 20) {a d p n : Nat} (ha : a + 26 ≤ xs.length) (hs : szOk xs a = true) (hd : d + num4 xs (a + 14) ≤ xs.length) (hp : p + n ≤ xs.length) (hn : n ≤ 30) {b : List Int32} (hu : upH xs a d = some b) : ∃ τ', f_X8_append τ (nI p) (nI n) (nI d) (nI (a + 4)) = some τ' ∧ filesM τ' (fs ++ [(sl xs p n, b)]) ∧ (∀ f, f ≠ 3 → τ'.1 f = τ.1 f) ∧ ∀ a, a < 3 ∨ 6 < a → τ'.2 a = τ.2 a := by
  have hlen := up_len hs hd hu
  have hs2 := of_decide_eq_true hs
  have hnl : (sl xs p n).length = n := slx_len hp
  obtain ⟨τ1, e1, x1, b1⟩ := m_unfold h ha hs hd
  obtain ⟨τ2, e2, i2, a2, f2, n2, s2⟩ := m_nameF (τ := τ1) (xs := xs) (x1.tp h).2.1 h.1 (k := 20) (a := p) (n := n) (by decide) hn hp
  have hfl : flM τ2 20 (sl xs p n, b) := by
    refine ⟨?_, fun i hi => ?_, ?_, fun i hi => ?_⟩
    · rw [n2]; show nI n = nI (sl xs p n).length; rw [hnl]
    · have hi2 : i < (sl xs p n).length := hi
      exact s2 i (by omega)
    · rw [a2 6 (by decide) (by decide)]; exact (b1 b hu).1
    · rw [a2 5 (by decide) (by decide)]; exact (b1 b hu).2 i hi
  have hz : fSz (sl xs p n, b) := ⟨by show (sl xs p n).length ≤ 30; omega, by show b.length ≤ 1500; omega⟩
  obtain ⟨τ3, e3, f3, i3, a3, k3⟩ := m_copyFile (i := 20) (j := fs.length) (by decide) (by omega) (by omega) hfl hz
  have hI : τ3.1 = τ.1 := i3.trans (i2.trans x1.1)
  refine ⟨SMi τ3 3 (nI (fs.length + 1)), ?_, ⟨?_, fun k hk => ?_⟩, fun f hf => by rw [SMi_n hf, hI], fun c hc => ?_⟩
  · unfold f_X8_append
    rw [e1, Option.bind_some, show (20 : Int32) = nI 20 from rfl, e2, Option.bind_some, show τ2.1 3 = nI fs.length by rw [i2, x1.1]; exact hf.1, e3, Option.bind_some, show τ3.1 3 = nI fs.length by rw [hI]; exact hf.1, nI_1]
  · rw [SMi_g, List.length_append]; rfl
  · rw [List.length_append] at hk
    have hk2 : k < fs.length + 1 := hk
    show flM τ3 k ((fs ++ [(sl xs p n, b)]).getD k ([], []))
    by_cases c : k < fs.length
    · rw [List.getD_eq_getElem?_getD, List.getElem?_append_left c, ← List.getD_eq_getElem?_getD]
      have hz2 := ok_sz (wf_f hw c)
      exact k3 k _ (by omega) hz2 (f2 k _ (by omega) hz2 (x1.fl (by omega) hz2 (hf.2 k c)))
    · obtain rfl : k = fs.length := by omega
      rw [List.getD_eq_getElem?_getD, List.getElem?_append_right (Nat.le_refl _), Nat.sub_self]
      exact f3
  · rw [SMi_a, a3 c hc, a2 c (by omega) (by omega), x1.2.1 c (by omega) (by omega)]
