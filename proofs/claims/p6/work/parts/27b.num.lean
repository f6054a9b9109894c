/-! ===== PURE: the reference's numbers on a tape ===== -/
/-- the tape that the reference holds -/
def tpM (τ : SM) (xs : List Int32) : Prop := xs.length ≤ 9000 ∧ (∀ i, i < xs.length → τ.2 1 i = xs.getD i 0) ∧ ∀ x ∈ xs, byteP x
theorem RM.tp {τ : SM} {rd tp ou : List Int32} {fs : FL} (h : RM τ (rd, tp, ou, fs)) : tpM τ tp := ⟨h.l1, fun _ hi => h.a1 hi, h.b1⟩
theorem tpM.ot {τ τ' : SM} {xs : List Int32} (h : tpM τ xs) (e : τ'.2 1 = τ.2 1) : tpM τ' xs := ⟨h.1, by rw [e]; exact h.2.1, h.2.2⟩
def cl (n : Nat) : Nat := min n 2147483647
theorem m_num_s {τ : SM} {xs : List Int32} (h : tpM τ xs) {a k n v : Nat} (x2 : Int32) (hk : a + k < xs.length) (hv : v < 2 ^ 40) : f_X8_number_7 (nI a) x2 (n + 1) τ (lN v) (nI k) = f_X8_number_7 (nI a) x2 n τ (lN (v * 256 + bN xs (a + k))) (nI k + (-1)) := by
  have C := cms
  have h9 := h.1
  obtain ⟨g1, g2⟩ := bN_of (i := a + k) h.2.2
  rw [f_X8_number_7, if_neg (nI_pos (by omega)), nI_add, if_pos (inb_t (by omega) (by omega)), nI_clamp (by omega), h.2.1 _ hk, g2, nI_l (by omega), show (8 : Int32) = nI 8 from rfl, wb_shl v (k := 8) (by decide), g_or (k := 8) (p := 2 ^ 8) rfl g1 (by omega)]
theorem m_num_e {τ : SM} {n v : Nat} (x1 x2 : Int32) (hv : v < 2 ^ 63) : f_X8_number_7 x1 x2 (n + 1) τ (lN v) (-1) = some (nI (cl v), τ) := by
  have e : lg_cmp (lN v) 2147483647 ≤ 0 ↔ v ≤ 2147483647 := by
    rw [lg_cmp_le, show (2147483647 : Int64) = lN 2147483647 from rfl, pk_lLE hv (by decide)]
  unfold cl
  rw [f_X8_number_7, if_pos (by decide)]
  by_cases c : v ≤ 2147483647
  · rw [if_pos (e.mpr c), lN_i, Nat.min_eq_left c]
  · rw [if_neg (fun q => c (e.mp q)), Nat.min_eq_right (by omega)]
    rfl
theorem m_num2 {τ : SM} {xs : List Int32} (h : tpM τ xs) {a : Nat} (ha : a + 2 ≤ xs.length) : f_X8_number τ (nI a) 2 = some (nI (num2 xs a), τ) := by
  have b0 := (bN_of (i := a) h.2.2).1
  have b1 := (bN_of (i := a + 1) h.2.2).1
  have z : bN xs (a + 0) = bN xs a := rfl
  unfold f_X8_number
  rw [show fu = 99997 + 1 + 1 + 1 from rfl, show (2 : Int32) - 1 = nI 1 from rfl, show (0 : Int64) = lN 0 from rfl, m_num_s h _ (by omega) (by decide), pk_m1 0, m_num_s h _ (by omega) (by omega), show nI 0 + (-1) = -1 from rfl, m_num_e _ _ (by omega)]
  congr 3
  unfold cl num2
  rw [Nat.add_zero]
  omega
theorem m_num4 {τ : SM} {xs : List Int32} (h : tpM τ xs) {a : Nat} (ha : a + 4 ≤ xs.length) : f_X8_number τ (nI a) 4 = some (nI (cl (num4 xs a)), τ) := by
  have b0 := (bN_of (i := a) h.2.2).1
  have b1 := (bN_of (i := a + 1) h.2.2).1
  have b2 := (bN_of (i := a + 2) h.2.2).1
  have b3 := (bN_of (i := a + 3) h.2.2).1
  have z : bN xs (a + 0) = bN xs a := rfl
  unfold f_X8_number
  rw [show fu = 99995 + 1 + 1 + 1 + 1 + 1 from rfl, show (4 : Int32) - 1 = nI 3 from rfl, show (0 : Int64) = lN 0 from rfl, m_num_s h _ (by omega) (by decide), pk_m1 2, m_num_s h _ (by omega) (by omega), pk_m1 1, m_num_s h _ (by omega) (by omega), pk_m1 0, m_num_s h _ (by omega) (by omega), show nI 0 + (-1) = -1 from rfl, m_num_e _ _ (by omega)]
  congr 3
  unfold num4
  congr 1
  rw [Nat.add_zero]
  omega
theorem m_is2 {τ : SM} {xs : List Int32} (h : tpM τ xs) {a v : Nat} (ha : a + 2 ≤ xs.length) (hv : v < 2 ^ 31) : f_X8_is τ (nI a) 2 (nI v) = some (b2i (decide (num2 xs a = v)), τ) := by
  have hl := num2_lt h.2.2 a
  unfold f_X8_is
  rw [m_num2 h ha, Option.bind_some]
  by_cases c : num2 xs a = v
  · rw [if_pos (by rw [c]), decide_eq_true c]; rfl
  · rw [if_neg (fun q => c ((nI_eq (by omega) hv).mp q)), decide_eq_false c]; rfl
theorem m_is4 {τ : SM} {xs : List Int32} (h : tpM τ xs) {a v : Nat} (ha : a + 4 ≤ xs.length) (hv : v < 2147483647) : f_X8_is τ (nI a) 4 (nI v) = some (b2i (decide (num4 xs a = v)), τ) := by
  unfold f_X8_is
  rw [m_num4 h ha, Option.bind_some]
  have e : nI (cl (num4 xs a)) = nI v ↔ num4 xs a = v := by
    rw [nI_eq (by unfold cl; omega) (by omega)]
    unfold cl
    omega
  by_cases c : num4 xs a = v
  · rw [if_pos (e.mpr c), decide_eq_true c]; rfl
  · rw [if_neg (fun q => c (e.mp q)), decide_eq_false c]; rfl
theorem m_sig {τ : SM} {xs : List Int32} (h : tpM τ xs) {a : Nat} (ha : a + 4 ≤ xs.length) (x y : Int32) : f_X8_isSign τ (nI a) x y = some (b2i (sigAt xs a x y), τ) := by
  have C := cms
  have h9 := h.1
  have e : ∀ j, j < xs.length → atx xs (nI j) = xs.getD j 0 := fun j hj => by rw [atx_n (by omega), if_pos hj]
  unfold f_X8_isSign sigAt
  rw [e a (by omega), e (a + 1) (by omega), e (a + 2) (by omega), e (a + 3) (by omega)]
  rw [if_pos (inb_t (by omega) (by omega)), nI_clamp (by omega), h.2.1 _ (by omega), nI_1, show (2 : Int32) = nI 2 from rfl, show (3 : Int32) = nI 3 from rfl, nI_add, nI_add]
  by_cases c1 : xs.getD a 0 = 80
  · rw [if_pos c1, if_pos (inb_t (by omega) (by omega)), nI_clamp (by omega), h.2.1 _ (by omega)]
    by_cases c2 : xs.getD (a + 1) 0 = 75
    · rw [if_pos c2, if_pos (inb_t (by omega) (by omega)), nI_clamp (by omega), h.2.1 _ (by omega)]
      by_cases c3 : xs.getD (a + 2) 0 = x
      · rw [if_pos c3, if_pos (inb_t (by omega) (by omega)), nI_clamp (by omega), h.2.1 _ (by omega)]
        by_cases c4 : xs.getD (a + 3) 0 = y
        · rw [if_pos c4, decide_eq_true ⟨c1, c2, c3, c4⟩]; rfl
        · rw [if_neg c4, decide_eq_false (fun q => c4 q.2.2.2)]; rfl
      · rw [if_neg c3, decide_eq_false (fun q => c3 q.2.2.1)]; rfl
    · rw [if_neg c2, decide_eq_false (fun q => c2 q.2.1)]; rfl
  · rw [if_neg c1, decide_eq_false (fun q => c1 q.1)]; rfl
/-- n bytes from a on -/
def sl (xs : List Int32) (a n : Nat) : List Int32 := (xs.drop a).take n
theorem m_same_0 {x1 x2 x3 : Int32} {n : Nat} {τ : SM} {x5 : Int32} : f_X8_isSame_6 x1 x2 x3 (n + 1) τ 0 x5 = some (0, τ) := by
  rw [f_X8_isSame_6, if_pos (show (0 : Int32) = 0 from rfl), if_pos (show nzb 0 = true from rfl)]
  by_cases c : x3 ≤ x5
  · rw [if_pos c]
  · rw [if_neg c]
theorem m_same_l {τ : SM} {xs : List Int32} (h : tpM τ xs) {a b k : Nat} (ha : a + k ≤ xs.length) (hb : b + k ≤ xs.length) : ∀ (m j n : Nat), j + m = k → m + 1 < n → f_X8_isSame_6 (nI a) (nI b) (nI k) n τ 1 (nI j) = some (b2i (decide (sl xs (a + j) m = sl xs (b + j) m)), τ) := by
  have C := cms
  have h9 := h.1
  intro m
  induction m with
  | zero =>
    intro j n hj hn
    obtain ⟨i, rfl⟩ : ∃ i, n = i + 1 := ⟨n - 1, by omega⟩
    unfold sl
    rw [f_X8_isSame_6, if_pos (nI_le (by omega) (by omega)), if_pos (show nzb 1 = true from rfl), decide_eq_true (by rw [List.take_zero, List.take_zero])]
    rfl
  | succ m ih =>
    intro j n hj hn
    obtain ⟨i, rfl⟩ : ∃ i, n = (i + 1) + 1 := ⟨n - 2, by omega⟩
    have e : (sl xs (a + j) (m + 1) = sl xs (b + j) (m + 1)) ↔ (xs.getD (a + j) 0 = xs.getD (b + j) 0 ∧ sl xs (a + (j + 1)) m = sl xs (b + (j + 1)) m) := by
      unfold sl
      rw [sl_succ (by omega), sl_succ (by omega), List.cons.injEq, Nat.add_assoc, Nat.add_assoc]
    rw [f_X8_isSame_6, if_neg (nI_ge (by omega) (by omega)), if_neg (show ¬ (1 : Int32) = 0 by decide), nI_add, nI_add, if_pos (inb_t (by omega) (by omega)), if_pos (inb_t (by omega) (by omega)), nI_clamp (by omega), nI_clamp (by omega), h.2.1 _ (by omega), h.2.1 _ (by omega)]
    unfold f_X8_isSame_43
    by_cases c : xs.getD (a + j) 0 = xs.getD (b + j) 0
    · rw [if_pos c, nI_1, ih (j + 1) (i + 1) (by omega) (by omega)]
      congr 3
      exact decide_eq_decide.mpr ⟨fun q => e.mpr ⟨c, q⟩, fun q => (e.mp q).2⟩
    · rw [if_neg c, m_same_0, decide_eq_false (fun q => c (e.mp q).1)]; rfl
theorem m_same {τ : SM} {xs : List Int32} (h : tpM τ xs) {a b k : Nat} (ha : a + k ≤ xs.length) (hb : b + k ≤ xs.length) : f_X8_isSame τ (nI a) (nI b) (nI k) = some (b2i (decide (sl xs a k = sl xs b k)), τ) := by
  have h9 := h.1
  unfold f_X8_isSame
  exact m_same_l h ha hb k 0 fu (by omega) (by unfold fu; omega)
/-- the facts of a header, from its method's place on less two -/
def fct (xs : List Int32) (a : Nat) : Bool := decide (num2 xs a = 0 ∧ (num2 xs (a + 2) = 0 ∨ num2 xs (a + 2) = 99) ∧ num2 xs (a + 4) = 0 ∧ num2 xs (a + 6) = 33)
theorem b2i_0 {b : Bool} : b2i b = 0 ↔ b = false := by cases b <;> decide
theorem m_facts8 {τ : SM} {xs : List Int32} (h : tpM τ xs) {a : Nat} (ha : a + 8 ≤ xs.length) : f_X8_areFacts τ (nI a) = some (b2i (fct xs a), τ) := by
  unfold f_X8_areFacts f_X8_areFacts_30 fct
  have i1 : f_X8_is τ (nI a) 2 0 = _ := m_is2 h (a := a) (v := 0) (by omega) (by decide)
  have i2 : f_X8_is τ (nI (a + 2)) 2 0 = _ := m_is2 h (a := a + 2) (v := 0) (by omega) (by decide)
  have i3 : f_X8_is τ (nI (a + 2)) 2 99 = _ := m_is2 h (a := a + 2) (v := 99) (by omega) (by decide)
  have i4 : f_X8_is τ (nI (a + 4)) 2 0 = _ := m_is2 h (a := a + 4) (v := 0) (by omega) (by decide)
  have i5 : f_X8_is τ (nI (a + 6)) 2 33 = _ := m_is2 h (a := a + 6) (v := 33) (by omega) (by decide)
  have n2 : nI a + 2 = nI (a + 2) := nI_add a 2
  have n4 : nI a + 4 = nI (a + 4) := nI_add a 4
  have n6 : nI a + 6 = nI (a + 6) := nI_add a 6
  simp only [n2, n4, n6, i1, i2, i3, i4, i5, Option.bind_some, b2i_0, decide_eq_false_iff_not]
  by_cases c1 : num2 xs a = 0 <;> by_cases c2 : num2 xs (a + 2) = 0 <;> by_cases c3 : num2 xs (a + 2) = 99 <;> by_cases c4 : num2 xs (a + 4) = 0 <;> by_cases c5 : num2 xs (a + 6) = 33 <;> simp [c1, c2, c3, c4, c5, b2i]
