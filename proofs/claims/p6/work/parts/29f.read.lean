/-! ===== PURE: the reference's read: end, centrals ===== -/
theorem num4_0 {xs : List Int32} {i : Nat} : num4 xs i = 0 ↔ num2 xs i = 0 ∧ num2 xs (i + 2) = 0 := by
  rw [num4_2]
  omega
theorem m_findEnd {τ : SM} {xs : List Int32} (h : tpM τ xs) (h1 : τ.1 1 = nI xs.length) : f_X8_findEnd τ = some (if eoK xs = true then nI (eoE xs) else -1, τ) := by
  have h9 := h.1
  have hb := h.2.2
  unfold f_X8_findEnd
  rw [h1]
  by_cases hl : 22 ≤ xs.length
  case neg =>
    have k' : eoK xs = false := by unfold eoK; rw [decide_eq_false hl, Bool.false_and]
    rw [if_neg, k', if_neg (by decide)]
    rw [Int32.le_iff_toInt_le, show (22 : Int32) = nI 22 from rfl, pk_sub_toInt (by omega) (by decide), Int32.toInt_zero]
    omega
  have hE : eoE xs + 22 = xs.length := by unfold eoE; omega
  have hN : num2 xs (eoE xs + 8) = eoN xs := rfl
  have hF : num4 xs (eoE xs + 16) = eoF xs := rfl
  have LN : eoN xs < 65536 := num2_lt hb _
  have L10 := num2_lt hb (eoE xs + 10)
  have LF : eoF xs < 4294967296 := num4_lt hb _
  have L12 := num4_lt hb (eoE xs + 12)
  have hD : eoK xs = true → sigAt xs (eoE xs) 5 6 = true ∧ num4 xs (eoE xs + 4) = 0 ∧ num2 xs (eoE xs + 20) = 0 ∧ eoN xs ≤ 20 ∧ eoN xs = num2 xs (eoE xs + 10) ∧ eoF xs + num4 xs (eoE xs + 12) = eoE xs ∧ (0 < eoN xs ∨ eoE xs = 0) := fun q => by
    obtain ⟨g1, g2, g3, g4, g5, g6, g7, g8, g9⟩ := eoK_t q
    exact ⟨g2, num4_0.mpr ⟨g3, g4⟩, g5, g6, g7, g8, g9⟩
  rw [show nI xs.length - 22 = nI (eoE xs) from pk_sub (b := 22) hl, if_pos (nI_pos' (by omega))]
  generalize hee : eoE xs = e at *
  have k4 : nI e + 4 = nI (e + 4) := nI_add e 4
  have k8 : nI e + 8 = nI (e + 8) := nI_add e 8
  have k10 : nI e + 10 = nI (e + 10) := nI_add e 10
  have k12 : nI e + 12 = nI (e + 12) := nI_add e 12
  have k16 : nI e + 16 = nI (e + 16) := nI_add e 16
  have k20 : nI e + 20 = nI (e + 20) := nI_add e 20
  have i4 : f_X8_is τ (nI (e + 4)) 4 0 = some (b2i (decide (num4 xs (e + 4) = 0)), τ) := m_is4 h (v := 0) (by omega) (by decide)
  have i20 : f_X8_is τ (nI (e + 20)) 2 0 = some (b2i (decide (num2 xs (e + 20) = 0)), τ) := m_is2 h (v := 0) (by omega) (by decide)
  have i8 : f_X8_is τ (nI (e + 8)) 2 0 = some (b2i (decide (eoN xs = 0)), τ) := by rw [← hN]; exact m_is2 h (v := 0) (by omega) (by decide)
  have n0 : f_X8_findEnd_90 τ (nI e) 0 = some (-1, τ) := by
    unfold f_X8_findEnd_90 f_X8_findEnd_135
    rw [k12, m_num4 h (by omega), Option.bind_some, k16, m_num4 h (by omega), Option.bind_some, if_pos (show (0 : Int32) = 0 from rfl), if_pos (show (0 : Int32) = 0 from rfl)]
  have no : ∀ P : Prop, (eoK xs = true → P) → ¬ P → some ((-1 : Int32), τ) = some (if eoK xs = true then nI e else -1, τ) := fun P q1 q2 => by rw [if_neg (fun q => q2 (q1 q))]
  rw [m_sig h (by omega), Option.bind_some, k4, i4, Option.bind_some, k8, m_num2 h (by omega), Option.bind_some, m_num2 h (by omega), Option.bind_some, k10, m_num2 h (by omega), Option.bind_some, hN, k20, i20, Option.bind_some]
  simp only [n0]
  by_cases c1 : sigAt xs e 5 6 = true
  case neg =>
    have c1' : sigAt xs e 5 6 = false := by simpa using c1
    rw [c1', if_pos (show b2i false = 0 from rfl)]
    exact no _ (fun q => (hD q).1) c1
  rw [c1, if_neg (show ¬ b2i true = 0 by decide)]
  by_cases c2 : num4 xs (e + 4) = 0
  case neg =>
    rw [decide_eq_false c2, if_pos (show b2i false = 0 from rfl)]
    exact no _ (fun q => (hD q).2.1) c2
  rw [decide_eq_true c2, if_neg (show ¬ b2i true = 0 by decide)]
  by_cases c3 : eoN xs ≤ 20
  case neg =>
    rw [if_pos (show (20 : Int32) < nI (eoN xs) from nI_lt (a := 20) (by omega) (by omega))]
    exact no _ (fun q => (hD q).2.2.2.1) c3
  rw [if_neg (show ¬ (20 : Int32) < nI (eoN xs) from nI_nlt (a := 20) (by omega) (by decide))]
  by_cases c4 : eoN xs = num2 xs (e + 10)
  case neg =>
    rw [if_neg (fun q => c4 ((nI_eq (by omega) (by omega)).mp q))]
    exact no _ (fun q => (hD q).2.2.2.2.1) c4
  rw [if_pos (by rw [c4])]
  by_cases c5 : num2 xs (e + 20) = 0
  case neg =>
    rw [decide_eq_false c5, if_pos (show b2i false = 0 from rfl)]
    exact no _ (fun q => (hD q).2.2.1) c5
  rw [decide_eq_true c5, if_neg (show ¬ b2i true = 0 by decide)]
  unfold f_X8_findEnd_90 f_X8_findEnd_135
  rw [k12, m_num4 h (by omega), Option.bind_some, k16, m_num4 h (by omega), Option.bind_some, if_neg (show ¬ (1 : Int32) = 0 by decide), k8, i8, Option.bind_some, hF, nI_l (by unfold cl; omega), nI_l (by unfold cl; omega), nI_l (by omega), lN_add]
  simp only [if_neg (show ¬ (1 : Int32) = 0 by decide)]
  have ee : lg_cmp (lN (cl (num4 xs (e + 12)) + cl (eoF xs))) (lN e) = 0 ↔ eoF xs + num4 xs (e + 12) = e := by
    rw [lg_cmp_eq, pk_lEQ (by unfold cl; omega) (by omega)]
    unfold cl
    omega
  by_cases c6 : eoF xs + num4 xs (e + 12) = e
  case neg =>
    rw [if_neg (fun q => c6 (ee.mp q)), if_neg (fun q => c6 (ee.mp q)), ite_self]
    exact no _ (fun q => (hD q).2.2.2.2.2.1) c6
  rw [if_pos (ee.mpr c6), if_pos (ee.mpr c6), if_pos trivial]
  obtain ⟨z1, z2⟩ := num4_0.mp c2
  have yes : (0 < eoN xs ∨ e = 0) → eoK xs = true := fun q => by
    unfold eoK
    rw [hee, c1, decide_eq_true hl, decide_eq_true ⟨z1, z2, c5, c3, c4, c6, q⟩]; rfl
  by_cases c7 : eoN xs = 0
  · rw [decide_eq_true c7, if_neg (show ¬ b2i true = 0 by decide)]
    by_cases c8 : e = 0
    · rw [if_pos (show nI e = 0 by rw [c8]; rfl), if_pos (yes (Or.inr c8))]
    · rw [if_neg (show ¬ nI e = 0 from fun q => c8 ((nI_eq (b := 0) (by omega) (by decide)).mp q))]
      exact no _ (fun q => (hD q).2.2.2.2.2.2) (fun q => by omega)
  · rw [decide_eq_false c7, if_pos (show b2i false = 0 from rfl), if_pos (yes (Or.inl (by omega)))]
/-- places that the reference holds -/
def arrR (τ : SM) (a : Nat) (cs : List Nat) : Prop := ∀ i, i < cs.length → τ.2 a i = nI (cs.getD i 0)
theorem m_era {τ : SM} {xs : List Int32} (h : tpM τ xs) {a e : Nat} {cs : List Nat} (he : e ≤ xs.length) (hc : ∀ c ∈ cs, cenK xs e c = true ∧ c ≤ a) (ha : a + 46 + cnN xs a ≤ e) (hn : cs.length ≤ 20) (hA : arrR τ 8 cs) (x2 x3 : Int32) (hx2 : x2 = nI a) : ∀ (m j n : Nat) (f : Bool), j + m = cs.length → m < n → f_X8_isCentral_140 (nI cs.length) x2 x3 n τ (nI (cnN xs a)) (b2i f) (nI j) = some (b2i (!(f || era xs (cs.drop j) a)), τ) := by
  have C := cms
  have h9 := h.1
  have hb := h.2.2
  have Ln : cnN xs a < 65536 := num2_lt hb _
  intro m
  induction m with
  | zero =>
    intro j n f hj hn2
    obtain ⟨i, rfl⟩ : ∃ i, n = i + 1 := ⟨n - 1, by omega⟩
    rw [f_X8_isCentral_140, if_pos (nI_le (by omega) (by omega)), List.drop_of_length_le (by omega)]
    cases f <;> rfl
  | succ m ih =>
    intro j n f hj hn2
    obtain ⟨i, rfl⟩ : ∃ i, n = i + 1 := ⟨n - 1, by omega⟩
    obtain ⟨hcj, hca⟩ := hc _ (gN (show j < cs.length by omega))
    have hcb := (cenK_t hcj).2.2.2.2.2.2.2.1
    rw [drN (show j < cs.length by omega)]
    generalize hcc : cs.getD j 0 = c at hcj hcb hca
    rw [f_X8_isCentral_140, if_neg (nI_ge (by omega) (by omega))]
    unfold f_X8_isCentral_199
    rw [nI_1]
    have eR : era xs (c :: cs.drop (j + 1)) a = (decide (cnN xs c = cnN xs a ∧ sl xs (c + 46) (cnN xs a) = sl xs (a + 46) (cnN xs a)) || era xs (cs.drop (j + 1)) a) := by
      unfold era
      rw [List.any_cons]
    rw [eR]
    cases f with
    | true =>
      rw [if_neg (show ¬ b2i true = 0 by decide)]
      have := ih (j + 1) i true (by omega) (by omega)
      rw [show f_X8_isCentral_140 (nI cs.length) x2 x3 i τ (nI (cnN xs a)) 1 (nI (j + 1)) = _ from this]
      rfl
    | false =>
      have i1 : f_X8_is τ (nI (c + 28)) 2 (nI (cnN xs a)) = some (b2i (decide (cnN xs c = cnN xs a)), τ) := m_is2 h (by omega) (by omega)
      have k28 : nI c + 28 = nI (c + 28) := nI_add c 28
      have k46 : nI c + 46 = nI (c + 46) := nI_add c 46
      have j46 : nI a + 46 = nI (a + 46) := nI_add a 46
      rw [if_pos (show b2i false = 0 from rfl), if_pos (inb_t (by omega) (by omega)), nI_clamp (by omega), hA j (by omega), hcc, hx2, k46, j46, m_same h (by omega) (by omega), Option.bind_some]
      have f0 := ih (j + 1) i false (by omega) (by omega)
      have f1 := ih (j + 1) i true (by omega) (by omega)
      rw [hx2] at f0 f1
      by_cases c2 : sl xs (c + 46) (cnN xs a) = sl xs (a + 46) (cnN xs a)
      · rw [decide_eq_true c2, if_neg (show ¬ b2i true = 0 by decide), if_pos (inb_t (by omega) (by omega)), hA j (by omega), hcc, k28, i1, Option.bind_some]
        by_cases c1 : cnN xs c = cnN xs a
        · rw [decide_eq_true c1, if_neg (show ¬ b2i true = 0 by decide), decide_eq_true ⟨c1, c2⟩]
          exact f1
        · rw [decide_eq_false c1, if_pos (show b2i false = 0 from rfl), decide_eq_false (fun q => c1 q.1)]
          exact f0
      · rw [decide_eq_false c2, if_pos (show b2i false = 0 from rfl), decide_eq_false (fun q => c2 q.2)]
        exact f0
theorem m_isCentral {τ : SM} {xs : List Int32} (h : tpM τ xs) {a e : Nat} {cs : List Nat} (he : e ≤ xs.length) (hc : ∀ c ∈ cs, cenK xs e c = true ∧ c ≤ a) (ha : a ≤ 9000) (hn : cs.length ≤ 20) (hA : arrR τ 8 cs) : f_X8_isCentral τ (nI cs.length) (nI a) (nI e) = some (b2i (cenK xs e a && !era xs cs a), τ) := by
  have h9 := h.1
  have hb := h.2.2
  have Ln : cnN xs a < 65536 := num2_lt hb _
  have no : ∀ P : Prop, (cenK xs e a = true → P) → ¬ P → cenK xs e a = false := fun P q1 q2 => by
    cases hh : cenK xs e a
    · rfl
    · exact absurd (q1 hh) q2
  have k4 : nI a + 4 = nI (a + 4) := nI_add a 4
  have k6 : nI a + 6 = nI (a + 6) := nI_add a 6
  have k8 : nI a + 8 = nI (a + 8) := nI_add a 8
  have k28 : nI a + 28 = nI (a + 28) := nI_add a 28
  have k30 : nI a + 30 = nI (a + 30) := nI_add a 30
  have k34 : nI a + 34 = nI (a + 34) := nI_add a 34
  have k38 : nI a + 38 = nI (a + 38) := nI_add a 38
  have k46 : nI a + 46 = nI (a + 46) := nI_add a 46
  unfold f_X8_isCentral
  rw [k46]
  by_cases c0 : e < a + 46
  · rw [if_pos (nI_lt c0 (by omega)), no (a + 46 + cnN xs a ≤ e) (fun q => (cenK_t q).2.2.2.2.2.2.2.1) (by omega), Bool.false_and]; rfl
  have hdT : hdOk xs (a + 6) = true → num2 xs (a + 6) = 20 ∧ fct xs (a + 8) = true ∧ num2 xs (a + 30) = 0 := fun q => by
    have q2 := of_decide_eq_true q
    unfold fct
    simp only [Nat.add_assoc, Nat.reduceAdd] at q2 ⊢
    exact ⟨q2.2.1, decide_eq_true ⟨q2.2.2.1, q2.2.2.2.1, q2.2.2.2.2.1, q2.2.2.2.2.2.1⟩, q2.2.2.2.2.2.2.2.2⟩
  have t2T : ∀ j v, t2 xs j v = true → num2 xs j = v := fun j v q => (of_decide_eq_true q).2
  rw [if_neg (nI_nlt (by omega) (by omega)), m_sig h (by omega), Option.bind_some]
  by_cases c1 : sigAt xs a 1 2 = true
  case neg =>
    have c1' : sigAt xs a 1 2 = false := by simpa using c1
    rw [c1', if_pos (show b2i false = 0 from rfl), no _ (fun q => (cenK_t q).1) c1, Bool.false_and]; rfl
  have i4 : f_X8_is τ (nI (a + 4)) 2 20 = some (b2i (decide (num2 xs (a + 4) = 20)), τ) := m_is2 h (v := 20) (by omega) (by decide)
  have i6 : f_X8_is τ (nI (a + 6)) 2 20 = some (b2i (decide (num2 xs (a + 6) = 20)), τ) := m_is2 h (v := 20) (by omega) (by decide)
  have i30 : f_X8_is τ (nI (a + 30)) 4 0 = some (b2i (decide (num4 xs (a + 30) = 0)), τ) := m_is4 h (v := 0) (by omega) (by decide)
  have i34 : f_X8_is τ (nI (a + 34)) 4 0 = some (b2i (decide (num4 xs (a + 34) = 0)), τ) := m_is4 h (v := 0) (by omega) (by decide)
  have i38 : f_X8_is τ (nI (a + 38)) 4 0 = some (b2i (decide (num4 xs (a + 38) = 0)), τ) := m_is4 h (v := 0) (by omega) (by decide)
  rw [c1, if_neg (show ¬ b2i true = 0 by decide), k4, i4, Option.bind_some]
  by_cases c2 : num2 xs (a + 4) = 20
  case neg =>
    rw [decide_eq_false c2, if_pos (show b2i false = 0 from rfl), no _ (fun q => t2T _ _ (cenK_t q).2.1) c2, Bool.false_and]; rfl
  rw [decide_eq_true c2, if_neg (show ¬ b2i true = 0 by decide), k6, i6, Option.bind_some]
  by_cases c3 : num2 xs (a + 6) = 20
  case neg =>
    rw [decide_eq_false c3, if_pos (show b2i false = 0 from rfl), no _ (fun q => (hdT (cenK_t q).2.2.1).1) c3, Bool.false_and]; rfl
  rw [decide_eq_true c3, if_neg (show ¬ b2i true = 0 by decide), k8, m_facts8 h (by omega), Option.bind_some]
  by_cases c4 : fct xs (a + 8) = true
  case neg =>
    have c4' : fct xs (a + 8) = false := by simpa using c4
    rw [c4', if_pos (show b2i false = 0 from rfl), no _ (fun q => (hdT (cenK_t q).2.2.1).2.1) c4, Bool.false_and]; rfl
  rw [c4, if_neg (show ¬ b2i true = 0 by decide), k28, m_num2 h (by omega), Option.bind_some, show num2 xs (a + 28) = cnN xs a from rfl, nI_add]
  by_cases c5 : a + 46 + cnN xs a ≤ e
  case neg =>
    rw [if_pos (nI_lt (by omega) (by omega)), no _ (fun q => (cenK_t q).2.2.2.2.2.2.2.1) c5, Bool.false_and]; rfl
  rw [if_neg (nI_nlt c5 (by omega)), m_isName (τ := τ) h.2.1 h9 (a := a + 46) (k := cnN xs a) (fun _ => by omega) (by omega), Option.bind_some]
  by_cases c6 : nameAt xs (a + 46) (cnN xs a) = true
  case neg =>
    have c6' : nameAt xs (a + 46) (cnN xs a) = false := by simpa using c6
    rw [c6', if_pos (show b2i false = 0 from rfl), no _ (fun q => (cenK_t q).2.2.2.2.2.2.2.2) c6, Bool.false_and]; rfl
  rw [c6, if_neg (show ¬ b2i true = 0 by decide), k30, i30, Option.bind_some]
  by_cases c7 : num4 xs (a + 30) = 0
  case neg =>
    rw [decide_eq_false c7, if_pos (show b2i false = 0 from rfl), no _ (fun q => num4_0.mpr ⟨(hdT (cenK_t q).2.2.1).2.2, t2T _ _ (cenK_t q).2.2.2.1⟩) c7, Bool.false_and]; rfl
  rw [decide_eq_true c7, if_neg (show ¬ b2i true = 0 by decide), k34, i34, Option.bind_some]
  by_cases c8 : num4 xs (a + 34) = 0
  case neg =>
    rw [decide_eq_false c8, if_pos (show b2i false = 0 from rfl), no _ (fun q => num4_0.mpr ⟨t2T _ _ (cenK_t q).2.2.2.2.1, t2T _ _ (cenK_t q).2.2.2.2.2.1⟩) c8, Bool.false_and]; rfl
  rw [decide_eq_true c8, if_neg (show ¬ b2i true = 0 by decide), k38, i38, Option.bind_some]
  by_cases c9 : num4 xs (a + 38) = 0
  case neg =>
    rw [decide_eq_false c9, if_pos (show b2i false = 0 from rfl), no _ (fun q => (of_decide_eq_true (cenK_t q).2.2.2.2.2.2.1).2) c9, Bool.false_and]; rfl
  rw [decide_eq_true c9, if_neg (show ¬ b2i true = 0 by decide)]
  obtain ⟨y1, y2⟩ := num4_0.mp c7
  obtain ⟨y3, y4⟩ := num4_0.mp c8
  obtain ⟨n1, n2, n3, n4⟩ := nameAt_u c6
  have hK : cenK xs e a = true := by
    have q := of_decide_eq_true c4
    have hd : hdOk xs (a + 6) = true := by
      unfold cnN at n1 n2
      unfold hdOk
      simp only [Nat.add_assoc, Nat.reduceAdd] at q ⊢
      exact decide_eq_true ⟨by omega, c3, q.1, q.2.1, q.2.2.1, q.2.2.2, n1, n2, y1⟩
    unfold cenK
    rw [c1, hd, c6, show t2 xs (a + 4) 20 = true from decide_eq_true ⟨by omega, c2⟩, show t2 xs (a + 32) 0 = true from decide_eq_true ⟨by omega, y2⟩, show t2 xs (a + 34) 0 = true from decide_eq_true ⟨by omega, y3⟩, show t2 xs (a + 36) 0 = true from decide_eq_true ⟨by omega, y4⟩, show t4 xs (a + 38) 0 = true from decide_eq_true ⟨by omega, c9⟩, decide_eq_true c5]; rfl
  rw [hK, Bool.true_and]
  have := m_era h he hc c5 hn hA (nI a) (nI e) rfl cs.length 0 fu false (by omega) (by unfold fu; omega)
  rw [List.drop_zero, Bool.false_or] at this
  exact this
