/-! ===== PURE: the reference's read: centrals, locals ===== -/
/-- but for the fault and the places: as it was -/
def exA (τ τ' : SM) : Prop := (∀ f, ¬ (4 ≤ f ∧ f ≤ 6) → τ'.1 f = τ.1 f) ∧ ∀ a, a < 8 ∨ 9 < a → τ'.2 a = τ.2 a
theorem exA.rf {τ : SM} : exA τ τ := ⟨fun _ _ => rfl, fun _ _ => rfl⟩
theorem exA.tr {τ1 τ2 τ3 : SM} (h : exA τ1 τ2) (g : exA τ2 τ3) : exA τ1 τ3 := ⟨fun f n => (g.1 f n).trans (h.1 f n), fun a n => (g.2 a n).trans (h.2 a n)⟩
theorem exA.si {τ : SM} {f : Nat} {v : Int32} (hf : 4 ≤ f ∧ f ≤ 6) : exA τ (SMi τ f v) := ⟨fun g n => SMi_n (by omega), fun _ _ => rfl⟩
theorem exA.sc {τ : SM} {a : Nat} {g : Nat → Int32} (ha : a = 8 ∨ a = 9) : exA τ (SMc τ a g) := ⟨fun _ _ => rfl, fun b n => SMc_n (by omega)⟩
theorem exA.tp {τ τ' : SM} {xs : List Int32} (e : exA τ τ') (h : tpM τ xs) : tpM τ' xs := h.ot (e.2 1 (by omega))
theorem m_fails (τ : SM) (x1 x2 x3 : Int32) : ∃ τ', ((f_X8_fails τ x1 x2 x3).bind fun q76 => if nzb q76.1 = true then some (q76.1, q76.2) else none) = some (0, τ') ∧ exA τ τ' ∧ τ'.2 = τ.2 := by
  unfold f_X8_fails
  rw [Option.bind_some, if_pos (show nzb 0 = true from rfl)]
  exact ⟨_, rfl, ((exA.si (by decide)).tr (exA.si (by decide))).tr (exA.si (by decide)), rfl⟩
theorem m_cenPass {xs : List Int32} {e N : Nat} (he : e ≤ xs.length) (hN : N ≤ 20) : ∀ (m a n : Nat) (τ : SM) (cs : List Nat), cs.length + m = N → m < n → a ≤ 9000 → tpM τ xs → arrR τ 8 cs → (∀ c ∈ cs, cenK xs e c = true ∧ c ≤ a) → ∃ τ', f_X8_findCentrals_15 (nI N) (nI e) n τ (nI a) (nI cs.length) = some (b2i (cenF xs e m a cs).isSome, τ') ∧ exA τ τ' ∧ ∀ L, cenF xs e m a cs = some L → arrR τ' 8 L := by
  have C := cms
  intro m
  induction m with
  | zero =>
    intro a n τ cs hm hn ha h hA hc
    obtain ⟨i, rfl⟩ : ∃ i, n = i + 1 := ⟨n - 1, by omega⟩
    refine ⟨τ, ?_, exA.rf, fun L q => ?_⟩
    · rw [f_X8_findCentrals_15, if_pos (nI_le (by omega) (by omega))]; rfl
    · rw [cenF] at q
      rw [← Option.some.inj q]; exact hA
  | succ m ih =>
    intro a n τ cs hm hn ha h hA hc
    have h9 := h.1
    have Ln : cnN xs a < 65536 := num2_lt h.2.2 _
    obtain ⟨i, rfl⟩ : ∃ i, n = i + 1 := ⟨n - 1, by omega⟩
    rw [f_X8_findCentrals_15, if_neg (nI_ge (by omega) (by omega)), m_isCentral h he hc ha (by omega) hA, Option.bind_some, cenF]
    obtain ⟨τf, ef, xf, -⟩ := m_fails τ 2 (nI cs.length) (nI a)
    have e71 : f_X8_findCentrals_71 (nI N) (nI e) τ (nI a) (nI cs.length) = some (0, τf) := by
      unfold f_X8_findCentrals_71
      exact ef
    by_cases c1 : (cenK xs e a && !era xs cs a) = true
    case neg =>
      have c1' : (cenK xs e a && !era xs cs a) = false := by simpa using c1
      rw [c1', if_pos (show b2i false = 0 from rfl), if_neg (show ¬ (cenK xs e a = true ∧ era xs cs a = false ∧ (m = 0 → a + 46 + cnN xs a = e)) from fun q => c1 (by rw [q.1, q.2.1]; rfl))]
      unfold f_X8_findCentrals_48
      rw [if_pos (show (0 : Int32) = 0 from rfl), e71]
      exact ⟨τf, rfl, xf, fun L q => absurd q (by simp)⟩
    rw [c1]
    rw [Bool.and_eq_true] at c1
    have c12 : era xs cs a = false := by simpa using c1.2
    have hle := (cenK_t c1.1).2.2.2.2.2.2.2.1
    rw [if_neg (show ¬ b2i true = 0 by decide), show nI a + 28 = nI (a + 28) from nI_add a 28, m_num2 h (by omega), Option.bind_some, show num2 xs (a + 28) = cnN xs a from rfl, show (46 : Int32) = nI 46 from rfl, nI_add]
    unfold f_X8_findCentrals_48
    rw [if_neg (nI_ne0 (by omega) (by omega)), show (1 : Int32) = nI 1 from rfl, pk_sub (by omega), nI_add, show a + (46 + cnN xs a) = a + 46 + cnN xs a by omega, e71]
    have ok : (m = 0 → a + 46 + cnN xs a = e) → ∃ τ', f_X8_findCentrals_80 (nI N) (nI e) (f_X8_findCentrals_15 (nI N) (nI e) i) τ (nI a) (nI cs.length) (nI (46 + cnN xs a)) = some (b2i (if cenK xs e a = true ∧ era xs cs a = false ∧ (m = 0 → a + 46 + cnN xs a = e) then cenF xs e m (a + 46 + cnN xs a) (cs ++ [a]) else none).isSome, τ') ∧ exA τ τ' ∧ ∀ L, (if cenK xs e a = true ∧ era xs cs a = false ∧ (m = 0 → a + 46 + cnN xs a = e) then cenF xs e m (a + 46 + cnN xs a) (cs ++ [a]) else none) = some L → arrR τ' 8 L := by
      intro q
      rw [if_pos ⟨c1.1, c12, q⟩]
      have x2 : exA τ (SMc τ 8 (upd (τ.2 8) cs.length (nI a))) := exA.sc (Or.inl rfl)
      obtain ⟨τ3, e3, x3, y3⟩ := ih (a + 46 + cnN xs a) i (SMc τ 8 (upd (τ.2 8) cs.length (nI a))) (cs ++ [a]) (by rw [List.length_append, List.length_singleton]; omega) (by omega) (by omega) (x2.tp h) (fun i hi => by rw [SMc_g]; exact arr_app hA i hi) (fun c hcc => by
        rcases List.mem_append.mp hcc with z | z
        · exact ⟨(hc c z).1, by have := (hc c z).2; omega⟩
        · rw [List.mem_singleton] at z; rw [z]; exact ⟨c1.1, by omega⟩)
      rw [List.length_append, List.length_singleton] at e3
      refine ⟨τ3, ?_, x2.tr x3, y3⟩
      unfold f_X8_findCentrals_80
      rw [if_pos (inb_t (by omega) (by omega)), nI_clamp (by omega), nI_1, nI_add, show a + (46 + cnN xs a) = a + 46 + cnN xs a by omega, e3]
    by_cases c2 : m = 0
    · rw [if_pos (by rw [show cs.length = N - 1 by omega])]
      by_cases c3 : a + 46 + cnN xs a = e
      · rw [if_pos (by rw [c3])]
        exact ok (fun _ => c3)
      · rw [if_neg (fun q => c3 ((nI_eq (by omega) (by omega)).mp q)), if_neg (fun q => c3 (q.2.2 c2))]
        exact ⟨τf, rfl, xf, fun L q => absurd q (by simp)⟩
    · rw [if_neg (fun q => by have := (nI_eq (by omega) (by omega)).mp q; omega)]
      exact ok (fun q => absurd q c2)
theorem cenF_head {xs : List Int32} {e m a : Nat} {L : List Nat} (h : cenF xs e (m + 1) a [] = some L) : L.getD 0 0 = a := by
  rw [cenF] at h
  by_cases c : cenK xs e a = true ∧ era xs [] a = false ∧ (m = 0 → a + 46 + cnN xs a = e)
  · rw [if_pos c] at h
    have key : ∀ (m a' : Nat) (cs L : List Nat), cenF xs e m a' cs = some L → ∃ r, L = cs ++ r := by
      intro m
      induction m with
      | zero => intro a' cs L h; rw [cenF] at h; exact ⟨[], by rw [← Option.some.inj h, List.append_nil]⟩
      | succ m ih =>
        intro a' cs L h
        rw [cenF] at h
        by_cases c : cenK xs e a' = true ∧ era xs cs a' = false ∧ (m = 0 → a' + 46 + cnN xs a' = e)
        · rw [if_pos c] at h
          obtain ⟨r, hr⟩ := ih _ _ _ h
          exact ⟨a' :: r, by rw [hr, List.append_assoc]; rfl⟩
        · rw [if_neg c] at h; exact absurd h (by simp)
    obtain ⟨r, hr⟩ := key _ _ _ _ h
    rw [hr]
    rfl
  · rw [if_neg c] at h; exact absurd h (by simp)
/-! slices -/
theorem sl_split {xs : List Int32} {a m n : Nat} : sl xs a (m + n) = sl xs a m ++ sl xs (a + m) n := by
  unfold sl
  rw [List.take_add, List.drop_drop]
theorem sl_bN {xs : List Int32} {a b n : Nat} (h : sl xs a n = sl xs b n) {i : Nat} (hi : i < n) : bN xs (a + i) = bN xs (b + i) := by
  unfold bN
  have e : ∀ c, (sl xs c n).getD i 0 = xs.getD (c + i) 0 := fun c => by unfold sl; rw [sl_get hi]
  rw [← e a, ← e b, h]
theorem sl_n2 {xs : List Int32} (hb : ∀ x ∈ xs, byteP x) {i j : Nat} (hi : i + 2 ≤ xs.length) (hj : j + 2 ≤ xs.length) : sl xs i 2 = sl xs j 2 ↔ num2 xs i = num2 xs j := by
  obtain ⟨a0, b0⟩ := bN_of (i := i) hb
  obtain ⟨a1, b1⟩ := bN_of (i := i + 1) hb
  obtain ⟨c0, d0⟩ := bN_of (i := j) hb
  obtain ⟨c1, d1⟩ := bN_of (i := j + 1) hb
  constructor
  · intro h
    have e0 := sl_bN h (i := 0) (by decide)
    have e1 := sl_bN h (i := 1) (by decide)
    unfold num2
    rw [show bN xs i = bN xs j from e0, e1]
  · intro h
    unfold num2 at h
    rw [sl2 hi, sl2 hj, b0, b1, d0, d1, show bN xs i = bN xs j by omega, show bN xs (i + 1) = bN xs (j + 1) by omega]
theorem sl26 {xs : List Int32} (hb : ∀ x ∈ xs, byteP x) {t c : Nat} (ht : t + 30 ≤ xs.length) (hc : c + 32 ≤ xs.length) (h1 : num2 xs (c + 6) = 20) (h2 : num2 xs (c + 30) = 0) : sl xs (t + 4) 26 = sl xs (c + 6) 26 ↔ num2 xs (t + 4) = 20 ∧ sl xs (t + 6) 22 = sl xs (c + 8) 22 ∧ num2 xs (t + 28) = 0 := by
  have e : ∀ a, sl xs a 26 = sl xs a 2 ++ (sl xs (a + 2) 22 ++ sl xs (a + 24) 2) := fun a => by
    rw [show (26 : Nat) = 2 + (22 + 2) from rfl, sl_split, sl_split, Nat.add_assoc]
  have n1 := sl_n2 hb (i := t + 4) (j := c + 6) (by omega) (by omega)
  have n2 := sl_n2 hb (i := t + 28) (j := c + 30) (by omega) (by omega)
  rw [e, e, show t + 4 + 2 = t + 6 by omega, show c + 6 + 2 = c + 8 by omega, show t + 4 + 24 = t + 28 by omega, show c + 6 + 24 = c + 30 by omega]
  constructor
  · intro h
    have l1 : (sl xs (t + 4) 2).length = (sl xs (c + 6) 2).length := by rw [slx_len (by omega), slx_len (by omega)]
    obtain ⟨q1, q2⟩ := List.append_inj h l1
    have l2 : (sl xs (t + 6) 22).length = (sl xs (c + 8) 22).length := by rw [slx_len (by omega), slx_len (by omega)]
    obtain ⟨q3, q4⟩ := List.append_inj q2 l2
    exact ⟨(n1.mp q1).trans h1, q3, (n2.mp q4).trans h2⟩
  · rintro ⟨q1, q2, q3⟩
    rw [n1.mpr (q1.trans h1.symm), q2, n2.mpr (q3.trans h2.symm)]
theorem m_isLocal {τ : SM} {xs : List Int32} (h : tpM τ xs) {t c e first k : Nat} (he : e ≤ xs.length) (hc : cenK xs e c = true) (ht : t ≤ 9000) (hf : first ≤ xs.length) (hk : k < 20) (h8 : τ.2 8 k = nI c) (last : Bool) : f_X8_isLocal τ (nI k) (nI t) (nI first) (b2i last) = some (b2i (locK xs first t c && (!last || decide (t + 30 + cnN xs c + lcP xs c = first))), τ) := by
  have C := cms
  have h9 := h.1
  have hb := h.2.2
  obtain ⟨-, -, k3, -, -, -, -, k8, k9⟩ := cenK_t hc
  obtain ⟨-, n2, n3, -⟩ := nameAt_u k9
  have hd := of_decide_eq_true k3
  simp only [Nat.add_assoc, Nat.reduceAdd] at hd
  have s26 : t + 30 ≤ xs.length → (sl xs (t + 4) 26 = sl xs (c + 6) 26 ↔ num2 xs (t + 4) = 20 ∧ sl xs (t + 6) 22 = sl xs (c + 8) 22 ∧ num2 xs (t + 28) = 0) := fun q => sl26 hb q (by omega) hd.2.1 hd.2.2.2.2.2.2.2.2
  have Ln : cnN xs c < 65536 := num2_lt hb _
  have Lp : lcP xs c < 4294967296 := num4_lt hb _
  have no : ∀ P : Prop, (locK xs first t c = true → P) → ¬ P → (locK xs first t c && (!last || decide (t + 30 + cnN xs c + lcP xs c = first))) = false := fun P q1 q2 => by
    have : locK xs first t c = false := by
      cases hh : locK xs first t c
      · rfl
      · exact absurd (q1 hh) q2
    rw [this, Bool.false_and]
  have k28 : nI c + 28 = nI (c + 28) := nI_add c 28
  have k42 : nI c + 42 = nI (c + 42) := nI_add c 42
  have k8' : nI c + 8 = nI (c + 8) := nI_add c 8
  have k20 : nI c + 20 = nI (c + 20) := nI_add c 20
  have k46 : nI c + 46 = nI (c + 46) := nI_add c 46
  have m4 : nI t + 4 = nI (t + 4) := nI_add t 4
  have m6 : nI t + 6 = nI (t + 6) := nI_add t 6
  have m28 : nI t + 28 = nI (t + 28) := nI_add t 28
  have m30 : nI t + 30 = nI (t + 30) := nI_add t 30
  unfold f_X8_isLocal
  rw [if_pos (inb_t (by omega) (by omega)), nI_clamp (by omega), h8, k28, m_num2 h (by omega), Option.bind_some, k42, m_is4 h (by omega) (by omega), Option.bind_some, show num2 xs (c + 28) = cnN xs c from rfl]
  by_cases c1 : num4 xs (c + 42) = t
  case neg =>
    rw [decide_eq_false c1, if_pos (show b2i false = 0 from rfl), no _ (fun q => (of_decide_eq_true (locK_t q).1).2) c1]; rfl
  rw [decide_eq_true c1, if_neg (show ¬ b2i true = 0 by decide), m30, nI_add]
  by_cases c2 : t + 30 + cnN xs c ≤ first
  case neg =>
    rw [if_neg (nI_ge (by omega) (by omega)), no (t + 30 + cnN xs c ≤ first) (fun q => by have := (locK_t q).2.2.2.2; omega) c2]; rfl
  have i4 : f_X8_is τ (nI (t + 4)) 2 20 = some (b2i (decide (num2 xs (t + 4) = 20)), τ) := m_is2 h (v := 20) (by omega) (by decide)
  have i28 : f_X8_is τ (nI (t + 28)) 2 0 = some (b2i (decide (num2 xs (t + 28) = 0)), τ) := m_is2 h (v := 0) (by omega) (by decide)
  have i22 : f_X8_isSame τ (nI (t + 6)) (nI (c + 8)) 22 = some (b2i (decide (sl xs (t + 6) 22 = sl xs (c + 8) 22)), τ) := m_same h (k := 22) (by omega) (by omega)
  have s := s26 (by omega)
  rw [if_pos (nI_le c2 (by omega)), m_sig h (by omega), Option.bind_some]
  by_cases c3 : sigAt xs t 3 4 = true
  case neg =>
    have c3' : sigAt xs t 3 4 = false := by simpa using c3
    rw [c3', if_pos (show b2i false = 0 from rfl), no _ (fun q => (locK_t q).2.1) c3]; rfl
  rw [c3, if_neg (show ¬ b2i true = 0 by decide), m4, i4, Option.bind_some]
  by_cases c4 : num2 xs (t + 4) = 20
  case neg =>
    rw [decide_eq_false c4, if_pos (show b2i false = 0 from rfl), no _ (fun q => (s.mp (locK_t q).2.2.1.2.2).1) c4]; rfl
  rw [decide_eq_true c4, if_neg (show ¬ b2i true = 0 by decide), m6, k8', i22, Option.bind_some]
  by_cases c5 : sl xs (t + 6) 22 = sl xs (c + 8) 22
  case neg =>
    rw [decide_eq_false c5, if_pos (show b2i false = 0 from rfl), no _ (fun q => (s.mp (locK_t q).2.2.1.2.2).2.1) c5]; rfl
  rw [decide_eq_true c5, if_neg (show ¬ b2i true = 0 by decide), m28, i28, Option.bind_some]
  by_cases c6 : num2 xs (t + 28) = 0
  case neg =>
    rw [decide_eq_false c6, if_pos (show b2i false = 0 from rfl), no _ (fun q => (s.mp (locK_t q).2.2.1.2.2).2.2) c6]; rfl
  rw [decide_eq_true c6, if_neg (show ¬ b2i true = 0 by decide), k46, m_same h (by omega) (by omega), Option.bind_some]
  by_cases c7 : sl xs (t + 30) (cnN xs c) = sl xs (c + 46) (cnN xs c)
  case neg =>
    rw [decide_eq_false c7, if_pos (show b2i false = 0 from rfl), no _ (fun q => (locK_t q).2.2.2.1.2.2) c7]; rfl
  rw [decide_eq_true c7, if_neg (show ¬ b2i true = 0 by decide), k20, m_num4 h (by omega), Option.bind_some, show num4 xs (c + 20) = lcP xs c from rfl, nI_l (by omega), nI_l (by omega), nI_l (by unfold cl; omega), nI_l (by omega), show (30 : Int64) = lN 30 from rfl, lN_add, lN_add, lN_add]
  have hK : t + 30 + cnN xs c + lcP xs c ≤ first → locK xs first t c = true := fun q => by
    unfold locK
    rw [show t4 xs (c + 42) t = true from decide_eq_true ⟨by omega, c1⟩, c3, decide_eq_true ⟨by omega, by omega, s.mpr ⟨c4, c5, c6⟩⟩, decide_eq_true ⟨by omega, by omega, c7⟩, decide_eq_true q]; rfl
  have eg : 0 < lg_cmp (lN (t + 30 + cnN xs c + cl (lcP xs c))) (lN first) ↔ ¬ t + 30 + cnN xs c + lcP xs c ≤ first := by
    rw [lg_cmp_gt, pk_lLT (by omega) (by unfold cl; omega)]
    unfold cl
    omega
  have ee : lg_cmp (lN (t + 30 + cnN xs c + cl (lcP xs c))) (lN first) = 0 ↔ t + 30 + cnN xs c + lcP xs c = first := by
    rw [lg_cmp_eq, pk_lEQ (by unfold cl; omega) (by omega)]
    unfold cl
    omega
  cases last with
  | false =>
    rw [if_pos (show b2i false = 0 from rfl)]
    by_cases c8 : t + 30 + cnN xs c + lcP xs c ≤ first
    · rw [if_neg (fun q => eg.mp q c8), hK c8]; rfl
    · rw [if_pos (eg.mpr c8), no _ (fun q => (locK_t q).2.2.2.2) c8]; rfl
  | true =>
    rw [if_neg (show ¬ b2i true = 0 by decide)]
    by_cases c8 : t + 30 + cnN xs c + lcP xs c = first
    · rw [if_pos (ee.mpr c8), hK (by omega), decide_eq_true c8]; rfl
    · rw [if_neg (fun q => c8 (ee.mp q)), decide_eq_false c8]
      show _ = some (b2i (locK xs first t c && false), τ)
      rw [Bool.and_false]; rfl
