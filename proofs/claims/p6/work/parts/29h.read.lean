/-! ===== PURE: the reference's read, whole ===== -/
theorem loc_nums {xs : List Int32} {first t c : Nat} (h : locK xs first t c = true) : num2 xs (t + 26) = cnN xs c ∧ num4 xs (t + 18) = lcP xs c := by
  have s := (locK_t h).2.2.1.2.2
  have e : ∀ i, i < 26 → bN xs (t + 4 + i) = bN xs (c + 6 + i) := fun i hi => sl_bN s hi
  have e22 := e 22 (by decide)
  have e23 := e 23 (by decide)
  have e14 := e 14 (by decide)
  have e15 := e 15 (by decide)
  have e16 := e 16 (by decide)
  have e17 := e 17 (by decide)
  simp only [Nat.add_assoc, Nat.reduceAdd] at e22 e23 e14 e15 e16 e17
  unfold cnN lcP num2 num4
  simp only [Nat.add_assoc, Nat.reduceAdd]
  rw [e22, e23, e14, e15, e16, e17]
  exact ⟨rfl, rfl⟩
theorem m_locPass {xs : List Int32} {e first : Nat} (he : e ≤ xs.length) (hf : first ≤ xs.length) {L : List Nat} (hL : L.length ≤ 20) (hc : ∀ c ∈ L, cenK xs e c = true) (x2 : Int32) : ∀ (m k t n : Nat) (τ : SM), k + m = L.length → m < n → t ≤ 9000 → tpM τ xs → arrR τ 8 L → ∃ τ', f_X8_findLocals_21 (nI L.length) x2 n τ (nI t) (nI first) (nI k) = some (b2i (locF xs first (L.drop k) t).isSome, τ') ∧ exA τ τ' ∧ τ'.2 8 = τ.2 8 ∧ (∀ i, i < k → τ'.2 9 i = τ.2 9 i) ∧ ∀ P, locF xs first (L.drop k) t = some P → ∀ i, i < P.length → τ'.2 9 (k + i) = nI (P.getD i 0) := by
  have C := cms
  intro m
  induction m with
  | zero =>
    intro k t n τ hm hn ht h hA
    obtain ⟨i, rfl⟩ : ∃ i, n = i + 1 := ⟨n - 1, by omega⟩
    refine ⟨τ, ?_, exA.rf, rfl, fun _ _ => rfl, fun P q => ?_⟩
    · rw [f_X8_findLocals_21, if_pos (nI_le (by omega) (by omega)), List.drop_of_length_le (by omega)]; rfl
    · rw [List.drop_of_length_le (by omega), locF] at q
      rw [← Option.some.inj q]
      intro i hi; exact absurd hi (Nat.not_lt_zero i)
  | succ m ih =>
    intro k t n τ hm hn ht h hA
    have h9 := h.1
    obtain ⟨i, rfl⟩ : ∃ i, n = i + 1 := ⟨n - 1, by omega⟩
    have hck := hc _ (gN (show k < L.length by omega))
    have hAk := hA k (by omega)
    have hdr2 := drN (show k < L.length by omega)
    generalize hcc : L.getD k 0 = c at hck hAk hdr2
    have Ln : cnN xs c < 65536 := num2_lt h.2.2 _
    have hdl : (L.drop (k + 1)).length = m := by rw [List.length_drop]; omega
    have hlast : (if nI k = nI L.length - 1 then f_X8_findLocals_46 (nI L.length) x2 (f_X8_findLocals_21 (nI L.length) x2 i) τ (nI t) (nI first) (nI k) (nI k) (nI t) (nI first) 1 else f_X8_findLocals_46 (nI L.length) x2 (f_X8_findLocals_21 (nI L.length) x2 i) τ (nI t) (nI first) (nI k) (nI k) (nI t) (nI first) 0) = f_X8_findLocals_46 (nI L.length) x2 (f_X8_findLocals_21 (nI L.length) x2 i) τ (nI t) (nI first) (nI k) (nI k) (nI t) (nI first) (b2i (decide (m = 0))) := by
      rw [show (1 : Int32) = nI 1 from rfl, pk_sub (by omega)]
      by_cases c0 : m = 0
      · rw [if_pos (by rw [show k = L.length - 1 by omega]), decide_eq_true c0]; rfl
      · rw [if_neg (fun q => by have := (nI_eq (by omega) (by omega)).mp q; omega), decide_eq_false c0]; rfl
    rw [hdr2, locF, f_X8_findLocals_21, if_neg (nI_ge (by omega) (by omega)), hlast, hdl]
    unfold f_X8_findLocals_46
    rw [m_isLocal h he hck ht hf (by omega) hAk, Option.bind_some]
    by_cases c1 : (locK xs first t c && (!decide (m = 0) || decide (t + 30 + cnN xs c + lcP xs c = first))) = true
    case neg =>
      have c1' : (locK xs first t c && (!decide (m = 0) || decide (t + 30 + cnN xs c + lcP xs c = first))) = false := by simpa using c1
      obtain ⟨τf, ef, xf, yf⟩ := m_fails τ 3 (nI k) (nI t)
      rw [c1', if_pos (show b2i false = 0 from rfl), ef, if_neg (show ¬ (locK xs first t c = true ∧ (m = 0 → t + 30 + cnN xs c + lcP xs c = first)) from fun q => c1 (by
        rw [q.1, Bool.true_and]
        by_cases c0 : m = 0
        · rw [decide_eq_true (q.2 c0), Bool.or_true]
        · rw [decide_eq_false c0]; rfl))]
      exact ⟨τf, rfl, xf, by rw [yf], fun j _ => by rw [yf], fun P q => absurd q (by simp)⟩
    rw [c1, if_neg (show ¬ b2i true = 0 by decide)]
    rw [Bool.and_eq_true] at c1
    have hle := (locK_t c1.1).2.2.2.2
    obtain ⟨nu1, nu2⟩ := loc_nums c1.1
    have hcond : m = 0 → t + 30 + cnN xs c + lcP xs c = first := fun c0 => by
      have := c1.2
      rw [decide_eq_true c0] at this
      simpa using this
    have m26 : nI t + 26 = nI (t + 26) := nI_add t 26
    have m18 : nI t + 18 = nI (t + 18) := nI_add t 18
    have m30 : nI t + 30 = nI (t + 30) := nI_add t 30
    have in9 : inb (nI k) (capM 9) = true := inb_t (by omega) (by omega)
    have x3 : exA τ (SMc τ 9 (upd (τ.2 9) k (nI (t + 30 + cnN xs c)))) := exA.sc (Or.inr rfl)
    rw [m26, m_num2 h (by omega), nu1, Option.bind_some, if_pos in9, if_pos in9, m30, nI_add, nI_clamp (by omega), m18, m_num4 (x3.tp h) (by omega), nu2, Option.bind_some, SMc_g, pk_us, nI_add, nI_1, cl_le (by omega), if_pos (show locK xs first t c = true ∧ (m = 0 → t + 30 + cnN xs c + lcP xs c = first) from ⟨c1.1, hcond⟩)]
    obtain ⟨τ3, e3, y3, z3, w3, v3⟩ := ih (k + 1) (t + 30 + cnN xs c + lcP xs c) i (SMc τ 9 (upd (τ.2 9) k (nI (t + 30 + cnN xs c)))) (by omega) (by omega) (by omega) (x3.tp h) (fun j hj => hA j hj)
    refine ⟨τ3, ?_, x3.tr y3, ?_, fun j hj => ?_, fun P hP j hj => ?_⟩
    · rw [e3, Option.isSome_map]
    · rw [z3]; rfl
    · rw [w3 j (by omega), SMc_g, pk_un (by omega)]
    · rw [Option.map_eq_some_iff] at hP
      obtain ⟨o, ho1, ho2⟩ := hP
      rw [← ho2] at hj ⊢
      cases j with
      | zero => rw [Nat.add_zero, w3 k (by omega), SMc_g, pk_us]; rfl
      | succ j =>
        rw [List.length_cons] at hj
        rw [show k + (j + 1) = k + 1 + j by omega, v3 o ho1 j (by omega)]
        rfl
/-- but for the fault and file 20's bytes: as it was -/
def exB (τ τ' : SM) : Prop := (∀ f, ¬ (4 ≤ f ∧ f ≤ 6) → τ'.1 f = τ.1 f) ∧ (∀ a, a ≠ 5 → a ≠ 6 → τ'.2 a = τ.2 a) ∧ (∀ p, p < 30000 ∨ 31500 ≤ p → τ'.2 5 p = τ.2 5 p) ∧ ∀ p, p ≠ 20 → τ'.2 6 p = τ.2 6 p
theorem exB.rf {τ : SM} : exB τ τ := ⟨fun _ _ => rfl, fun _ _ _ => rfl, fun _ _ => rfl, fun _ _ => rfl⟩
theorem exB.tr {τ1 τ2 τ3 : SM} (h : exB τ1 τ2) (g : exB τ2 τ3) : exB τ1 τ3 := ⟨fun f n => (g.1 f n).trans (h.1 f n), fun a n m => (g.2.1 a n m).trans (h.2.1 a n m), fun p n => (g.2.2.1 p n).trans (h.2.2.1 p n), fun p n => (g.2.2.2 p n).trans (h.2.2.2 p n)⟩
theorem ex56.b {τ τ' : SM} (h : ex56 τ τ') : exB τ τ' := ⟨fun f _ => by rw [h.1], h.2.1, h.2.2.1, h.2.2.2⟩
theorem exA.b {τ τ' : SM} (h : exA τ τ') (g : τ'.2 = τ.2) : exB τ τ' := ⟨h.1, fun a _ _ => by rw [g], fun p _ => by rw [g], fun p _ => by rw [g]⟩
theorem exB.tp {τ τ' : SM} {xs : List Int32} (e : exB τ τ') (h : tpM τ xs) : tpM τ' xs := h.ot (e.2.1 1 (by decide) (by decide))
theorem m_conPass {xs : List Int32} {e first : Nat} (he : e ≤ xs.length) (hf : first ≤ xs.length) {L P : List Nat} (hL : L.length ≤ 20) (hl : P.length = L.length) (hc : ∀ c ∈ L, cenK xs e c = true) (hp : ∀ k, k < L.length → P.getD k 0 + lcP xs (L.getD k 0) ≤ first) : ∀ (m k s n : Nat) (τ : SM), k + m = L.length → m < n → s ≤ 6000 → tpM τ xs → arrR τ 8 L → arrR τ 9 P → ∃ τ', f_X8_areBytes_5 (nI L.length) n τ (lN s) (nI k) = some (b2i (conF xs ((L.zip P).drop k) s).isSome, τ') ∧ exB τ τ' := by
  have C := cms
  intro m
  induction m with
  | zero =>
    intro k s n τ hm hn hs h hA hP
    obtain ⟨i, rfl⟩ : ∃ i, n = i + 1 := ⟨n - 1, by omega⟩
    refine ⟨τ, ?_, exB.rf⟩
    rw [f_X8_areBytes_5, if_pos (nI_le (by omega) (by omega)), List.drop_of_length_le (by rw [List.length_zip]; omega)]; rfl
  | succ m ih =>
    intro k s n τ hm hn hs h hA hP
    have h9 := h.1
    obtain ⟨i, rfl⟩ : ∃ i, n = i + 1 := ⟨n - 1, by omega⟩
    have hck := hc _ (gN (show k < L.length by omega))
    have hAk := hA k (by omega)
    have hPk := hP k (by omega)
    have hpk := hp k (by omega)
    rw [zp hl (show k < L.length by omega)]
    generalize hcc : L.getD k 0 = c at hck hAk hpk
    generalize hdd : P.getD k 0 = d at hPk hpk
    obtain ⟨-, -, k3, -, -, -, -, k8, k9⟩ := cenK_t hck
    have hd := of_decide_eq_true k3
    have hsz : f_X8_areSizes τ (nI (c + 10)) = some (b2i (szOk xs (c + 6)), τ) := m_sizes h (a := c + 6) (by omega) hd.2.2.2.1
    have k10 : nI c + 10 = nI (c + 10) := nI_add c 10
    have k24 : nI (c + 10) + 14 = nI (c + 24) := nI_add (c + 10) 14
    have in9 : inb (nI k) (capM 9) = true := inb_t (by omega) (by omega)
    rw [conF, f_X8_areBytes_5, if_neg (nI_ge (by omega) (by omega)), if_pos (inb_t (by omega) (by omega)), nI_clamp (by omega), hAk, k10, k24, m_num4 h (by omega), Option.bind_some, hsz, Option.bind_some, nI_l (by unfold cl; omega), lN_add]
    unfold f_X8_areBytes_54
    have bad : ∀ (v : Int32) (τ2 : SM), exB τ τ2 → ∃ τ', ((f_X8_fails τ2 v (nI k) (nI d)).bind fun q76 => if nzb q76.1 = true then some (q76.1, q76.2) else none) = some (b2i (Option.isSome (none : Option FL)), τ') ∧ exB τ τ' := by
      intro v τ2 q1
      obtain ⟨τf, ef, xf, yf⟩ := m_fails τ2 v (nI k) (nI d)
      exact ⟨τf, ef, q1.tr (xf.b yf)⟩
    by_cases c1 : szOk xs (c + 6) = true
    case neg =>
      have c1' : szOk xs (c + 6) = false := by simpa using c1
      rw [c1', if_pos (show b2i false = 0 from rfl), if_pos in9, nI_clamp (by omega), hPk, if_neg (show ¬ (false = true ∧ s + num4 xs (c + 24) ≤ 6000) from fun q => absurd q.1 (by decide))]
      exact bad 4 τ exB.rf
    have hs2 := (of_decide_eq_true c1).1
    rw [show c + 6 + 18 = c + 24 by omega] at hs2
    have e6 : lg_cmp (lN (s + num4 xs (c + 24))) 6000 ≤ 0 ↔ s + num4 xs (c + 24) ≤ 6000 := by
      rw [lg_cmp_le, show (6000 : Int64) = lN 6000 from rfl, pk_lLE (by omega) (by decide)]
    rw [c1, if_neg (show ¬ b2i true = 0 by decide), cl_le (by omega)]
    by_cases c2 : s + num4 xs (c + 24) ≤ 6000
    case neg =>
      rw [if_neg (fun q => c2 (e6.mp q)), if_pos in9, nI_clamp (by omega), hPk, if_neg (show ¬ (true = true ∧ s + num4 xs (c + 24) ≤ 6000) from fun q => c2 q.2)]
      exact bad 4 τ exB.rf
    have hp2 : d + num4 xs (c + 6 + 14) ≤ xs.length := by
      rw [show c + 6 + 14 = c + 20 by omega]; unfold lcP at hpk; omega
    obtain ⟨τ2, e2, x2, b2⟩ := m_unfold h (a := c + 6) (d := d) (by omega) c1 hp2
    have hP2 : τ2.2 9 k = nI d := by rw [x2.2.1 9 (by decide) (by decide)]; exact hPk
    rw [if_pos (e6.mpr c2), if_pos in9, hPk, if_pos (show true = true ∧ s + num4 xs (c + 24) ≤ 6000 from ⟨rfl, c2⟩), show f_X8_unfold τ (nI d) (nI (c + 10)) = _ from e2, Option.bind_some, hP2]
    cases hu2 : upH xs (c + 6) d with
    | none =>
      rw [if_pos (show b2i (Option.isSome (none : Option (List Int32))) = 0 from rfl), if_pos in9]
      exact bad 5 τ2 x2.b
    | some b =>
      have hlen := up_len c1 hp2 hu2
      rw [show c + 6 + 18 = c + 24 by omega] at hlen
      have hcr : f_X8_isCrc τ2 (nI (c + 10)) = some (b2i (decide (crcS b = nI (num4 xs (c + 16)))), τ2) := m_isCrc (x2.tp h) (a := c + 6) (by omega) (b := b) (by omega) (b2 b hu2)
      rw [if_neg (show ¬ b2i (Option.isSome (some b)) = 0 by show ¬ b2i true = 0; decide), hcr, Option.bind_some, hP2, Option.bind_some]
      by_cases c3 : crcS b = nI (num4 xs (c + 16))
      case neg =>
        rw [decide_eq_false c3, if_pos (show b2i false = 0 from rfl), if_neg c3, if_pos in9]
        exact bad 6 τ2 x2.b
      rw [decide_eq_true c3, if_neg (show ¬ b2i true = 0 by decide), if_pos c3, nI_1, Option.isSome_map]
      obtain ⟨τ3, e3, x3⟩ := ih (k + 1) (s + num4 xs (c + 24)) i τ2 (by omega) (by omega) c2 (x2.tp h) (fun j hj => by rw [x2.2.1 8 (by decide) (by decide)]; exact hA j hj) (fun j hj => by rw [x2.2.1 9 (by decide) (by decide)]; exact hP j hj)
      exact ⟨τ3, e3, x2.b.tr x3⟩
theorem m_load {xs : List Int32} {e first : Nat} (he : e ≤ xs.length) (hf : first ≤ xs.length) {L P : List Nat} (hL : L.length ≤ 20) (hl : P.length = L.length) (hc : ∀ c ∈ L, cenK xs e c = true) (hp : ∀ k, k < L.length → P.getD k 0 + lcP xs (L.getD k 0) ≤ first) : ∀ (m k s n : Nat) (τ : SM) (fs gs : FL), k + m = L.length → m < n → tpM τ xs → arrR τ 8 L → arrR τ 9 P → filesM τ fs → conF xs ((L.zip P).drop k) s = some gs → wfF (fs ++ gs) → ∃ τ', f_X8_read_141 n τ (nI L.length) (nI k) = some (nI (fs ++ gs).length, τ') ∧ filesM τ' (fs ++ gs) ∧ (∀ f, f ≠ 3 → τ'.1 f = τ.1 f) ∧ ∀ a, a < 3 ∨ 6 < a → τ'.2 a = τ.2 a := by
  have C := cms
  intro m
  induction m with
  | zero =>
    intro k s n τ fs gs hm hn h hA hP hF hg hw
    obtain ⟨i, rfl⟩ : ∃ i, n = i + 1 := ⟨n - 1, by omega⟩
    rw [List.drop_of_length_le (by rw [List.length_zip]; omega), conF] at hg
    rw [← Option.some.inj hg, List.append_nil]
    exact ⟨τ, by rw [f_X8_read_141, if_pos (nI_le (by omega) (by omega)), hF.1], hF, fun _ _ => rfl, fun _ _ => rfl⟩
  | succ m ih =>
    intro k s n τ fs gs hm hn h hA hP hF hg hw
    have h9 := h.1
    obtain ⟨i, rfl⟩ : ∃ i, n = i + 1 := ⟨n - 1, by omega⟩
    have hck := hc _ (gN (show k < L.length by omega))
    have hAk := hA k (by omega)
    have hPk := hP k (by omega)
    have hpk := hp k (by omega)
    rw [zp hl (show k < L.length by omega)] at hg
    generalize hcc : L.getD k 0 = c at hck hAk hpk hg
    generalize hdd : P.getD k 0 = d at hPk hpk hg
    obtain ⟨-, -, k3, -, -, -, -, k8, k9⟩ := cenK_t hck
    obtain ⟨n1, n2, n3, n4⟩ := nameAt_u k9
    rw [conF] at hg
    by_cases c1 : szOk xs (c + 6) = true ∧ s + num4 xs (c + 24) ≤ 6000
    case neg => rw [if_neg c1] at hg; exact absurd hg (by simp)
    rw [if_pos c1, Option.bind_eq_some_iff] at hg
    obtain ⟨b, hu2, hg2⟩ := hg
    by_cases c2 : crcS b = nI (num4 xs (c + 16))
    case neg => rw [if_neg c2] at hg2; exact absurd hg2 (by simp)
    rw [if_pos c2, Option.map_eq_some_iff] at hg2
    obtain ⟨o, ho1, ho2⟩ := hg2
    have hp2 : d + num4 xs (c + 6 + 14) ≤ xs.length := by
      rw [show c + 6 + 14 = c + 20 by omega]; unfold lcP at hpk; omega
    have hwp : wfF fs := wf_pre hw
    rw [← ho2] at hw ⊢
    have hw2 : wfF (fs ++ [(cnm xs c, b)]) := by
      rw [show fs ++ (cnm xs c, b) :: o = (fs ++ [(cnm xs c, b)]) ++ o by simp] at hw
      exact wf_pre hw
    have hl2 : fs.length < 20 := by have := hw2.1; rw [List.length_append, List.length_singleton] at this; omega
    obtain ⟨τ2, e2, f2, i2, a2⟩ := m_append h hF hwp hl2 (a := c + 6) (d := d) (p := c + 46) (n := cnN xs c) (by omega) c1.1 hp2 n3 n2 hu2
    have k28 : nI c + 28 = nI (c + 28) := nI_add c 28
    have k46 : nI c + 46 = nI (c + 46) := nI_add c 46
    have k10 : nI c + 10 = nI (c + 10) := nI_add c 10
    obtain ⟨τ3, e3, f3, i3, a3⟩ := ih (k + 1) (s + num4 xs (c + 24)) i τ2 (fs ++ [(cnm xs c, b)]) o (by omega) (by omega) (h.ot (a2 1 (by omega))) (fun j hj => by rw [a2 8 (by omega)]; exact hA j hj) (fun j hj => by rw [a2 9 (by omega)]; exact hP j hj) f2 ho1 (by rw [List.append_assoc]; exact hw)
    rw [List.append_assoc] at e3 f3
    refine ⟨τ3, ?_, f3, fun f hf => (i3 f hf).trans (i2 f hf), fun a ha => (a3 a ha).trans (a2 a ha)⟩
    rw [f_X8_read_141, if_neg (nI_ge (by omega) (by omega)), if_pos (inb_t (by omega) (by omega)), if_pos (inb_t (by omega) (by omega)), nI_clamp (by omega), hAk, k28, m_num2 h (by omega), Option.bind_some, if_pos (inb_t (by omega) (by omega)), if_pos (inb_t (by omega) (by omega)), hPk, hAk, k46, k10, show num2 xs (c + 28) = cnN xs c from rfl, show f_X8_append τ (nI (c + 46)) (nI (cnN xs c)) (nI d) (nI (c + 10)) = _ from e2, Option.bind_some, nI_1, e3]
    rfl
