/-! ===== PURE: the reference: which file, which name ===== -/
def isF (n : Nat) (x : Int32) : Bool := decide (0 ≤ x.toInt ∧ x.toInt < n)
theorem isF_n {n j : Nat} (hj : j < 2 ^ 31) : isF n (nI j) = decide (j < n) := by
  unfold isF
  rw [nI_toInt hj]
  by_cases h : j < n
  · rw [decide_eq_true h, decide_eq_true (by omega)]
  · rw [decide_eq_false h, decide_eq_false (by omega)]
theorem isF_neg {n : Nat} {x : Int32} (h : x < 0) : isF n x = false := by
  rw [Int32.lt_iff_toInt_lt, Int32.toInt_zero] at h
  exact decide_eq_false (by omega)
theorem isF_t {n : Nat} {x : Int32} (h : isF n x = true) : ∃ k : Nat, k < n ∧ k < 2 ^ 31 ∧ x = nI k := by
  have h2 := of_decide_eq_true h
  obtain ⟨j, hj, rfl⟩ := nI_of (x := x) (by rw [Int32.lt_iff_toInt_lt, Int32.toInt_zero]; omega)
  rw [nI_toInt hj] at h2
  exact ⟨j, by omega, hj, rfl⟩
theorem m_isFile {τ : SM} {n : Nat} (h : τ.1 3 = nI n) (hn : n < 2 ^ 31) (x : Int32) : f_X8_isFile τ x = some (b2i (isF n x), τ) := by
  unfold f_X8_isFile
  rcases i32_cases x with hx | ⟨a, ha, rfl⟩
  · rw [if_pos hx, isF_neg hx]; rfl
  · rw [if_neg (nI_pos ha), h, isF_n ha]
    by_cases c : a < n
    · rw [if_neg (nI_ge c hn), decide_eq_true c]; rfl
    · rw [if_pos (nI_le (by omega) ha), decide_eq_false c]; rfl
theorem nm_ref (x : Int32) : nmB x = if x ≤ 32 then false else if 127 ≤ x then false else true := by
  unfold nmB
  have e33 : (33 : Int32).toInt = 33 := rfl
  have e32 : (32 : Int32).toInt = 32 := rfl
  have e126 : (126 : Int32).toInt = 126 := rfl
  have e127 : (127 : Int32).toInt = 127 := rfl
  by_cases c1 : x ≤ 32
  · rw [if_pos c1, decide_eq_true (by rw [Int32.lt_iff_toInt_lt]; rw [Int32.le_iff_toInt_le] at c1; omega)]; rfl
  · rw [if_neg c1, decide_eq_false (by rw [Int32.lt_iff_toInt_lt]; rw [Int32.le_iff_toInt_le] at c1; omega)]
    by_cases c2 : (127 : Int32) ≤ x
    · rw [if_pos c2, decide_eq_false (by rw [Int32.le_iff_toInt_le]; rw [Int32.le_iff_toInt_le] at c2; omega)]; rfl
    · rw [if_neg c2, decide_eq_true (by rw [Int32.le_iff_toInt_le]; rw [Int32.le_iff_toInt_le] at c2; omega)]; rfl
theorem m_isName_0 {x1 x2 : Int32} {n : Nat} {τ : SM} {x4 : Int32} : f_X8_isName_19 x1 x2 (n + 1) τ 0 x4 = some (0, τ) := by
  rw [f_X8_isName_19, if_pos (show (0 : Int32) = 0 from rfl), if_pos (show nzb 0 = true from rfl)]
  by_cases c : x2 ≤ x4
  · rw [if_pos c]
  · rw [if_neg c]
theorem m_isName_l {τ : SM} {xs : List Int32} (hx : ∀ i, i < xs.length → τ.2 1 i = xs.getD i 0) (h9 : xs.length ≤ 9000) {a k : Nat} (hk : a + k ≤ xs.length) : ∀ (m j n : Nat), j + m = k → m + 1 < n → f_X8_isName_19 (nI a) (nI k) n τ 1 (nI j) = some (b2i (((xs.drop (a + j)).take m).all nmB), τ) := by
  intro m
  have C := cms
  induction m with
  | zero =>
    intro j n hj hn
    obtain ⟨i, rfl⟩ : ∃ i, n = i + 1 := ⟨n - 1, by omega⟩
    rw [f_X8_isName_19, if_pos (nI_le (by omega) (by omega)), if_pos (show nzb 1 = true from rfl), List.take_zero]
    rfl
  | succ m ih =>
    intro j n hj hn
    obtain ⟨i, rfl⟩ : ∃ i, n = (i + 1) + 1 := ⟨n - 2, by omega⟩
    rw [f_X8_isName_19, if_neg (nI_ge (by omega) (by omega)), if_neg (show ¬ (1 : Int32) = 0 by decide), nI_add, if_pos (inb_t (by omega) (by omega)), nI_clamp (by omega), hx _ (by omega), sl_succ (by omega), List.all_cons, nm_ref, if_pos (inb_t (by omega) (by omega))]
    unfold f_X8_isName_62
    by_cases c1 : xs.getD (a + j) 0 ≤ 32
    · rw [if_pos c1, if_pos c1, m_isName_0, Bool.false_and]; rfl
    · rw [if_neg c1, if_neg c1]
      by_cases c2 : (127 : Int32) ≤ xs.getD (a + j) 0
      · rw [if_pos c2, if_pos c2, m_isName_0, Bool.false_and]; rfl
      · rw [if_neg c2, if_neg c2, nI_1, ih (j + 1) (i + 1) (by omega) (by omega), Bool.true_and, Nat.add_assoc]
theorem m_isName {τ : SM} {xs : List Int32} (hx : ∀ i, i < xs.length → τ.2 1 i = xs.getD i 0) (h9 : xs.length ≤ 9000) {a k : Nat} (hk : k ≤ 30 → a + k ≤ xs.length) (hk2 : k < 2 ^ 31) : f_X8_isName τ (nI a) (nI k) = some (b2i (nameAt xs a k), τ) := by
  unfold f_X8_isName f_X8_isName_15 nameAt
  have hfu : fu = 99999 + 1 := rfl
  have L0 : nI k ≤ 0 ↔ k ≤ 0 := nI_leI (b := 0) hk2 (by decide)
  have L30 : (30 : Int32) < nI k ↔ 30 < k := nI_ltI (a := 30) (by decide) hk2
  by_cases c1 : k ≤ 0
  · rw [if_pos (L0.mpr c1), hfu, m_isName_0, decide_eq_false (by omega), Bool.false_and]; rfl
  rw [if_neg (fun q => c1 (L0.mp q))]
  by_cases c2 : 30 < k
  · rw [if_pos (L30.mpr c2), hfu, m_isName_0, decide_eq_false (by omega), Bool.false_and]; rfl
  have hk3 := hk (by omega)
  rw [if_neg (fun q => c2 (L30.mp q)), show (0 : Int32) = nI 0 from rfl, m_isName_l hx h9 hk3 k 0 fu (by omega) (by unfold fu; omega), decide_eq_true (by omega : 1 ≤ k ∧ k ≤ 30 ∧ a + k ≤ xs.length), Bool.true_and]
  rfl
theorem m_isNameN {τ : SM} {x1 x2 : Int32} (h : x2 < 0) : f_X8_isName τ x1 x2 = some (0, τ) := by
  unfold f_X8_isName f_X8_isName_15
  rw [if_pos (by rw [Int32.lt_iff_toInt_lt] at h; rw [Int32.le_iff_toInt_le]; omega), show fu = 99999 + 1 from rfl, m_isName_0]
/-! the first file of that name among the m from k on -/
def lkF (fs : FL) (nm : List Int32) : Nat → Nat → Int32
  | 0, _ => -1
  | m + 1, k => if fnm fs k = nm then nI k else lkF fs nm m (k + 1)
def lk (fs : FL) (nm : List Int32) : Int32 := lkF fs nm fs.length 0
theorem lkF_spec (fs : FL) (nm : List Int32) : ∀ (m k : Nat), (lkF fs nm m k = -1 ∧ ∀ i, k ≤ i → i < k + m → fnm fs i ≠ nm) ∨ ∃ i, k ≤ i ∧ i < k + m ∧ lkF fs nm m k = nI i ∧ fnm fs i = nm := by
  intro m
  induction m with
  | zero => intro k; exact Or.inl ⟨rfl, fun i h1 h2 => absurd h2 (by omega)⟩
  | succ m ih =>
    intro k
    rw [lkF]
    by_cases c : fnm fs k = nm
    · rw [if_pos c]
      exact Or.inr ⟨k, Nat.le_refl k, by omega, rfl, c⟩
    · rw [if_neg c]
      rcases ih (k + 1) with ⟨h1, h2⟩ | ⟨i, h1, h2, h3, h4⟩
      · refine Or.inl ⟨h1, fun i q1 q2 => ?_⟩
        by_cases e : i = k
        · subst e; exact c
        · exact h2 i (by omega) (by omega)
      · exact Or.inr ⟨i, by omega, by omega, h3, h4⟩
theorem lk_spec (fs : FL) (nm : List Int32) : (lk fs nm = -1 ∧ ∀ i, i < fs.length → fnm fs i ≠ nm) ∨ ∃ i, i < fs.length ∧ lk fs nm = nI i ∧ fnm fs i = nm := by
  rcases lkF_spec fs nm fs.length 0 with ⟨h1, h2⟩ | ⟨i, h1, h2, h3, h4⟩
  · exact Or.inl ⟨h1, fun i hi => h2 i (Nat.zero_le i) (by omega)⟩
  · exact Or.inr ⟨i, by omega, h3, h4⟩
theorem fnm_mem {fs : FL} {k : Nat} (h : k < fs.length) : fs.getD k ([], []) ∈ fs := by
  rw [List.getD_eq_getElem?_getD, List.getElem?_eq_getElem h]
  exact List.getElem_mem h
theorem wf_f {fs : FL} (h : wfF fs) {k : Nat} (hk : k < fs.length) : fileOk (fs.getD k ([], [])) := h.2.1 _ (fnm_mem hk)
theorem m_named_0 {x1 x2 x3 : Int32} {kk : SM → Int32 → Option (Int32 × SM)} {n : Nat} {τ : SM} {x4 x6 : Int32} : f_X8_named_30 x1 x2 x3 kk (n + 1) τ x4 0 x6 = kk τ (x4 + 1) := by
  rw [f_X8_named_30]
  unfold f_X8_named_79
  rw [if_pos (show (0 : Int32) = 0 from rfl)]
  by_cases c : x2 ≤ x6
  · rw [if_pos c]
  · rw [if_neg c, if_pos rfl]
theorem m_named_in {τ : SM} {xs nm : List Int32} (hx : ∀ i, i < xs.length → τ.2 1 i = xs.getD i 0) (h9 : xs.length ≤ 9000) {a k p : Nat} (hk : a + k ≤ xs.length) (hp : p ≤ 20) (hk30 : k ≤ 30) (hl : nm.length = k) (hn : ∀ i, i < k → τ.2 3 (30 * p + i) = nm.getD i 0) (x3 : Int32) (kk : SM → Int32 → Option (Int32 × SM)) : ∀ (m j n : Nat), j + m = k → m + 1 < n → f_X8_named_30 (nI a) (nI k) x3 kk n τ (nI p) 1 (nI j) = if (nm.drop j).take m = (xs.drop (a + j)).take m then some (nI p, τ) else kk τ (nI (p + 1)) := by
  intro m
  have C := cms
  induction m with
  | zero =>
    intro j n hj hn
    obtain ⟨i, rfl⟩ : ∃ i, n = i + 1 := ⟨n - 1, by omega⟩
    rw [f_X8_named_30, if_pos (nI_le (by omega) (by omega)), List.take_zero, List.take_zero, if_pos rfl]
    unfold f_X8_named_79
    rw [if_neg (show ¬ (1 : Int32) = 0 by decide)]
  | succ m ih =>
    intro j n hj hn2
    obtain ⟨i, rfl⟩ : ∃ i, n = (i + 1) + 1 := ⟨n - 2, by omega⟩
    rw [f_X8_named_30, if_neg (nI_ge (by omega) (by omega)), if_neg (show ¬ (1 : Int32) = 0 by decide), k30, nI_add, if_pos (inb_t (by omega) (by omega)), if_pos (inb_t (by omega) (by omega)), nI_clamp (by omega), nI_clamp (by omega), hx _ (by omega), hn j (by omega)]
    unfold f_X8_named_71
    rw [sl_succ (xs := nm) (by omega), sl_succ (xs := xs) (by omega)]
    by_cases c : nm.getD j 0 = xs.getD (a + j) 0
    · rw [if_pos c, nI_1, ih (j + 1) (i + 1) (by omega) (by omega), c, ← Nat.add_assoc]
      by_cases c2 : (nm.drop (j + 1)).take m = (xs.drop (a + j + 1)).take m
      · rw [if_pos c2, if_pos (by rw [c2])]
      · rw [if_neg c2, if_neg (fun q => c2 (List.cons.inj q).2)]
    · rw [if_neg c, m_named_0, nI_1, if_neg (fun q => c (List.cons.inj q).1)]
theorem m_named_l {τ : SM} {xs : List Int32} {fs : FL} (hx : ∀ i, i < xs.length → τ.2 1 i = xs.getD i 0) (h9 : xs.length ≤ 9000) (hf : filesM τ fs) (hw : wfF fs) {a k : Nat} (hk : a + k ≤ xs.length) (hk30 : k ≤ 30) : ∀ (m j n : Nat), j + m = fs.length → m < n → f_X8_named_3 (nI a) (nI k) (nI fs.length) n τ (nI j) = some (lkF fs ((xs.drop a).take k) m j, τ) := by
  intro m
  have C := cms
  have h20 := hw.1
  induction m with
  | zero =>
    intro j n hj hn
    obtain ⟨i, rfl⟩ : ∃ i, n = i + 1 := ⟨n - 1, by omega⟩
    rw [f_X8_named_3, if_pos (nI_le (by omega) (by omega)), lkF]
  | succ m ih =>
    intro j n hj hn
    obtain ⟨i, rfl⟩ : ∃ i, n = i + 1 := ⟨n - 1, by omega⟩
    have hfj := hf.2 j (by omega)
    have hok := wf_f hw (show j < fs.length by omega)
    have hl30 : (fnm fs j).length ≤ 30 := hok.2.1
    rw [f_X8_named_3, if_neg (nI_ge (by omega) (by omega)), if_pos (inb_t (by omega) (by omega)), nI_clamp (by omega), hfj.1, lkF]
    unfold f_X8_named_25
    by_cases c : (fnm fs j).length = k
    · have hsl := sl_len hk
      rw [if_pos (by rw [c]), show (0 : Int32) = nI 0 from rfl, m_named_in hx h9 hk (by omega) hk30 c (fun i hi => hfj.2.1 i (by omega)) _ _ k 0 fu (by omega) (by unfold fu; omega), List.drop_zero, Nat.add_zero, List.take_of_length_le (by omega), ih (j + 1) i (by omega) (by omega)]
      by_cases c2 : fnm fs j = (xs.drop a).take k
      · rw [if_pos c2, if_pos c2]
      · rw [if_neg c2, if_neg c2]
    · rw [if_neg (fun q => c ((nI_eq (by omega) (by omega)).mp q)), show fu = 99999 + 1 from rfl, m_named_0, nI_1, ih (j + 1) i (by omega) (by omega), if_neg (fun q => c (by rw [q]; exact sl_len hk))]
theorem m_named {τ : SM} {xs : List Int32} {fs : FL} (hx : ∀ i, i < xs.length → τ.2 1 i = xs.getD i 0) (h9 : xs.length ≤ 9000) (hf : filesM τ fs) (hw : wfF fs) {a k : Nat} (hk : a + k ≤ xs.length) (hk30 : k ≤ 30) : f_X8_named τ (nI a) (nI k) (nI fs.length) = some (lk fs ((xs.drop a).take k), τ) := by
  have h20 := hw.1
  unfold f_X8_named lk
  exact m_named_l hx h9 hf hw hk hk30 fs.length 0 fu (by omega) (by unfold fu; omega)
theorem tot_cons (f : List Int32 × List Int32) (fs : FL) : tot (f :: fs) = f.2.length + tot fs := by
  unfold tot
  rw [List.map_cons, List.sum_cons]
theorem tot_drop {fs : FL} {k : Nat} (h : k < fs.length) : tot (fs.drop k) = (fby fs k).length + tot (fs.drop (k + 1)) := by
  rw [List.drop_eq_getElem_cons h, tot_cons, fby, List.getD_eq_getElem?_getD, List.getElem?_eq_getElem h]
  rfl
theorem m_total_l {τ : SM} {fs : FL} (hf : filesM τ fs) (hw : wfF fs) : ∀ (m j n s : Nat), j + m = fs.length → m < n → s + tot (fs.drop j) ≤ 6000 → f_X8_total_4 n τ (nI s) (nI j) = some (nI (s + tot (fs.drop j)), τ) := by
  intro m
  have C := cms
  have h20 := hw.1
  induction m with
  | zero =>
    intro j n s hj hn hs
    obtain ⟨i, rfl⟩ : ∃ i, n = i + 1 := ⟨n - 1, by omega⟩
    rw [f_X8_total_4, hf.1, if_pos (nI_le (by omega) (by omega)), List.drop_of_length_le (by omega)]
    rfl
  | succ m ih =>
    intro j n s hj hn hs
    obtain ⟨i, rfl⟩ : ∃ i, n = i + 1 := ⟨n - 1, by omega⟩
    have hd := tot_drop (show j < fs.length by omega)
    rw [f_X8_total_4, hf.1, if_neg (nI_ge (by omega) (by omega)), if_pos (inb_t (by omega) (by omega)), nI_clamp (by omega), (hf.2 j (by omega)).2.2.1, nI_add, nI_1, ih (j + 1) i _ (by omega) (by omega) (by omega), hd, Nat.add_assoc]
theorem m_total {τ : SM} {fs : FL} (hf : filesM τ fs) (hw : wfF fs) : f_X8_total τ = some (nI (tot fs), τ) := by
  have h20 := hw.1
  have h6 := hw.2.2.1
  have := m_total_l hf hw fs.length 0 fu 0 (by omega) (by unfold fu; omega) (by rw [List.drop_zero]; omega)
  rw [List.drop_zero, Nat.zero_add] at this
  exact this
section MR3
variable {τ : SM} {rd tp ou : List Int32} {fs : FL}
theorem RM.fi (h : RM τ (rd, tp, ou, fs)) : filesM τ fs := h.2.2.2.2.2.2
theorem m_about (h : RM τ (rd, tp, ou, fs)) (x : Int32) : f_X8_about τ x = some (if x = 0 then nI tp.length else if x = 1 then nI ou.length else if x = 2 then nI fs.length else if x = 3 then nI (tot fs) else -1, SMi τ 0 0) := by
  unfold f_X8_about
  rw [show (SMi τ 0 0).1 1 = nI tp.length from h.n1, show (SMi τ 0 0).1 2 = nI ou.length from h.n2, show (SMi τ 0 0).1 3 = nI fs.length from h.n3, m_total (τ := SMi τ 0 0) h.th.fi h.wf, Option.bind_some]
  by_cases n0 : x = 0
  · rw [if_pos n0, if_pos n0]
  by_cases n1 : x = 1
  · rw [if_neg n0, if_pos n1, if_neg n0, if_pos n1]
  by_cases n2 : x = 2
  · rw [if_neg n0, if_neg n1, if_pos n2, if_neg n0, if_neg n1, if_pos n2]
  by_cases n3 : x = 3
  · rw [if_neg n0, if_neg n1, if_neg n2, if_pos n3, if_neg n0, if_neg n1, if_neg n2, if_pos n3]
  · rw [if_neg n0, if_neg n1, if_neg n2, if_neg n3, if_neg n0, if_neg n1, if_neg n2, if_neg n3]
/-- find's answer -/
def fndS (tp : List Int32) (fs : FL) : Int32 := if nameAt tp 0 tp.length = true then lk fs tp else -1
theorem m_find (h : RM τ (rd, tp, ou, fs)) : f_X8_find τ = some (fndS tp fs, SMi τ 0 0) := by
  have h9 := h.l1
  unfold f_X8_find fndS
  rw [show (SMi τ 0 0).1 1 = nI tp.length from h.n1, show (0 : Int32) = nI 0 from rfl, m_isName (τ := SMi τ 0 (nI 0)) (xs := tp) (fun i hi => h.a1 hi) h9 (fun _ => by omega) (by omega), Option.bind_some]
  by_cases c : nameAt tp 0 tp.length = true
  · have hn : 1 ≤ tp.length ∧ tp.length ≤ 30 ∧ 0 + tp.length ≤ tp.length := by
      unfold nameAt at c
      rw [Bool.and_eq_true] at c
      exact of_decide_eq_true c.1
    rw [c, if_pos rfl, if_neg (show ¬ b2i true = nI 0 by decide)]
    rw [show (SMi τ 0 (nI 0)).1 1 = nI tp.length from h.n1, show (SMi τ 0 (nI 0)).1 3 = nI fs.length from h.n3]
    rw [m_named (τ := SMi τ 0 (nI 0)) (xs := tp) (fun i hi => h.a1 hi) h9 h.th.fi h.wf (by omega) (by omega), Option.bind_some, List.drop_zero, List.take_length]
  · have c' : nameAt tp 0 tp.length = false := by simpa using c
    rw [c', if_pos (show b2i false = nI 0 from rfl)]
    rfl
/-- letter's answer -/
def letS (fs : FL) (k : Int32) (nm : Bool) (i : Int32) : Int32 := if isF fs.length k = true then atx (if nm = true then fnm fs k.toInt.toNat else fby fs k.toInt.toNat) i else -1
theorem m_letter (h : RM τ (rd, tp, ou, fs)) (k y i : Int32) : f_X8_letter τ k y i = some (letS fs k (!decide (y = 0)) i, SMi τ 0 0) := by
  have C := cms
  have h20 := h.wf.1
  unfold f_X8_letter letS
  rw [m_isFile (τ := SMi τ 0 0) h.n3 (by omega), Option.bind_some]
  by_cases c : isF fs.length k = true
  · obtain ⟨p, hp, hp2, rfl⟩ := isF_t c
    have hfp := h.fi.2 p hp
    have hok := wf_f h.wf hp
    have hl30 : (fnm fs p).length ≤ 30 := hok.2.1
    have hl15 : (fby fs p).length ≤ 1500 := hok.2.2.2.1
    rw [c, if_pos rfl, if_neg (show ¬ b2i true = 0 by decide), nI_toInt hp2, Int.toNat_natCast]
    rcases i32_cases i with hi | ⟨q, hq, rfl⟩
    · rw [if_pos hi]
      unfold atx
      rw [if_neg]
      intro h1
      rw [Int32.lt_iff_toInt_lt, Int32.toInt_zero] at hi
      omega
    · rw [if_neg (nI_pos hq), atx_n hq]
      unfold f_X8_letter_37
      by_cases cy : y = 0
      · rw [if_pos cy, if_pos (inb_t (by omega) (by omega)), nI_clamp hp2, show (SMi τ 0 0).2 6 p = nI (fby fs p).length from hfp.2.2.1, decide_eq_true cy, if_neg (show ¬ (!true) = true by decide)]
        by_cases c2 : q < (fby fs p).length
        · rw [if_pos (nI_lt c2 (by omega)), if_pos cy, k1500, if_pos (inb_t (by omega) (by omega)), nI_clamp (by omega), if_pos c2, show (SMi τ 0 0).2 5 (1500 * p + q) = _ from hfp.2.2.2 q c2]
        · rw [if_neg (fun e => c2 ((nI_ltI hq (by omega)).mp e)), if_neg c2]
      · rw [if_neg cy, if_pos (inb_t (by omega) (by omega)), nI_clamp hp2, show (SMi τ 0 0).2 4 p = nI (fnm fs p).length from hfp.1, decide_eq_false cy, if_pos (show (!false) = true from rfl)]
        by_cases c2 : q < (fnm fs p).length
        · rw [if_pos (nI_lt c2 (by omega)), if_neg cy, k30, if_pos (inb_t (by omega) (by omega)), nI_clamp (by omega), if_pos c2, show (SMi τ 0 0).2 3 (30 * p + q) = _ from hfp.2.1 q c2]
        · rw [if_neg (fun e => c2 ((nI_ltI hq (by omega)).mp e)), if_neg c2]
  · have c' : isF fs.length k = false := by simpa using c
    rw [c', if_neg (show ¬ false = true by decide)]
    rfl
end MR3
