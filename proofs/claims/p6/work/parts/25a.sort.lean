/-! ===== PURE: names in order ===== -/
def nlt : List Int32 → List Int32 → Bool
  | [], [] => false
  | [], _ :: _ => true
  | _ :: _, [] => false
  | x :: xs, y :: ys => if x = y then nlt xs ys else decide (x < y)
theorem i32_ir (x : Int32) : ¬ x < x := by rw [Int32.lt_iff_toInt_lt]; omega
theorem i32_tr {x y z : Int32} (h : x < y) (g : y < z) : x < z := by rw [Int32.lt_iff_toInt_lt] at *; omega
theorem i32_tri {x y : Int32} (h : x ≠ y) (g : ¬ x < y) : y < x := by
  rw [Int32.lt_iff_toInt_lt] at *
  have : x.toInt ≠ y.toInt := fun q => h (Int32.toInt_inj.mp q)
  omega
theorem i32_nle {x y : Int32} : ¬ x ≤ y ↔ y < x := by
  rw [Int32.lt_iff_toInt_lt, Int32.le_iff_toInt_le]; omega
theorem nlt_ir : ∀ a, nlt a a = false := by
  intro a
  induction a with
  | nil => rfl
  | cons x xs ih => rw [nlt, if_pos rfl]; exact ih
theorem nlt_tr : ∀ a b c, nlt a b = true → nlt b c = true → nlt a c = true := by
  intro a
  induction a with
  | nil =>
    intro b c h g
    cases b with
    | nil => cases c with
      | nil => exact h
      | cons z zs => rfl
    | cons y ys => cases c with
      | nil => exact absurd g Bool.false_ne_true
      | cons z zs => rfl
  | cons x xs ih =>
    intro b c h g
    cases b with
    | nil => exact absurd h Bool.false_ne_true
    | cons y ys => cases c with
      | nil => exact absurd g Bool.false_ne_true
      | cons z zs =>
        rw [nlt] at h g ⊢
        by_cases c1 : x = y
        · subst c1
          rw [if_pos rfl] at h
          by_cases c2 : x = z
          · rw [if_pos c2] at g ⊢; exact ih _ _ h g
          · rw [if_neg c2] at g ⊢; exact g
        · rw [if_neg c1] at h
          have h1 := of_decide_eq_true h
          by_cases c2 : y = z
          · subst c2
            rw [if_neg c1]; exact h
          · rw [if_neg c2] at g
            have g1 := of_decide_eq_true g
            have h2 := i32_tr h1 g1
            rw [if_neg (fun q => by rw [q] at h2; exact i32_ir _ h2)]
            exact decide_eq_true h2
theorem nlt_tri : ∀ a b, a ≠ b → ¬ nlt a b = true → nlt b a = true := by
  intro a
  induction a with
  | nil =>
    intro b h g
    cases b with
    | nil => exact absurd rfl h
    | cons y ys => exact absurd rfl g
  | cons x xs ih =>
    intro b h g
    cases b with
    | nil => rfl
    | cons y ys =>
      rw [nlt] at g ⊢
      by_cases c : x = y
      · subst c
        rw [if_pos rfl] at g ⊢
        exact ih ys (fun q => h (by rw [q])) g
      · rw [if_neg c] at g
        rw [if_neg (fun q => c q.symm)]
        exact decide_eq_true (i32_tri c (fun q => g (decide_eq_true q)))
theorem dr_cons {xs : List Int32} {j : Nat} (h : j < xs.length) : xs.drop j = xs.getD j 0 :: xs.drop (j + 1) := by
  rw [List.drop_eq_getElem_cons h, List.getD_eq_getElem?_getD, List.getElem?_eq_getElem h]
  rfl
theorem byte_m1 {x : Int32} (h : byteP x) : x ≠ -1 ∧ ¬ x ≤ -1 ∧ (-1 : Int32) ≤ x := by
  obtain ⟨b, hb, rfl⟩ := h
  have e : (-1 : Int32).toInt = -1 := rfl
  refine ⟨fun q => ?_, ?_, ?_⟩
  · have := congrArg Int32.toInt q
    rw [nI_toInt (by omega), e] at this
    omega
  · rw [Int32.le_iff_toInt_le, nI_toInt (by omega), e]; omega
  · rw [Int32.le_iff_toInt_le, nI_toInt (by omega), e]; omega
theorem get_byte {xs : List Int32} (h : ∀ x ∈ xs, byteP x) (j : Nat) : byteP (xs.getD j 0) := by
  obtain ⟨g1, g2⟩ := bN_of (i := j) h
  exact ⟨_, g1, g2⟩
theorem d_ahead_l {σ : SD} {r q : Nat} {a b : List Int32} (h : rowD σ r a) (g : rowD σ q b) (ha : a.length ≤ 30) (hb : b.length ≤ 30) (hab : ∀ x ∈ a, byteP x) (hbb : ∀ x ∈ b, byteP x) : ∀ (m j n : Nat), j + m = 30 → m < n → f_X4_isNameAhead_2 r q n σ (nI j) = some (b2i (nlt (a.drop j) (b.drop j)), σ) := by
  intro m
  induction m with
  | zero =>
    intro j n hj hn
    obtain ⟨i, rfl⟩ : ∃ i, n = i + 1 := ⟨n - 1, by omega⟩
    rw [f_X4_isNameAhead_2, if_pos (show (30 : Int32) ≤ nI j from nI_le (a := 30) (by omega) (by omega)), List.drop_of_length_le (by omega), List.drop_of_length_le (by omega)]
    rfl
  | succ m ih =>
    intro j n hj hn
    obtain ⟨i, rfl⟩ : ∃ i, n = i + 1 := ⟨n - 1, by omega⟩
    rw [f_X4_isNameAhead_2, if_neg (show ¬ (30 : Int32) ≤ nI j from nI_ge (b := 30) (by omega) (by decide)), r_at h, Option.bind_some, r_at g, Option.bind_some, r_at h, Option.bind_some, r_at g, Option.bind_some, nI_1, ih (j + 1) i (by omega) (by omega), atx_n (by omega), atx_n (by omega)]
    by_cases c1 : j < a.length
    · have a1 := byte_m1 (get_byte hab j)
      rw [if_pos c1, dr_cons c1]
      by_cases c2 : j < b.length
      · rw [if_pos c2, dr_cons c2, nlt]
        by_cases c3 : a.getD j 0 = b.getD j 0
        · rw [if_pos c3, if_pos c3]
        · rw [if_neg c3, if_neg c3]
          by_cases c4 : b.getD j 0 ≤ a.getD j 0
          · rw [if_pos c4, decide_eq_false (fun q => (i32_nle.mpr q) c4)]; rfl
          · rw [if_neg c4, decide_eq_true (i32_nle.mp c4)]; rfl
      · rw [if_neg c2, List.drop_of_length_le (show b.length ≤ j by omega), if_neg a1.1, if_pos a1.2.2]; rfl
    · rw [if_neg c1, List.drop_of_length_le (show a.length ≤ j by omega)]
      by_cases c2 : j < b.length
      · have b1 := byte_m1 (get_byte hbb j)
        rw [if_pos c2, dr_cons c2, if_neg (fun q => b1.1 q.symm), if_neg b1.2.1]; rfl
      · rw [if_neg c2, List.drop_of_length_le (show b.length ≤ j by omega), if_pos rfl, List.drop_of_length_le (by omega), List.drop_of_length_le (by omega)]
theorem d_ahead {σ : SD} {r q : Nat} {a b : List Int32} (h : rowD σ r a) (g : rowD σ q b) (ha : a.length ≤ 30) (hb : b.length ≤ 30) (hab : ∀ x ∈ a, byteP x) (hbb : ∀ x ∈ b, byteP x) : f_X4_isNameAhead σ r q = some (b2i (nlt a b), σ) := by
  unfold f_X4_isNameAhead
  exact d_ahead_l h g ha hb hab hbb 30 0 fu (by omega) (by unfold fu; omega)
theorem m_ahead_l {τ : SM} {p q : Nat} (hp : p ≤ 20) (hq : q ≤ 20) {f g : List Int32 × List Int32} (h1 : flM τ p f) (h2 : flM τ q g) (s1 : fSz f) (s2 : fSz g) : ∀ (m j n : Nat), j + m = min f.1.length g.1.length → m < n → f_X8_isAhead_2 (nI p) (nI q) n τ (nI j) = some (b2i (nlt (f.1.drop j) (g.1.drop j)), τ) := by
  have C := cms
  have t1 := s1.1
  have t2 := s2.1
  intro m
  induction m with
  | zero =>
    intro j n hj hn
    obtain ⟨i, rfl⟩ : ∃ i, n = i + 1 := ⟨n - 1, by omega⟩
    have e53 : f_X8_isAhead_53 (nI p) (nI q) τ (nI j) = some (b2i (nlt (f.1.drop j) (g.1.drop j)), τ) := by
      unfold f_X8_isAhead_53 f_X8_isAhead_73
      rw [if_pos (inb_t (by omega) (by omega)), nI_clamp (by omega), nI_clamp (by omega), h1.1, h2.1]
      by_cases c : j = f.1.length
      · rw [if_pos (by rw [c]), if_pos (inb_t (by omega) (by omega)), if_pos (inb_t (by omega) (by omega)), List.drop_of_length_le (by omega)]
        by_cases c2 : g.1.length ≤ f.1.length
        · rw [if_pos (nI_le c2 (by omega)), List.drop_of_length_le (by omega)]; rfl
        · rw [if_neg (nI_ge (by omega) (by omega)), dr_cons (by omega)]; rfl
      · rw [if_neg (fun z => c ((nI_eq (by omega) (by omega)).mp z)), if_pos (inb_t (by omega) (by omega)), if_pos (by rw [show j = g.1.length by omega]), if_pos (inb_t (by omega) (by omega)), if_pos (inb_t (by omega) (by omega)), if_pos (nI_le (by omega) (by omega)), dr_cons (xs := f.1) (by omega), List.drop_of_length_le (show g.1.length ≤ j by omega)]; rfl
    rw [f_X8_isAhead_2, if_pos (inb_t (by omega) (by omega)), nI_clamp (by omega), h1.1, e53]
    by_cases c : f.1.length ≤ j
    · rw [if_pos (nI_le c (by omega))]
    · rw [if_neg (nI_ge (by omega) (by omega)), if_pos (inb_t (by omega) (by omega)), nI_clamp (by omega), h2.1, if_pos (nI_le (by omega) (by omega))]
  | succ m ih =>
    intro j n hj hn
    obtain ⟨i, rfl⟩ : ∃ i, n = i + 1 := ⟨n - 1, by omega⟩
    rw [f_X8_isAhead_2, if_pos (inb_t (by omega) (by omega)), nI_clamp (by omega), h1.1, if_neg (nI_ge (by omega) (by omega)), if_pos (inb_t (by omega) (by omega)), nI_clamp (by omega), h2.1, if_neg (nI_ge (by omega) (by omega)), k30, k30, if_pos (inb_t (by omega) (by omega)), if_pos (inb_t (by omega) (by omega)), nI_clamp (by omega), nI_clamp (by omega), h1.2.1 j (by omega), h2.2.1 j (by omega), nI_1, ih (j + 1) i (by omega) (by omega), dr_cons (xs := f.1) (j := j) (by omega), dr_cons (xs := g.1) (j := j) (by omega), nlt]
    by_cases c3 : f.1.getD j 0 = g.1.getD j 0
    · rw [if_pos c3, if_pos c3]
    · rw [if_neg c3, if_neg c3]
      unfold f_X8_isAhead_53
      rw [if_pos (inb_t (by omega) (by omega)), nI_clamp (by omega), h1.1, if_neg (fun z => by have := (nI_eq (by omega) (by omega)).mp z; omega), if_pos (inb_t (by omega) (by omega)), nI_clamp (by omega), h2.1, if_neg (fun z => by have := (nI_eq (by omega) (by omega)).mp z; omega), k30, k30, if_pos (inb_t (by omega) (by omega)), if_pos (inb_t (by omega) (by omega)), nI_clamp (by omega), nI_clamp (by omega), h1.2.1 j (by omega), h2.2.1 j (by omega)]
      by_cases c4 : g.1.getD j 0 ≤ f.1.getD j 0
      · rw [if_pos c4, decide_eq_false (fun q => (i32_nle.mpr q) c4)]; rfl
      · rw [if_neg c4, decide_eq_true (i32_nle.mp c4)]; rfl
theorem m_ahead {τ : SM} {p q : Nat} (hp : p ≤ 20) (hq : q ≤ 20) {f g : List Int32 × List Int32} (h1 : flM τ p f) (h2 : flM τ q g) (s1 : fSz f) (s2 : fSz g) : f_X8_isAhead τ (nI p) (nI q) = some (b2i (nlt f.1 g.1), τ) := by
  have t1 := s1.1
  have t2 := s2.1
  unfold f_X8_isAhead
  exact m_ahead_l hp hq h1 h2 s1 s2 (min f.1.length g.1.length) 0 fu (by omega) (by unfold fu; omega)
/-! two files change places -/
def swp (fs : FL) (i j : Nat) : FL := (fs.set i (fs.getD j ([], []))).set j (fs.getD i ([], []))
theorem swp_len {fs : FL} {i j : Nat} : (swp fs i j).length = fs.length := by unfold swp; rw [List.length_set, List.length_set]
theorem swp_get {fs : FL} {i j k : Nat} (hi : i < fs.length) (hj : j < fs.length) : (swp fs i j).getD k ([], []) = if k = j then fs.getD i ([], []) else if k = i then fs.getD j ([], []) else fs.getD k ([], []) := by
  unfold swp
  rw [getD_set (by rw [List.length_set]; exact hj)]
  by_cases c : k = j
  · rw [if_pos c, if_pos c]
  · rw [if_neg c, if_neg c, getD_set hi]
theorem getD_el {fs : FL} {k : Nat} (h : k < fs.length) : fs.getD k ([], []) = fs[k] := by
  rw [List.getD_eq_getElem?_getD, List.getElem?_eq_getElem h]; rfl
theorem swp_perm {fs : FL} {i j : Nat} (hi : i < fs.length) (hj : j < fs.length) : List.Perm (swp fs i j) fs := by
  unfold swp
  rw [getD_el hi, getD_el hj]
  exact List.set_set_perm hi hj
theorem wf_perm {fs gs : FL} (h : wfF fs) (p : List.Perm gs fs) : wfF gs := by
  refine ⟨by rw [p.length_eq]; exact h.1, fun f hf => h.2.1 f (p.mem_iff.mp hf), ?_, ?_⟩
  · have e : tot gs = tot fs := (p.map _).sum_nat
    rw [e]; exact h.2.2.1
  · exact (p.map _).symm.nodup h.2.2.2
def sortd (fs : FL) : Prop := ∀ a b, a < b → b < fs.length → nlt (fnm fs a) (fnm fs b) = true
theorem sort_one {fs gs : FL} (p : List.Perm gs fs) (h : sortd gs) (g : sortd fs) : gs = fs := by
  have key : ∀ hs : FL, sortd hs → hs.Pairwise (fun f g => nlt f.1 g.1 = true) := fun hs h => by
    rw [List.pairwise_iff_getElem]
    intro i j hi hj hij
    have := h i j hij hj
    unfold fnm at this
    rw [getD_el hi, getD_el hj] at this
    exact this
  refine List.Perm.eq_of_pairwise (le := fun f g => nlt f.1 g.1 = true) (fun a b _ _ h1 h2 => ?_) (key gs h) (key fs g) p
  have := nlt_tr _ _ _ h1 h2
  rw [nlt_ir] at this
  exact absurd this (by decide)
theorem wf_tri {fs : FL} (h : wfF fs) {i j : Nat} (hi : i < fs.length) (hj : j < fs.length) (hij : i ≠ j) (g : ¬ nlt (fnm fs i) (fnm fs j) = true) : nlt (fnm fs j) (fnm fs i) = true := nlt_tri _ _ (fun q => hij (wf_nd h hi hj q)) g
theorem wf_nb {fs : FL} (h : wfF fs) {i : Nat} (hi : i < fs.length) : ∀ x ∈ fnm fs i, byteP x := fun x hx => nmB_byte (List.all_eq_true.mp (wf_f h hi).2.2.1 x hx)
