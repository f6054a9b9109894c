/-! ===== PURE: the other methods of a row ===== -/
theorem sl_succ {xs : List Int32} {i m : Nat} (h : i < xs.length) : (xs.drop i).take (m + 1) = xs.getD i 0 :: (xs.drop (i + 1)).take m := by
  rw [List.drop_eq_getElem_cons h, List.take_succ_cons, List.getD_eq_getElem?_getD, List.getElem?_eq_getElem h]
  rfl
theorem sl_len {xs : List Int32} {a n : Nat} (h : a + n ≤ xs.length) : ((xs.drop a).take n).length = n := by
  rw [List.length_take, List.length_drop]
  omega
theorem sl_get {xs : List Int32} {a n i : Nat} (hi : i < n) : ((xs.drop a).take n).getD i 0 = xs.getD (a + i) 0 := by
  simp only [List.getD_eq_getElem?_getD, List.getElem?_take, if_pos hi, List.getElem?_drop]
theorem nI_a (a b : Nat) : nI a + nI b = nI (a + b) := nI_add a b
theorem r_atn {σ : SD} {r : Nat} {xs : List Int32} (h : rowD σ r xs) {j : Nat} (hj : j < xs.length) : f_X4_at σ r (nI j) = some (xs.getD j 0, σ) := by
  have := h.lt
  rw [r_at h, atx_n (by omega), if_pos hj]
theorem r_append {σ : SD} {r q : Nat} {xs ys : List Int32} (h : rowD σ r xs) (g : rowD σ q ys) {a n : Nat} (ha : a + n ≤ ys.length) (hc : xs.length + n ≤ capD r) : ∃ σ', f_X4_append σ r q (nI a) (nI n) = some σ' ∧ rowD σ' r (xs ++ (ys.drop a).take n) ∧ exR σ σ' r := by
  have h1 := h.le
  have h2 := g.le
  have h3 := capD_le r
  have h4 := g.2.1
  unfold f_X4_append
  rw [r_holds g, hb_n (by omega) (by omega), decide_eq_true ha, if_pos rfl]
  simp only [Option.bind_some]
  rw [if_neg (by decide), r_room h]
  simp only [Option.bind_some]
  rw [if_neg (fun q => by have := (nI_ltI (by omega) (by omega)).mp q; omega)]
  have hcp : cpb (nI a) (σ.1 0 r) (nI n) (capD q) (capD r) = true := by
    unfold cpb
    rw [h.1, nI_clamp (by omega), nI_clamp (by omega), nI_clamp (by omega)]
    exact decide_eq_true ⟨nI_pos (by omega), nI_pos (by omega), nI_pos (by omega), by omega, by omega⟩
  rw [if_pos hcp, h.1, nI_clamp (by omega), nI_clamp (by omega), nI_clamp (by omega)]
  have hl := sl_len ha
  refine ⟨_, rfl, setR_row ?_ (by rw [List.length_append, hl]; exact hc) (fun i hi => ?_), setR_ex⟩
  · rw [show (SDc σ r (va_cpy (σ.2.2.1 q) (σ.2.2.1 r) a xs.length n)).1 0 r = nI xs.length from h.1, nI_add, List.length_append, hl]
  · rw [List.length_append, hl] at hi
    rw [getD_app]
    by_cases c : i < xs.length
    · rw [if_pos c, pk_cpy_out (Or.inl c), h.2.2 i c]
    · rw [if_neg c, pk_cpy_in (by omega) (by omega), sl_get (by omega), g.2.2 _ (by omega)]
theorem r_close {σ : SD} {r : Nat} {xs : List Int32} (h : rowD σ r xs) {a n : Nat} (ha : a + n ≤ xs.length) : ∃ σ', f_X4_close σ r (nI a) (nI n) = some (1, σ') ∧ rowD σ' r (xs.take a ++ xs.drop (a + n)) ∧ exR σ σ' r := by
  have h1 := h.le
  have h3 := capD_le r
  have h4 := h.2.1
  unfold f_X4_close
  rw [r_holds h, hb_n (by omega) (by omega), decide_eq_true ha, if_pos rfl]
  simp only [Option.bind_some]
  rw [if_neg (by decide), h.1, nI_add, pk_sub (by omega), pk_sub (by omega)]
  have hcp : cpb (nI (a + n)) (nI a) (nI (xs.length - a - n)) (capD r) (capD r) = true := by
    unfold cpb
    rw [nI_clamp (by omega), nI_clamp (by omega), nI_clamp (by omega)]
    exact decide_eq_true ⟨nI_pos (by omega), nI_pos (by omega), nI_pos (by omega), by omega, by omega⟩
  rw [if_pos hcp, nI_clamp (by omega), nI_clamp (by omega), nI_clamp (by omega)]
  have hl : (xs.take a ++ xs.drop (a + n)).length = xs.length - n := by rw [List.length_append, List.length_take, List.length_drop]; omega
  refine ⟨_, rfl, setR_row ?_ (by rw [hl]; omega) (fun i hi => ?_), setR_ex⟩
  · rw [show (SDc σ r (va_cpy (σ.2.2.1 r) (σ.2.2.1 r) (a + n) a (xs.length - a - n))).1 0 r = nI xs.length from h.1, pk_sub (by omega), hl]
  · rw [hl] at hi
    rw [getD_app, List.length_take, show min a xs.length = a by omega]
    by_cases c : i < a
    · rw [if_pos c, pk_cpy_out (Or.inl c), h.2.2 i (by omega)]
      simp only [List.getD_eq_getElem?_getD, List.getElem?_take, if_pos c]
    · rw [if_neg c, pk_cpy_in (by omega) (by omega), h.2.2 _ (by omega)]
      simp only [List.getD_eq_getElem?_getD, List.getElem?_drop]
theorem r_closeF {σ : SD} {r : Nat} {xs : List Int32} (h : rowD σ r xs) {x k : Int32} (ha : hb xs.length x k = false) : f_X4_close σ r x k = some (0, σ) := by
  unfold f_X4_close
  rw [r_holds h, ha]
  simp
theorem r_turn {σ : SD} {r : Nat} {xs : List Int32} (h : rowD σ r xs) {a : Nat} {x : Int32} (ha : a < xs.length) (hx : ¬ x < 0) (hx7 : x ≤ 7) : ∃ σ', f_X4_turn σ r (nI a) x = some (1, σ') ∧ rowD σ' r (xs.set a (xs.getD a 0 ^^^ (1 <<< (x &&& 31)))) ∧ exR σ σ' r := by
  have h1 := h.le
  have h3 := capD_le r
  have h4 := h.2.1
  unfold f_X4_turn
  rw [if_neg (nI_pos (by omega)), h.1, if_neg (fun q => by have := (nI_leI (by omega) (by omega)).mp q; omega), if_neg hx, if_pos hx7, if_pos (inb_t (by omega) (by omega)), if_pos (inb_t (by omega) (by omega)), nI_clamp (by omega), h.2.2 a ha]
  refine ⟨_, rfl, ⟨?_, ?_, fun i hi => ?_⟩, SDc_ex⟩
  · rw [List.length_set]; exact h.1
  · rw [List.length_set]; exact h4
  · rw [List.length_set] at hi
    simp only [SDc, va_up, if_pos]
    by_cases c : i = a
    · subst c
      rw [pk_us]
      simp [List.getD_eq_getElem?_getD, ha]
    · rw [pk_un c, h.2.2 i hi]
      simp only [List.getD_eq_getElem?_getD, List.getElem?_set]
      rw [if_neg (fun q => c q.symm)]
theorem r_turnF {σ : SD} {r : Nat} {xs : List Int32} (h : rowD σ r xs) {i x : Int32} (ha : i < 0 ∨ nI xs.length ≤ i ∨ x < 0 ∨ ¬ x ≤ 7) : f_X4_turn σ r i x = some (0, σ) := by
  unfold f_X4_turn
  rw [h.1]
  by_cases c1 : i < 0
  · rw [if_pos c1]
  by_cases c2 : nI xs.length ≤ i
  · rw [if_neg c1, if_pos c2]
  by_cases c3 : x < 0
  · rw [if_neg c1, if_neg c2, if_pos c3]
  by_cases c4 : x ≤ 7
  · rcases ha with q | q | q | q
    · exact absurd q c1
    · exact absurd q c2
    · exact absurd q c3
    · exact absurd c4 q
  · rw [if_neg c1, if_neg c2, if_neg c3, if_neg c4]
theorem r_blank_l {r : Nat} : ∀ (m j n : Nat) (σ : SD), j + m = capD r → m < n → (∀ i, i < j → σ.2.2.1 r i = 0) → ∃ σ', f_X4_blank_2 r n σ (nI j) = some σ' ∧ rowD σ' r (List.replicate (capD r) 0) ∧ exR σ σ' r := by
  intro m
  have h9 := capD_le r
  induction m with
  | zero =>
    intro j n σ hj hn h0
    obtain ⟨k, rfl⟩ : ∃ k, n = k + 1 := ⟨n - 1, by omega⟩
    rw [f_X4_blank_2, ofNat_nI, if_pos (nI_le (by omega) (by omega))]
    refine ⟨_, rfl, ⟨by simp [SDi, u2], by simp, fun i hi => ?_⟩, SDi_ex⟩
    simp at hi
    show σ.2.2.1 r i = _
    rw [h0 i (by omega)]
    simp [List.getD_eq_getElem?_getD, List.getElem?_replicate, hi]
  | succ m ih =>
    intro j n σ hj hn h0
    obtain ⟨k, rfl⟩ : ∃ k, n = k + 1 := ⟨n - 1, by omega⟩
    rw [f_X4_blank_2, ofNat_nI, if_neg (nI_ge (by omega) (by omega)), if_pos (inb_t (by omega) (by omega)), nI_1, nI_clamp (by omega)]
    obtain ⟨σ', e1, e2, e3⟩ := ih (j + 1) k (SDc σ r (upd (σ.2.2.1 r) j 0)) (by omega) (by omega) (fun i hi => by
      simp only [SDc, va_up, if_pos]
      by_cases c : i = j
      · subst c; exact pk_us
      · rw [pk_un c]; exact h0 i (by omega))
    exact ⟨σ', e1, e2, SDc_ex.tr e3⟩
theorem r_blank (σ : SD) (r : Nat) : ∃ σ', f_X4_blank σ r = some σ' ∧ rowD σ' r (List.replicate (capD r) 0) ∧ exR σ σ' r := by
  have h9 := capD_le r
  exact r_blank_l (capD r) 0 fu σ (by omega) (by unfold fu; omega) (fun i hi => absurd hi (by omega))
def nmB (x : Int32) : Bool := !decide (x < 33) && decide (x ≤ 126)
def b2i (b : Bool) : Int32 := cond b 1 0
theorem r_isName_l {σ : SD} {r : Nat} {xs : List Int32} (h : rowD σ r xs) {a k : Nat} (hk : a + k ≤ xs.length) : ∀ (m j n : Nat), j + m = k → m < n → f_X4_isName_24 r (nI a) (nI k) n σ (nI j) = some (b2i (((xs.drop (a + j)).take m).all nmB), σ) := by
  intro m
  have h9 := h.le
  induction m with
  | zero =>
    intro j n hj hn
    obtain ⟨i, rfl⟩ : ∃ i, n = i + 1 := ⟨n - 1, by omega⟩
    rw [f_X4_isName_24, if_pos (nI_le (by omega) (by omega)), List.take_zero]
    rfl
  | succ m ih =>
    intro j n hj hn
    obtain ⟨i, rfl⟩ : ∃ i, n = i + 1 := ⟨n - 1, by omega⟩
    rw [f_X4_isName_24, if_neg (nI_ge (by omega) (by omega)), nI_add, r_atn h (by omega), sl_succ (by omega), List.all_cons]
    simp only [Option.bind_some]
    by_cases c1 : xs.getD (a + j) 0 < 33
    · have e : nmB (xs.getD (a + j) 0) = false := by unfold nmB; rw [decide_eq_true c1]; rfl
      rw [if_pos c1, e, Bool.false_and]
      rfl
    · rw [if_neg c1]
      by_cases c2 : xs.getD (a + j) 0 ≤ 126
      · have e : nmB (xs.getD (a + j) 0) = true := by unfold nmB; rw [decide_eq_false c1, decide_eq_true c2]; rfl
        rw [if_pos c2, nI_1, ih (j + 1) i (by omega) (by omega), e, Bool.true_and, Nat.add_assoc]
      · have e : nmB (xs.getD (a + j) 0) = false := by unfold nmB; rw [decide_eq_false c1, decide_eq_false c2]; rfl
        rw [if_neg c2, e, Bool.false_and]
        rfl
/-- a NAME of k bytes from a on -/
def nameAt (xs : List Int32) (a k : Nat) : Bool := decide (1 ≤ k ∧ k ≤ 30 ∧ a + k ≤ xs.length) && ((xs.drop a).take k).all nmB
theorem r_isName {σ : SD} {r : Nat} {xs : List Int32} (h : rowD σ r xs) {a k : Nat} (ha : a < 2 ^ 30) (hk : k < 2 ^ 30) : f_X4_isName σ r (nI a) (nI k) = some (b2i (nameAt xs a k), σ) := by
  have h9 := h.le
  unfold f_X4_isName nameAt
  have L1 : nI k < 1 ↔ k < 1 := nI_ltI (b := 1) (by omega) (by decide)
  have L30 : (30 : Int32) < nI k ↔ 30 < k := nI_ltI (a := 30) (by decide) (by omega)
  by_cases c1 : k < 1
  · rw [if_pos (L1.mpr c1), decide_eq_false (by omega), Bool.false_and]
    rfl
  rw [if_neg (fun q => c1 (L1.mp q))]
  by_cases c2 : 30 < k
  · rw [if_pos (L30.mpr c2), decide_eq_false (by omega), Bool.false_and]
    rfl
  rw [if_neg (fun q => c2 (L30.mp q)), r_holds h, hb_n (by omega) (by omega)]
  simp only [Option.bind_some]
  by_cases c3 : a + k ≤ xs.length
  · rw [decide_eq_true c3, if_pos rfl, if_neg (by decide), show (0 : Int32) = nI 0 from rfl, r_isName_l h c3 k 0 fu (by omega) (by unfold fu; omega), decide_eq_true (by omega : 1 ≤ k ∧ k ≤ 30 ∧ a + k ≤ xs.length), Bool.true_and]
    rfl
  · rw [decide_eq_false c3, decide_eq_false (by omega : ¬ (1 ≤ k ∧ k ≤ 30 ∧ a + k ≤ xs.length)), Bool.false_and]
    rfl
theorem r_isNameN {σ : SD} {r : Nat} {a : Nat} {x : Int32} (hx : x < 0) : f_X4_isName σ r (nI a) x = some (0, σ) := by
  unfold f_X4_isName
  rw [if_pos]
  rw [Int32.lt_iff_toInt_lt] at hx ⊢
  have : (1 : Int32).toInt = 1 := rfl
  rw [Int32.toInt_zero] at hx
  omega
theorem r_agrees_l {σ : SD} {r q : Nat} {xs ys : List Int32} (h : rowD σ r xs) (g : rowD σ q ys) {a b k : Nat} (ha : a + k ≤ xs.length) (hb : b + k ≤ ys.length) : ∀ (m j n : Nat), j + m = k → m < n → f_X4_agrees_25 r (nI a) q (nI b) (nI k) n σ (nI j) = some (b2i (decide ((xs.drop (a + j)).take m = (ys.drop (b + j)).take m)), σ) := by
  intro m
  have h9 := h.le
  have g9 := g.le
  induction m with
  | zero =>
    intro j n hj hn
    obtain ⟨i, rfl⟩ : ∃ i, n = i + 1 := ⟨n - 1, by omega⟩
    rw [f_X4_agrees_25, if_pos (nI_le (by omega) (by omega)), decide_eq_true (by rw [List.take_zero, List.take_zero])]
    rfl
  | succ m ih =>
    intro j n hj hn
    obtain ⟨i, rfl⟩ : ∃ i, n = i + 1 := ⟨n - 1, by omega⟩
    rw [f_X4_agrees_25, if_neg (nI_ge (by omega) (by omega)), nI_add, r_atn h (by omega)]
    simp only [Option.bind_some]
    rw [nI_add, r_atn g (by omega)]
    simp only [Option.bind_some]
    by_cases c1 : xs.getD (a + j) 0 = ys.getD (b + j) 0
    · rw [if_pos c1, nI_1, ih (j + 1) i (by omega) (by omega)]
      have e : ((xs.drop (a + (j + 1))).take m = (ys.drop (b + (j + 1))).take m) ↔ ((xs.drop (a + j)).take (m + 1) = (ys.drop (b + j)).take (m + 1)) := by
        rw [sl_succ (by omega), sl_succ (by omega), c1, ← Nat.add_assoc, ← Nat.add_assoc]
        exact ⟨fun q => by rw [q], fun q => (List.cons.inj q).2⟩
      rw [decide_eq_decide.mpr e]
    · rw [if_neg c1, decide_eq_false]
      · rfl
      · rw [sl_succ (by omega), sl_succ (by omega)]
        exact fun q => c1 (List.cons.inj q).1
theorem r_agrees {σ : SD} {r q : Nat} {xs ys : List Int32} (h : rowD σ r xs) (g : rowD σ q ys) {a b k : Nat} (ha : a < 2 ^ 30) (hb' : b < 2 ^ 30) (hk : k < 2 ^ 30) : f_X4_agrees σ r (nI a) q (nI b) (nI k) = some (b2i (decide (a + k ≤ xs.length ∧ b + k ≤ ys.length ∧ (xs.drop a).take k = (ys.drop b).take k)), σ) := by
  have h9 := h.le
  unfold f_X4_agrees
  rw [r_holds h, hb_n (by omega) (by omega)]
  simp only [Option.bind_some]
  by_cases c1 : a + k ≤ xs.length
  · rw [decide_eq_true c1, if_pos rfl, if_neg (by decide), r_holds g, hb_n (by omega) (by omega)]
    simp only [Option.bind_some]
    by_cases c2 : b + k ≤ ys.length
    · rw [decide_eq_true c2, if_pos rfl, if_neg (by decide), show (0 : Int32) = nI 0 from rfl, r_agrees_l h g c1 c2 k 0 fu (by omega) (by unfold fu; omega)]
      congr 3
      exact decide_eq_decide.mpr ⟨fun q => ⟨c1, c2, q⟩, fun q => q.2.2⟩
    · rw [decide_eq_false c2, decide_eq_false (fun q : a + k ≤ xs.length ∧ b + k ≤ ys.length ∧ _ => c2 q.2.1)]
      rfl
  · rw [decide_eq_false c1, decide_eq_false (fun q : a + k ≤ xs.length ∧ b + k ≤ ys.length ∧ _ => c1 q.1)]
    rfl
