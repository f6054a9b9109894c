/-! ===== PURE: the desk's folding ===== -/
theorem dt_len {xs : List Int32} {E p : Nat} (hE : E ≤ xs.length) : ((xs.take E).drop p).length = E - p := by
  rw [List.length_drop, List.length_take]; omega
theorem dt_get {xs : List Int32} {E p i : Nat} (h : p + i < E) : ((xs.take E).drop p).getD i 0 = xs.getD (p + i) 0 := by
  simp only [List.getD_eq_getElem?_getD, List.getElem?_drop, List.getElem?_take, if_pos h]
theorem ng_57 {σ : SD} {r : Nat} {xs : List Int32} (h : rowD σ r xs) {p E : Nat} (hE : E ≤ xs.length) (hp : p < E) : ∀ (m j n : Nat), j + m = min 128 (lo ((xs.take E).drop p)) → 1 ≤ j → m < n → f_X0_nextGroup_57 r (nI p) (nI E) n σ (nI (min E (p + 128))) (nI (p + j)) = some (nI p - nI (p + min 128 (lo ((xs.take E).drop p))), σ) := by
  have h9 := h.le
  have hl := lo_le ((xs.take E).drop p)
  rw [dt_len hE] at hl
  intro m
  induction m with
  | zero =>
    intro j n hj h1 hn
    obtain ⟨i, rfl⟩ : ∃ i, n = i + 1 := ⟨n - 1, by omega⟩
    rw [f_X0_nextGroup_57]
    by_cases c : min E (p + 128) ≤ p + j
    · rw [if_pos (nI_le c (by omega)), show min E (p + 128) = p + min 128 (lo ((xs.take E).drop p)) by omega]
    · have h3 := lo_out ((xs.take E).drop p) (by rw [dt_len hE]; omega)
      rw [show lo ((xs.take E).drop p) = j by omega, List.drop_drop, rl3, dt_len hE] at h3
      obtain ⟨q1, q2, q3⟩ := h3
      rw [dt_get (by omega), dt_get (by omega), Nat.add_zero] at q2 q3
      rw [if_neg (nI_ge (by omega) (by omega)), show (3 : Int32) = nI 3 from rfl, nI_add, if_neg (nI_nlt (by omega) (by omega)), r_atn h (by omega), Option.bind_some, nI_1, r_atn h (by omega), Option.bind_some, if_pos q2, r_atn h (by omega), Option.bind_some, show (2 : Int32) = nI 2 from rfl, nI_add, r_atn h (by omega), Option.bind_some, if_pos q3, show p + j = p + min 128 (lo ((xs.take E).drop p)) by omega]
  | succ m ih =>
    intro j n hj h1 hn
    obtain ⟨i, rfl⟩ : ∃ i, n = i + 1 := ⟨n - 1, by omega⟩
    have h3 := lo_in ((xs.take E).drop p) j (by omega)
    rw [List.drop_drop] at h3
    have h3' : ¬ 3 ≤ rl ((xs.take E).drop (p + j)) := by omega
    rw [rl3, dt_len hE] at h3'
    have ih2 := ih (j + 1) i (by omega) (by omega) (by omega)
    rw [← Nat.add_assoc] at ih2
    rw [f_X0_nextGroup_57, if_neg (nI_ge (by omega) (by omega))]
    unfold f_X0_nextGroup_110
    rw [show (3 : Int32) = nI 3 from rfl, nI_add, nI_1, ih2]
    by_cases c : E < p + j + 3
    · rw [if_pos (nI_lt c (by omega))]
    · rw [if_neg (nI_nlt (by omega) (by omega)), r_atn h (by omega), Option.bind_some, r_atn h (by omega), Option.bind_some]
      by_cases c2 : xs.getD (p + j) 0 = xs.getD (p + j + 1) 0
      · rw [if_pos c2, r_atn h (by omega), Option.bind_some, show (2 : Int32) = nI 2 from rfl, nI_add, r_atn h (by omega), Option.bind_some]
        by_cases c3 : xs.getD (p + j) 0 = xs.getD (p + j + 2) 0
        · exfalso
          apply h3'
          refine ⟨by omega, ?_, ?_⟩
          · rw [dt_get (by omega), dt_get (by omega)]; exact c2
          · rw [dt_get (by omega), dt_get (by omega)]; exact c3
        · rw [if_neg c3]
          exact ih2
      · rw [if_neg c2]
        exact ih2
theorem ng_13 {σ : SD} {r : Nat} {xs : List Int32} (h : rowD σ r xs) {p E : Nat} (hE : E ≤ xs.length) (hp : p < E) : ∀ (m j n : Nat), j + m = min 128 (rl ((xs.take E).drop p)) → 1 ≤ j → m < n → f_X0_nextGroup_13 r (nI p) (nI E) n σ (nI (min E (p + 128))) (nI j) = f_X0_nextGroup_43 r (nI p) (nI E) σ (nI (min E (p + 128))) (nI (min 128 (rl ((xs.take E).drop p)))) := by
  have h9 := h.le
  have hl := rl_le ((xs.take E).drop p)
  rw [dt_len hE] at hl
  intro m
  induction m with
  | zero =>
    intro j n hj h1 hn
    obtain ⟨i, rfl⟩ : ∃ i, n = i + 1 := ⟨n - 1, by omega⟩
    rw [f_X0_nextGroup_13, nI_add]
    by_cases c : min E (p + 128) ≤ p + j
    · rw [if_pos (nI_le c (by omega)), show j = min 128 (rl ((xs.take E).drop p)) by omega]
    · have h3 := rl_out (ys := (xs.take E).drop p) (by rw [dt_len hE]; omega)
      rw [show rl ((xs.take E).drop p) = j by omega, dt_get (by omega), dt_get (by omega), Nat.add_zero] at h3
      rw [if_neg (nI_ge (by omega) (by omega)), r_atn h (by omega), Option.bind_some, r_atn h (by omega), Option.bind_some, if_neg h3, show j = min 128 (rl ((xs.take E).drop p)) by omega]
  | succ m ih =>
    intro j n hj h1 hn
    obtain ⟨i, rfl⟩ : ∃ i, n = i + 1 := ⟨n - 1, by omega⟩
    have h3 := rl_in (ys := (xs.take E).drop p) (i := j) (by omega)
    rw [dt_get (by omega), dt_get (by omega), Nat.add_zero] at h3
    rw [f_X0_nextGroup_13, nI_add, if_neg (nI_ge (by omega) (by omega)), r_atn h (by omega), Option.bind_some, r_atn h (by omega), Option.bind_some, if_pos h3, nI_1, ih (j + 1) i (by omega) (by omega) (by omega)]
theorem ng_bound {p E : Nat} (h : E ≤ 9000) (hp : p ≤ E) : (if nI p + 128 < nI E then nI p + 128 else nI E) = nI (min E (p + 128)) := by
  rw [show (128 : Int32) = nI 128 from rfl, nI_add]
  by_cases c : p + 128 < E
  · rw [if_pos (nI_lt c (by omega)), Nat.min_eq_right (by omega)]
  · rw [if_neg (nI_nlt (by omega) (by omega)), Nat.min_eq_left (by omega)]
theorem ng_run {σ : SD} {r : Nat} {xs : List Int32} (h : rowD σ r xs) {p E : Nat} (hE : E ≤ xs.length) (h3 : 3 ≤ rl ((xs.take E).drop p)) : f_X0_nextGroup σ r (nI p) (nI E) = some (nI (min 128 (rl ((xs.take E).drop p))), σ) := by
  have h9 := h.le
  have hl := rl_le ((xs.take E).drop p)
  rw [dt_len hE] at hl
  unfold f_X0_nextGroup
  rw [ng_bound (by omega) (by omega), show (1 : Int32) = nI 1 from rfl, ng_13 h hE (by omega) (min 128 (rl ((xs.take E).drop p)) - 1) 1 fu (by omega) (by omega) (by unfold fu; omega)]
  unfold f_X0_nextGroup_43
  rw [if_neg (show ¬ nI (min 128 (rl ((xs.take E).drop p))) < 3 from nI_nlt (b := 3) (by omega) (by omega))]
theorem ng_lo {σ : SD} {r : Nat} {xs : List Int32} (h : rowD σ r xs) {p E : Nat} (hE : E ≤ xs.length) (hp : p < E) (h3 : rl ((xs.take E).drop p) < 3) : f_X0_nextGroup σ r (nI p) (nI E) = some (nI p - nI (p + min 128 (lo ((xs.take E).drop p))), σ) := by
  have h9 := h.le
  have hl := rl_pos (ys := (xs.take E).drop p) (by rw [dt_len hE]; omega)
  have hl2 := lo_pos (ys := (xs.take E).drop p) (by rw [dt_len hE]; omega) h3
  unfold f_X0_nextGroup
  rw [ng_bound (by omega) (by omega), show (1 : Int32) = nI 1 from rfl, ng_13 h hE hp (min 128 (rl ((xs.take E).drop p)) - 1) 1 fu (by omega) (by omega) (by unfold fu; omega)]
  unfold f_X0_nextGroup_43
  rw [if_pos (show nI (min 128 (rl ((xs.take E).drop p))) < 3 from nI_lt (b := 3) (by omega) (by decide)), nI_1, ng_57 h hE hp (min 128 (lo ((xs.take E).drop p)) - 1) 1 fu (by omega) (by omega) (by unfold fu; omega)]
theorem ng_n0 {p m : Nat} (hp : p ≤ 9000) (hm : m ≤ 9000) : nI p - nI (p + m) ≤ 0 := by
  rw [Int32.le_iff_toInt_le, pk_sub_toInt (by omega) (by omega), Int32.toInt_zero]; omega
theorem ng_neg (p m : Nat) : -(nI p - nI (p + m)) = nI m := by
  rw [Int32.neg_sub, pk_sub (by omega)]
  congr 1
  omega
theorem ng_abs {p m : Nat} (hp : p ≤ 9000) (hm : m ≤ 9000) (h1 : 1 ≤ m) : (if (1 : Int32) < (if (0 : Int32) ≤ nI p - nI (p + m) then nI p - nI (p + m) else 0 - (nI p - nI (p + m))) then (if (0 : Int32) ≤ nI p - nI (p + m) then nI p - nI (p + m) else 0 - (nI p - nI (p + m))) else 1) = nI m := by
  have e : (0 : Int32) - (nI p - nI (p + m)) = nI m := by rw [Int32.zero_sub, ng_neg]
  rw [if_neg (show ¬ (0 : Int32) ≤ nI p - nI (p + m) by rw [Int32.le_iff_toInt_le, pk_sub_toInt (by omega) (by omega), Int32.toInt_zero]; omega), e]
  by_cases c : 1 < m
  · rw [if_pos (show (1 : Int32) < nI m from nI_lt (a := 1) c (by omega))]
  · rw [if_neg (show ¬ (1 : Int32) < nI m from nI_nlt (b := m) (a := 1) (by omega) (by decide)), show m = 1 by omega]
    rfl
theorem ng_absP {m : Nat} (hm : m ≤ 9000) (h1 : 1 < m) : (if (1 : Int32) < (if (0 : Int32) ≤ nI m then nI m else 0 - nI m) then (if (0 : Int32) ≤ nI m then nI m else 0 - nI m) else 1) = nI m := by
  rw [if_pos (nI_pos' (by omega)), if_pos (show (1 : Int32) < nI m from nI_lt (a := 1) h1 (by omega))]
theorem d_fsz_l {σ : SD} {r : Nat} {xs : List Int32} (h : rowD σ r xs) {E : Nat} (hE : E ≤ xs.length) (x1 x2 : Int32) : ∀ (m p n t : Nat), E - p ≤ m → p ≤ E → m < n → f_X0_foldedSize_10 r x1 x2 n σ (nI E) (nI t) (nI p) = some (nI (t + (foldB ((xs.take E).drop p)).length), σ) := by
  have h9 := h.le
  intro m
  induction m with
  | zero =>
    intro p n t hm hp hn
    obtain ⟨i, rfl⟩ : ∃ i, n = i + 1 := ⟨n - 1, by omega⟩
    rw [f_X0_foldedSize_10, if_pos (nI_le (by omega) (by omega)), List.drop_of_length_le (by rw [List.length_take]; omega)]
    rfl
  | succ m ih =>
    intro p n t hm hp hn
    obtain ⟨i, rfl⟩ : ∃ i, n = i + 1 := ⟨n - 1, by omega⟩
    by_cases c : p = E
    · rw [f_X0_foldedSize_10, if_pos (nI_le (by omega) (by omega)), List.drop_of_length_le (by rw [List.length_take]; omega)]
      rfl
    · rw [f_X0_foldedSize_10, if_neg (nI_ge (by omega) (by omega))]
      unfold f_X0_foldedSize_40
      by_cases c3 : 3 ≤ rl ((xs.take E).drop p)
      · have hl := rl_le ((xs.take E).drop p)
        rw [dt_len hE] at hl
        rw [ng_run h hE c3, Option.bind_some, if_neg (nI_nle (by omega) (by omega)), ng_absP (by omega) (by omega), show (2 : Int32) = nI 2 from rfl, nI_add, nI_add, ih (p + min 128 (rl ((xs.take E).drop p))) i _ (by omega) (by omega) (by omega), foldB_run c3, List.length_cons, List.length_cons, List.drop_drop, show t + 2 + (foldB ((xs.take E).drop (p + min 128 (rl ((xs.take E).drop p))))).length = t + ((foldB ((xs.take E).drop (p + min 128 (rl ((xs.take E).drop p))))).length + 1 + 1) by omega]
      · have hl := lo_le ((xs.take E).drop p)
        rw [dt_len hE] at hl
        have hl2 := lo_pos (ys := (xs.take E).drop p) (by rw [dt_len hE]; omega) (by omega)
        have e1 : (1 : Int32) - (nI p - nI (p + min 128 (lo ((xs.take E).drop p)))) = nI (1 + min 128 (lo ((xs.take E).drop p))) := by
          rw [Int32.sub_eq_add_neg, ng_neg, show (1 : Int32) = nI 1 from rfl, nI_add]
        have hf : (foldB ((xs.take E).drop p)).length = 1 + min 128 (lo ((xs.take E).drop p)) + (foldB ((xs.take E).drop (p + min 128 (lo ((xs.take E).drop p))))).length := by
          rw [foldB_lo (xs := (xs.take E).drop p) (by rw [dt_len hE]; omega) (by omega), List.length_cons, List.length_append, List.length_take, dt_len hE, List.drop_drop]
          omega
        rw [ng_lo h hE (by omega) (by omega), Option.bind_some, if_pos (ng_n0 (by omega) (by omega)), ng_abs (by omega) (by omega) (by omega), e1, nI_add, nI_add, ih (p + min 128 (lo ((xs.take E).drop p))) i _ (by omega) (by omega) (by omega), hf, Nat.add_assoc]
theorem dt_eq {xs : List Int32} {s n : Nat} : (xs.take (s + n)).drop s = (xs.drop s).take n := by
  rw [List.drop_take, Nat.add_sub_cancel_left]
theorem d_fsz {σ : SD} {r : Nat} {xs : List Int32} (h : rowD σ r xs) {s n : Nat} (hn : s + n ≤ xs.length) : f_X0_foldedSize σ r (nI s) (nI n) = some (nI (foldB ((xs.drop s).take n)).length, σ) := by
  have h9 := h.le
  unfold f_X0_foldedSize
  have e := d_fsz_l h hn (nI s) (nI n) n s fu 0 (by omega) (by omega) (by unfold fu; omega)
  rw [Nat.zero_add, dt_eq] at e
  rw [nI_add]
  exact e
theorem and255 {n : Nat} (h : n < 256) : nI n &&& 255 = nI n := by
  rw [pk_andN (k := 8) (by omega) (by decide +kernel), Nat.mod_eq_of_lt h]
theorem byte255 {x : Int32} (h : byteP x) : x &&& 255 = x := by
  obtain ⟨b, hb, rfl⟩ := h
  exact and255 hb
theorem d_fold_l {r q : Nat} (hrq : r ≠ q) {xs : List Int32} {E p0 : Nat} (hx : ∀ i, p0 ≤ i → i < E → byteP (xs.getD i 0)) (hE : E ≤ xs.length) (x1 x2 : Int32) : ∀ (m p n : Nat) (σ : SD) (ys : List Int32), rowD σ r xs → rowD σ q ys → E - p ≤ m → p0 ≤ p → p ≤ E → m < n → ys.length + (foldB ((xs.take E).drop p)).length ≤ capD q → ∃ σ', f_X0_fold_8 r x1 x2 q n σ (nI E) (nI p) = some σ' ∧ rowD σ' q (ys ++ foldB ((xs.take E).drop p)) ∧ exR σ σ' q := by
  intro m
  induction m with
  | zero =>
    intro p n σ ys h g hm hp0 hp hn hc
    have h9 := h.le
    obtain ⟨i, rfl⟩ : ∃ i, n = i + 1 := ⟨n - 1, by omega⟩
    refine ⟨σ, by rw [f_X0_fold_8, if_pos (nI_le (by omega) (by omega))], ?_, exR.rf⟩
    rw [List.drop_of_length_le (by rw [List.length_take]; omega), foldB_nil, List.append_nil]
    exact g
  | succ m ih =>
    intro p n σ ys h g hm hp0 hp hn hc
    have h9 := h.le
    obtain ⟨i, rfl⟩ : ∃ i, n = i + 1 := ⟨n - 1, by omega⟩
    by_cases c : p = E
    · refine ⟨σ, by rw [f_X0_fold_8, if_pos (nI_le (by omega) (by omega))], ?_, exR.rf⟩
      rw [List.drop_of_length_le (by rw [List.length_take]; omega), foldB_nil, List.append_nil]
      exact g
    · by_cases c3 : 3 ≤ rl ((xs.take E).drop p)
      · have hl := rl_le ((xs.take E).drop p)
        rw [dt_len hE] at hl
        have hf := foldB_run c3
        rw [hf, List.length_cons, List.length_cons] at hc
        obtain ⟨σ1, e1, r1, x1'⟩ := r_push g (257 - nI (min 128 (rl ((xs.take E).drop p)))) (by omega)
        have h1 : rowD σ1 r xs := h.ot x1' hrq
        obtain ⟨σ2, e2, r2, x2'⟩ := r_push r1 (xs.getD p 0) (by rw [List.length_append, List.length_singleton]; omega)
        have h2 : rowD σ2 r xs := h1.ot x2' hrq
        have eB : (257 - nI (min 128 (rl ((xs.take E).drop p)))) &&& 255 = nI (257 - min 128 (rl ((xs.take E).drop p))) := by
          rw [show (257 : Int32) = nI 257 from rfl, pk_sub (by omega), and255 (by omega)]
        have eX : xs.getD p 0 &&& 255 = xs.getD p 0 := by
          exact byte255 (hx p hp0 (by omega))
        rw [eB] at r1 r2
        rw [eX] at r2
        obtain ⟨σ3, e3, r3, x3⟩ := ih (p + min 128 (rl ((xs.take E).drop p))) i σ2 _ h2 r2 (by omega) (by omega) (by omega) (by omega) (by rw [List.length_append, List.length_append, List.length_singleton, List.length_singleton, ← List.drop_drop]; omega)
        refine ⟨σ3, ?_, ?_, (x1'.tr x2').tr x3⟩
        · rw [f_X0_fold_8, if_neg (nI_ge (by omega) (by omega)), ng_run h hE c3, Option.bind_some, if_neg (nI_nle (by omega) (by omega)), e1, Option.bind_some, r_atn h1 (by omega), Option.bind_some, e2, Option.bind_some]
          unfold f_X0_fold_72
          rw [ng_absP (by omega) (by omega), nI_add, e3]
        · rw [hf, dt_get (by omega), Nat.add_zero, List.drop_drop]
          simpa using r3
      · have hl := lo_le ((xs.take E).drop p)
        rw [dt_len hE] at hl
        have hl2 := lo_pos (ys := (xs.take E).drop p) (by rw [dt_len hE]; omega) (by omega)
        have hf := foldB_lo (xs := (xs.take E).drop p) (by rw [dt_len hE]; omega) (by omega)
        rw [hf, List.length_cons, List.length_append, List.length_take, dt_len hE] at hc
        obtain ⟨σ1, e1, r1, x1'⟩ := r_push g (nI (min 128 (lo ((xs.take E).drop p))) - 1) (by omega)
        have eB : (nI (min 128 (lo ((xs.take E).drop p))) - 1) &&& 255 = nI (min 128 (lo ((xs.take E).drop p)) - 1) := by
          rw [show (1 : Int32) = nI 1 from rfl, pk_sub (by omega), and255 (by omega)]
        rw [eB] at r1
        have h1 : rowD σ1 r xs := h.ot x1' hrq
        obtain ⟨σ2, e2, r2, x2'⟩ := r_append r1 h1 (a := p) (n := min 128 (lo ((xs.take E).drop p))) (by omega) (by rw [List.length_append, List.length_singleton]; omega)
        have h2 : rowD σ2 r xs := h1.ot x2' hrq
        obtain ⟨σ3, e3, r3, x3⟩ := ih (p + min 128 (lo ((xs.take E).drop p))) i σ2 _ h2 r2 (by omega) (by omega) (by omega) (by omega) (by rw [List.length_append, List.length_append, List.length_singleton, sl_len (by omega), ← List.drop_drop]; omega)
        refine ⟨σ3, ?_, ?_, (x1'.tr x2').tr x3⟩
        · rw [f_X0_fold_8, if_neg (nI_ge (by omega) (by omega)), ng_lo h hE (by omega) (by omega), Option.bind_some, if_pos (ng_n0 (by omega) (by omega)), ng_neg, e1, Option.bind_some, e2, Option.bind_some]
          unfold f_X0_fold_72
          rw [ng_abs (by omega) (by omega) (by omega), nI_add, e3]
        · have e4 : ((xs.take E).drop p).take (min 128 (lo ((xs.take E).drop p))) = (xs.drop p).take (min 128 (lo ((xs.take E).drop p))) := by
            generalize hgm : min 128 (lo ((xs.take E).drop p)) = c at *
            rw [List.drop_take, List.take_take, Nat.min_eq_left (by omega)]
          rw [hf, e4, List.drop_drop]
          simpa using r3
theorem d_fold {σ : SD} {r q : Nat} (hrq : r ≠ q) {xs ys : List Int32} (h : rowD σ r xs) (g : rowD σ q ys) {s n : Nat} (hx : ∀ x ∈ (xs.drop s).take n, byteP x) (hn : s + n ≤ xs.length) (hc : ys.length + (foldB ((xs.drop s).take n)).length ≤ capD q) : ∃ σ', f_X0_fold σ r (nI s) (nI n) q = some σ' ∧ rowD σ' q (ys ++ foldB ((xs.drop s).take n)) ∧ exR σ σ' q := by
  have h9 := h.le
  unfold f_X0_fold
  rw [nI_add]
  have hx2 : ∀ i, s ≤ i → i < s + n → byteP (xs.getD i 0) := fun i h1 h2 => by
    obtain ⟨g1, g2⟩ := bN_of (i := i - s) hx
    rw [sl_get (by omega), show s + (i - s) = i by omega] at g2
    exact ⟨_, g1, g2⟩
  have := d_fold_l hrq hx2 hn (nI s) (nI n) n s fu σ ys h g (by omega) (Nat.le_refl _) (by omega) (by unfold fu; omega) (by rw [dt_eq]; exact hc)
  rw [dt_eq] at this
  exact this
