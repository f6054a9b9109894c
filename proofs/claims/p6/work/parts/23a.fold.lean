/-! ===== PURE: the folding, on lists ===== -/
def runL (x : Int32) : List Int32 → Nat
  | [] => 0
  | y :: ys => if y = x then runL x ys + 1 else 0
def rl : List Int32 → Nat
  | [] => 0
  | x :: ys => runL x ys + 1
def lo : List Int32 → Nat
  | [] => 0
  | x :: ys => if 3 ≤ rl (x :: ys) then 0 else lo ys + 1
theorem runL_le (x : Int32) : ∀ ys, runL x ys ≤ ys.length := by
  intro ys
  induction ys with
  | nil => exact Nat.le_refl _
  | cons y ys ih =>
    rw [runL, List.length_cons]
    by_cases c : y = x
    · rw [if_pos c]; omega
    · rw [if_neg c]; omega
theorem runL_in (x : Int32) : ∀ ys i, i < runL x ys → ys.getD i 0 = x := by
  intro ys
  induction ys with
  | nil => intro i hi; exact absurd hi (Nat.not_lt_zero i)
  | cons y ys ih =>
    intro i hi
    rw [runL] at hi
    by_cases c : y = x
    · rw [if_pos c] at hi
      cases i with
      | zero => exact c
      | succ i => exact ih i (by omega)
    · rw [if_neg c] at hi; exact absurd hi (Nat.not_lt_zero i)
theorem runL_out (x : Int32) : ∀ ys, runL x ys < ys.length → ys.getD (runL x ys) 0 ≠ x := by
  intro ys
  induction ys with
  | nil => intro h; exact absurd h (Nat.not_lt_zero _)
  | cons y ys ih =>
    intro h
    rw [runL] at h ⊢
    by_cases c : y = x
    · rw [if_pos c] at h ⊢
      rw [List.length_cons] at h
      exact ih (by omega)
    · rw [if_neg c]
      exact c
theorem rl_le (ys : List Int32) : rl ys ≤ ys.length := by
  cases ys with
  | nil => exact Nat.le_refl _
  | cons x ys => rw [rl, List.length_cons]; have := runL_le x ys; omega
theorem rl_pos {ys : List Int32} (h : 0 < ys.length) : 1 ≤ rl ys := by
  cases ys with
  | nil => exact absurd h (Nat.not_lt_zero _)
  | cons x ys => rw [rl]; omega
theorem rl_in {ys : List Int32} {i : Nat} (h : i < rl ys) : ys.getD i 0 = ys.getD 0 0 := by
  cases ys with
  | nil => exact absurd h (Nat.not_lt_zero _)
  | cons x ys =>
    cases i with
    | zero => rfl
    | succ i => exact runL_in x ys i (by rw [rl] at h; omega)
theorem rl_out {ys : List Int32} (h : rl ys < ys.length) : ys.getD (rl ys) 0 ≠ ys.getD 0 0 := by
  cases ys with
  | nil => exact absurd h (Nat.not_lt_zero _)
  | cons x ys =>
    rw [rl, List.length_cons] at h
    exact runL_out x ys (by omega)
theorem rl_ge {ys : List Int32} {n : Nat} (hn : n ≤ ys.length) (h : ∀ i, i < n → ys.getD i 0 = ys.getD 0 0) : n ≤ rl ys := by
  rcases Nat.lt_or_ge (rl ys) n with q | q
  · exact absurd (h (rl ys) q) (rl_out (by omega))
  · exact q
theorem rl3 {ys : List Int32} : 3 ≤ rl ys ↔ 3 ≤ ys.length ∧ ys.getD 0 0 = ys.getD 1 0 ∧ ys.getD 0 0 = ys.getD 2 0 := by
  constructor
  · intro h
    have := rl_le ys
    exact ⟨by omega, (rl_in (i := 1) (by omega)).symm, (rl_in (i := 2) (by omega)).symm⟩
  · rintro ⟨h1, h2, h3⟩
    refine rl_ge h1 (fun i hi => ?_)
    rcases (show i = 0 ∨ i = 1 ∨ i = 2 by omega) with rfl | rfl | rfl
    · rfl
    · exact h2.symm
    · exact h3.symm
theorem lo_le : ∀ ys, lo ys ≤ ys.length := by
  intro ys
  induction ys with
  | nil => exact Nat.le_refl _
  | cons y ys ih =>
    rw [lo, List.length_cons]
    by_cases c : 3 ≤ rl (y :: ys)
    · rw [if_pos c]; omega
    · rw [if_neg c]; omega
theorem lo_in : ∀ (ys : List Int32) (i : Nat), i < lo ys → rl (ys.drop i) < 3 := by
  intro ys
  induction ys with
  | nil => intro i hi; exact absurd hi (Nat.not_lt_zero i)
  | cons y ys ih =>
    intro i hi
    rw [lo] at hi
    by_cases c : 3 ≤ rl (y :: ys)
    · rw [if_pos c] at hi; exact absurd hi (Nat.not_lt_zero i)
    · rw [if_neg c] at hi
      cases i with
      | zero => rw [List.drop_zero]; omega
      | succ i => rw [List.drop_succ_cons]; exact ih i (by omega)
theorem lo_out : ∀ (ys : List Int32), lo ys < ys.length → 3 ≤ rl (ys.drop (lo ys)) := by
  intro ys
  induction ys with
  | nil => intro h; exact absurd h (Nat.not_lt_zero _)
  | cons y ys ih =>
    intro h
    rw [lo] at h ⊢
    by_cases c : 3 ≤ rl (y :: ys)
    · rw [if_pos c, List.drop_zero]; exact c
    · rw [if_neg c] at h ⊢
      rw [List.length_cons] at h
      rw [List.drop_succ_cons]; exact ih (by omega)
theorem lo_pos {ys : List Int32} (h : 0 < ys.length) (h3 : rl ys < 3) : 1 ≤ lo ys := by
  cases ys with
  | nil => exact absurd h (Nat.not_lt_zero _)
  | cons y ys => rw [lo, if_neg (by omega)]; omega
theorem lo_drop : ∀ (ys : List Int32) (k : Nat), k ≤ lo ys → lo (ys.drop k) = lo ys - k := by
  intro ys
  induction ys with
  | nil => intro k hk; rw [List.drop_nil, lo]; omega
  | cons y ys ih =>
    intro k hk
    cases k with
    | zero => rw [List.drop_zero, Nat.sub_zero]
    | succ k =>
      rw [lo] at hk
      by_cases c : 3 ≤ rl (y :: ys)
      · rw [if_pos c] at hk; exact absurd hk (by omega)
      · rw [if_neg c] at hk
        rw [List.drop_succ_cons, ih k (by omega), lo, if_neg c]
        omega
/-- the folded bytes, by turns -/
def foldF : Nat → List Int32 → List Int32
  | 0, _ => []
  | n + 1, xs => if xs.length = 0 then [] else if 3 ≤ rl xs then nI (257 - min 128 (rl xs)) :: xs.getD 0 0 :: foldF n (xs.drop (min 128 (rl xs))) else nI (min 128 (lo xs) - 1) :: (xs.take (min 128 (lo xs)) ++ foldF n (xs.drop (min 128 (lo xs))))
theorem foldF_fuel : ∀ (n m : Nat) (xs : List Int32), xs.length ≤ n → xs.length ≤ m → foldF n xs = foldF m xs := by
  intro n
  induction n with
  | zero =>
    intro m xs h1 h2
    have h0 : xs.length = 0 := by omega
    cases m with
    | zero => rfl
    | succ m => rw [foldF, foldF, if_pos h0]
  | succ n ih =>
    intro m xs h1 h2
    by_cases h0 : xs.length = 0
    · cases m with
      | zero => rw [foldF, foldF, if_pos h0]
      | succ m => rw [foldF, foldF, if_pos h0, if_pos h0]
    · cases m with
      | zero => exact absurd h2 (by omega)
      | succ m =>
        rw [foldF, foldF, if_neg h0, if_neg h0]
        by_cases c : 3 ≤ rl xs
        · rw [if_pos c, if_pos c, ih m _ (by rw [List.length_drop]; omega) (by rw [List.length_drop]; omega)]
        · have := lo_pos (by omega : 0 < xs.length) (by omega)
          rw [if_neg c, if_neg c, ih m _ (by rw [List.length_drop]; omega) (by rw [List.length_drop]; omega)]
def foldB (xs : List Int32) : List Int32 := foldF xs.length xs
theorem foldB_nil : foldB [] = [] := rfl
theorem foldB_run {xs : List Int32} (h3 : 3 ≤ rl xs) : foldB xs = nI (257 - min 128 (rl xs)) :: xs.getD 0 0 :: foldB (xs.drop (min 128 (rl xs))) := by
  have h1 := rl_le xs
  unfold foldB
  obtain ⟨n, hn⟩ : ∃ n, xs.length = n + 1 := ⟨xs.length - 1, by omega⟩
  rw [hn, foldF, if_neg (by omega), if_pos h3]
  congr 2
  exact foldF_fuel _ _ _ (by rw [List.length_drop]; omega) (Nat.le_refl _)
theorem foldB_lo {xs : List Int32} (h0 : 0 < xs.length) (h3 : rl xs < 3) : foldB xs = nI (min 128 (lo xs) - 1) :: (xs.take (min 128 (lo xs)) ++ foldB (xs.drop (min 128 (lo xs)))) := by
  have h1 := lo_pos h0 h3
  unfold foldB
  obtain ⟨n, hn⟩ : ∃ n, xs.length = n + 1 := ⟨xs.length - 1, by omega⟩
  rw [hn, foldF, if_neg (by omega), if_neg (by omega)]
  congr 2
  exact foldF_fuel _ _ _ (by rw [List.length_drop]; omega) (Nat.le_refl _)
/-- so many bytes at most -/
theorem foldB_len : ∀ (n : Nat) (xs : List Int32), xs.length ≤ n → (foldB xs).length ≤ xs.length + xs.length / 128 + 1 ∧ (3 ≤ rl xs → (foldB xs).length ≤ xs.length + xs.length / 128) := by
  intro n
  induction n with
  | zero =>
    intro xs h
    have h0 : xs = [] := List.length_eq_zero_iff.mp (by omega)
    subst h0
    rw [foldB_nil]
    exact ⟨by simp, fun _ => by simp⟩
  | succ n ih =>
    intro xs h
    by_cases h0 : xs.length = 0
    · have h0 : xs = [] := List.length_eq_zero_iff.mp h0
      subst h0
      rw [foldB_nil]
      exact ⟨by simp, fun _ => by simp⟩
    by_cases c : 3 ≤ rl xs
    · have h1 := rl_le xs
      obtain ⟨i1, -⟩ := ih (xs.drop (min 128 (rl xs))) (by rw [List.length_drop]; omega)
      rw [List.length_drop] at i1
      have key : (foldB xs).length ≤ xs.length + xs.length / 128 := by
        rw [foldB_run c, List.length_cons, List.length_cons]
        have := Nat.div_le_div_right (c := 128) (Nat.sub_le xs.length (min 128 (rl xs)))
        omega
      exact ⟨by omega, fun _ => key⟩
    · have h1 := lo_pos (by omega : 0 < xs.length) (by omega)
      have h2 := lo_le xs
      obtain ⟨i1, i2⟩ := ih (xs.drop (min 128 (lo xs))) (by rw [List.length_drop]; omega)
      rw [List.length_drop] at i1 i2
      refine ⟨?_, fun q => absurd q c⟩
      rw [foldB_lo (by omega) (by omega), List.length_cons, List.length_append, List.length_take]
      by_cases c2 : lo xs < 128
      · by_cases c3 : lo xs < xs.length
        · have h3 := lo_out xs c3
          have := i2 (by rw [show min 128 (lo xs) = lo xs by omega]; exact h3)
          have := Nat.div_le_div_right (c := 128) (Nat.sub_le xs.length (min 128 (lo xs)))
          omega
        · rw [List.drop_of_length_le (by omega), foldB_nil]
          simp
          omega
      · have hm : min 128 (lo xs) = 128 := by omega
        rw [hm] at i1 ⊢
        have : xs.length / 128 = (xs.length - 128) / 128 + 1 := by omega
        omega
theorem foldB_1600 {xs : List Int32} (h : xs.length ≤ 1500) : (foldB xs).length ≤ 1512 := by
  have := (foldB_len xs.length xs (Nat.le_refl _)).1
  omega
/-- the size packed -/
def pkS (xs : List Int32) : Nat := min xs.length (foldB xs).length
theorem foldF_byte : ∀ (n : Nat) (xs : List Int32), (∀ x ∈ xs, byteP x) → ∀ x ∈ foldF n xs, byteP x := by
  intro n
  induction n with
  | zero => intro xs hx x h; exact absurd h List.not_mem_nil
  | succ n ih =>
    intro xs hx x h
    rw [foldF] at h
    by_cases h0 : xs.length = 0
    · rw [if_pos h0] at h; exact absurd h List.not_mem_nil
    rw [if_neg h0] at h
    by_cases c : 3 ≤ rl xs
    · rw [if_pos c] at h
      have := rl_le xs
      rcases List.mem_cons.mp h with q | q
      · exact ⟨_, by omega, q⟩
      rcases List.mem_cons.mp q with q | q
      · rw [q]
        obtain ⟨g1, g2⟩ := bN_of (i := 0) hx
        exact ⟨_, g1, g2⟩
      · exact ih _ (fun y hy => hx y (List.mem_of_mem_drop hy)) x q
    · rw [if_neg c] at h
      rcases List.mem_cons.mp h with q | q
      · exact ⟨_, by omega, q⟩
      rcases List.mem_append.mp q with q | q
      · exact hx x (List.mem_of_mem_take q)
      · exact ih _ (fun y hy => hx y (List.mem_of_mem_drop hy)) x q
theorem foldB_byte {xs : List Int32} (h : ∀ x ∈ xs, byteP x) : ∀ x ∈ foldB xs, byteP x := foldF_byte _ xs h
