/-! ===== PURE: a row of the desk as a list ===== -/
theorem capD_le (r : Nat) : capD r ≤ 9000 := by
  unfold capD
  (repeat' split) <;> omega
def rowD (σ : SD) (r : Nat) (xs : List Int32) : Prop := σ.1 0 r = nI xs.length ∧ xs.length ≤ capD r ∧ ∀ i, i < xs.length → σ.2.2.1 r i = xs.getD i 0
/-- all but row r is as it was -/
def exR (σ σ' : SD) (r : Nat) : Prop := (∀ f i, ¬ (f = 0 ∧ i = r) → σ'.1 f i = σ.1 f i) ∧ σ'.2.1 = σ.2.1 ∧ (∀ a, a ≠ r → σ'.2.2.1 a = σ.2.2.1 a) ∧ σ'.2.2.2 = σ.2.2.2
theorem exR.rf {σ : SD} {r : Nat} : exR σ σ r := ⟨fun _ _ _ => rfl, rfl, fun _ _ => rfl, rfl⟩
theorem exR.tr {σ1 σ2 σ3 : SD} {r : Nat} (h : exR σ1 σ2 r) (g : exR σ2 σ3 r) : exR σ1 σ3 r := ⟨fun f i n => (g.1 f i n).trans (h.1 f i n), g.2.1.trans h.2.1, fun a n => (g.2.2.1 a n).trans (h.2.2.1 a n), g.2.2.2.trans h.2.2.2⟩
theorem rowD.ot {σ σ' : SD} {r q : Nat} {xs : List Int32} (h : rowD σ q xs) (e : exR σ σ' r) (n : q ≠ r) : rowD σ' q xs := ⟨(e.1 0 q (fun x => n x.2)).trans h.1, h.2.1, fun i hi => by rw [e.2.2.1 q n]; exact h.2.2 i hi⟩
theorem rowD.lt {σ : SD} {r : Nat} {xs : List Int32} (h : rowD σ r xs) : xs.length < 2 ^ 31 := Nat.lt_of_le_of_lt (Nat.le_trans h.2.1 (capD_le r)) (by decide)
theorem rowD.le {σ : SD} {r : Nat} {xs : List Int32} (h : rowD σ r xs) : xs.length ≤ 9000 := Nat.le_trans h.2.1 (capD_le r)
/-- the row's new cells and size -/
def setR (σ : SD) (r : Nat) (g : Nat → Int32) (n : Int32) : SD := SDi (SDc σ r g) 0 r n
theorem setR_ex {σ : SD} {r : Nat} {g : Nat → Int32} {n : Int32} : exR σ (setR σ r g n) r := ⟨fun f i h => by simp only [setR, SDi, u2, if_neg h, SDc], rfl, fun a h => by simp only [setR, SDi, SDc, va_up, if_neg h], rfl⟩
theorem SDi_ex {σ : SD} {r : Nat} {n : Int32} : exR σ (SDi σ 0 r n) r := ⟨fun f i h => by simp only [SDi, u2, if_neg h], rfl, fun a h => rfl, rfl⟩
theorem SDc_ex {σ : SD} {r : Nat} {g : Nat → Int32} : exR σ (SDc σ r g) r := ⟨fun f i h => rfl, rfl, fun a h => by simp only [SDc, va_up, if_neg h], rfl⟩
theorem setR_row {σ : SD} {r : Nat} {g : Nat → Int32} {n : Int32} {xs : List Int32} (hn : n = nI xs.length) (hc : xs.length ≤ capD r) (hg : ∀ i, i < xs.length → g i = xs.getD i 0) : rowD (setR σ r g n) r xs := ⟨by simp [setR, SDi, u2, hn], hc, fun i hi => by simp only [setR, SDi, SDc, va_up, if_pos]; exact hg i hi⟩
theorem i32_cases (x : Int32) : x < 0 ∨ ∃ j : Nat, j < 2 ^ 31 ∧ x = nI j := by
  by_cases h : x < 0
  · exact Or.inl h
  · exact Or.inr (nI_of h)
theorem r_size {σ : SD} {r : Nat} {xs : List Int32} (h : rowD σ r xs) : f_X4_size σ r = some (nI xs.length, σ) := by unfold f_X4_size; rw [h.1]
theorem ofNat_nI (n : Nat) : Int32.ofNat n = nI n := rfl
theorem r_room {σ : SD} {r : Nat} {xs : List Int32} (h : rowD σ r xs) : f_X4_room σ r = some (nI (capD r - xs.length), σ) := by
  unfold f_X4_room
  rw [h.1, ofNat_nI, pk_sub h.2.1]
/-- whether a row of n bytes has k from x on -/
def hb (n : Nat) (x k : Int32) : Bool := decide (0 ≤ x.toInt ∧ 0 ≤ k.toInt ∧ x.toInt + k.toInt ≤ n)
theorem hb_n {n a k : Nat} (ha : a < 2 ^ 31) (hk : k < 2 ^ 31) : hb n (nI a) (nI k) = decide (a + k ≤ n) := by
  unfold hb
  rw [nI_toInt ha, nI_toInt hk]
  by_cases h : a + k ≤ n
  · rw [decide_eq_true (by omega), decide_eq_true h]
  · rw [decide_eq_false (by omega), decide_eq_false h]
theorem r_holds {σ : SD} {r : Nat} {xs : List Int32} (h : rowD σ r xs) (x k : Int32) : f_X4_holds σ r x k = some (if hb xs.length x k = true then 1 else 0, σ) := by
  have hl := h.lt
  have hl9 := h.le
  unfold f_X4_holds hb
  rw [h.1]
  rcases i32_cases x with hx | ⟨a, ha, rfl⟩
  · rw [if_pos hx, if_neg]
    intro h1
    have h2 := (of_decide_eq_true h1).1
    rw [Int32.lt_iff_toInt_lt, Int32.toInt_zero] at hx
    omega
  · rw [if_neg (nI_pos ha)]
    rcases i32_cases k with hk | ⟨b, hb, rfl⟩
    · rw [if_pos hk, if_neg]
      intro h1
      have h2 := (of_decide_eq_true h1).2.1
      rw [Int32.lt_iff_toInt_lt, Int32.toInt_zero] at hk
      omega
    · rw [if_neg (nI_pos hb), nI_toInt ha, nI_toInt hb]
      by_cases c1 : xs.length < b
      · rw [if_pos ((nI_ltI hl hb).mpr c1), if_neg]
        intro h1
        have h2 := of_decide_eq_true h1
        omega
      · rw [if_neg (fun q => c1 ((nI_ltI hl hb).mp q)), pk_sub (by omega)]
        by_cases c2 : xs.length - b < a
        · rw [if_pos ((nI_ltI (by omega) ha).mpr c2), if_neg]
          intro h1
          have h2 := of_decide_eq_true h1
          omega
        · rw [if_neg (fun q => c2 ((nI_ltI (by omega) ha).mp q)), if_pos (decide_eq_true (by omega))]
/-- byte x of a row, -1 without -/
def atx (xs : List Int32) (x : Int32) : Int32 := if 0 ≤ x.toInt ∧ x.toInt < xs.length then xs.getD x.toInt.toNat 0 else -1
theorem atx_n {xs : List Int32} {j : Nat} (hj : j < 2 ^ 31) : atx xs (nI j) = if j < xs.length then xs.getD j 0 else -1 := by
  unfold atx
  rw [nI_toInt hj]
  by_cases h : j < xs.length
  · rw [if_pos (by omega), if_pos h, Int.toNat_natCast]
  · rw [if_neg (by omega), if_neg h]
theorem inb_n {j n : Nat} (hj : j < 2 ^ 31) : inb (nI j) n = decide (j < n) := by
  unfold inb
  rw [nI_clamp hj]
  by_cases h : j < n
  · rw [decide_eq_true h, decide_eq_true]
    rintro (q | q)
    · exact nI_pos hj q
    · omega
  · rw [decide_eq_false h, decide_eq_false]
    exact fun q => q (Or.inr (by omega))
theorem inb_t {j n : Nat} (h : j < n) (hn : n ≤ 100000) : inb (nI j) n = true := by rw [inb_n (by omega)]; exact decide_eq_true h
theorem r_at {σ : SD} {r : Nat} {xs : List Int32} (h : rowD σ r xs) (x : Int32) : f_X4_at σ r x = some (atx xs x, σ) := by
  have hl := h.lt
  have hc := capD_le r
  have hl9 := h.2.1
  unfold f_X4_at
  rw [h.1]
  rcases i32_cases x with hx | ⟨a, ha, rfl⟩
  · rw [if_pos hx]
    unfold atx
    rw [if_neg]
    intro h1
    rw [Int32.lt_iff_toInt_lt, Int32.toInt_zero] at hx
    omega
  · rw [if_neg (nI_pos ha), atx_n ha]
    by_cases c1 : xs.length ≤ a
    · rw [if_pos ((nI_leI hl ha).mpr c1), if_neg (by omega)]
    · rw [if_neg (fun q => c1 ((nI_leI hl ha).mp q)), if_pos (inb_t (by omega) (by omega)), if_pos (by omega), nI_clamp ha, h.2.2 a (by omega)]
theorem r_shorten {σ : SD} {r : Nat} {xs : List Int32} (h : rowD σ r xs) (x : Int32) : ∃ σ', f_X4_shorten σ r x = some (if hb xs.length 0 x = true then 1 else 0, σ') ∧ rowD σ' r (if hb xs.length 0 x = true then xs.take x.toInt.toNat else xs) ∧ exR σ σ' r := by
  have hl := h.lt
  unfold f_X4_shorten
  rw [h.1]
  rcases i32_cases x with hx | ⟨a, ha, rfl⟩
  · have e : hb xs.length 0 x = false := by
      unfold hb
      apply decide_eq_false
      rw [Int32.lt_iff_toInt_lt, Int32.toInt_zero] at hx
      omega
    rw [if_pos hx, e]
    exact ⟨σ, rfl, h, exR.rf⟩
  · rw [if_neg (nI_pos ha), show (0 : Int32) = nI 0 from rfl, hb_n (by decide) ha]
    by_cases c1 : a ≤ xs.length
    · rw [if_pos ((nI_leI ha hl).mpr c1), decide_eq_true (by omega : 0 + a ≤ xs.length)]
      refine ⟨SDi σ 0 r (nI a), rfl, ?_, SDi_ex⟩
      rw [if_pos rfl, nI_toInt ha, Int.toNat_natCast]
      have hlen : (xs.take a).length = a := by rw [List.length_take]; omega
      refine ⟨by simp [SDi, u2, hlen], by rw [hlen]; exact Nat.le_trans c1 h.2.1, fun i hi => ?_⟩
      rw [hlen] at hi
      show σ.2.2.1 r i = _
      rw [h.2.2 i (by omega)]
      simp [List.getD_eq_getElem?_getD, List.getElem?_take, hi]
    · rw [if_neg (fun q => c1 ((nI_leI ha hl).mp q)), decide_eq_false (by omega : ¬ 0 + a ≤ xs.length)]
      exact ⟨σ, rfl, h, exR.rf⟩
theorem r_short0 {σ : SD} {r : Nat} {xs : List Int32} (h : rowD σ r xs) : ∃ σ', f_X4_shorten σ r 0 = some (1, σ') ∧ rowD σ' r [] ∧ exR σ σ' r := by
  obtain ⟨σ', h1, h2, h3⟩ := r_shorten h 0
  have e : hb xs.length 0 0 = true := by unfold hb; exact decide_eq_true (by simp)
  rw [e] at h1 h2
  exact ⟨σ', h1, h2, h3⟩
theorem getD_app {xs ys : List Int32} {i : Nat} : (xs ++ ys).getD i 0 = if i < xs.length then xs.getD i 0 else ys.getD (i - xs.length) 0 := by
  simp only [List.getD_eq_getElem?_getD, List.getElem?_append]
  split <;> rfl
theorem r_push {σ : SD} {r : Nat} {xs : List Int32} (h : rowD σ r xs) (x : Int32) (hc : xs.length < capD r) : ∃ σ', f_X4_push σ r x = some σ' ∧ rowD σ' r (xs ++ [x &&& 255]) ∧ exR σ σ' r := by
  have hl := h.lt
  have h9 := capD_le r
  unfold f_X4_push
  rw [h.1, ofNat_nI, if_neg (fun q => by have := (nI_leI (by omega) hl).mp q; omega), if_pos (inb_t hc (by omega)), nI_clamp hl]
  refine ⟨_, rfl, setR_row ?_ (by simp; omega) (fun i hi => ?_), setR_ex⟩
  · show (SDc σ r _).1 0 r + 1 = _
    rw [show (SDc σ r (upd (σ.2.2.1 r) xs.length (x &&& 255))).1 0 r = nI xs.length from h.1, nI_1]
    simp
  · rw [getD_app]
    simp at hi
    by_cases c : i < xs.length
    · rw [if_pos c, pk_un (by omega), h.2.2 i c]
    · have : i = xs.length := by omega
      subst this
      rw [if_neg c, pk_us, Nat.sub_self]
      rfl
