/-! ===== PURE: numbers and signatures on a row ===== -/
theorem r_two {σ : SD} {r : Nat} {xs : List Int32} (h : rowD σ r xs) (hby : ∀ x ∈ xs, byteP x) {j : Nat} (hj : j < 2 ^ 30) : f_X4_two σ r (nI j) = some (if j + 2 ≤ xs.length then nI (num2 xs j) else -1, σ) := by
  have h9 := h.le
  have hc := capD_le r
  have h4 := h.2.1
  unfold f_X4_two
  rw [r_holds h, show (2 : Int32) = nI 2 from rfl, hb_n (by omega) (by decide)]
  simp only [Option.bind_some]
  by_cases c : j + 2 ≤ xs.length
  · rw [decide_eq_true c, if_pos rfl, if_neg (by decide), if_pos (inb_t (by omega) (by omega)), nI_1, if_pos (inb_t (by omega) (by omega)), if_pos c, nI_clamp (by omega), nI_clamp (by omega), h.2.2 _ (by omega), h.2.2 _ (by omega)]
    obtain ⟨a1, a2⟩ := bN_of (i := j) hby
    obtain ⟨b1, b2⟩ := bN_of (i := j + 1) hby
    rw [a2, b2, n_two a1 b1]
    rfl
  · rw [decide_eq_false c, if_neg c]
    rfl
theorem r_four {σ : SD} {r : Nat} {xs : List Int32} (h : rowD σ r xs) (hby : ∀ x ∈ xs, byteP x) {j : Nat} (hj : j < 2 ^ 30) : f_X4_four σ r (nI j) = some (if j + 4 ≤ xs.length then lN (num4 xs j) else -1, σ) := by
  have h9 := h.le
  have hc := capD_le r
  have h4 := h.2.1
  unfold f_X4_four
  rw [r_holds h, show (4 : Int32) = nI 4 from rfl, hb_n (by omega) (by decide)]
  simp only [Option.bind_some]
  by_cases c : j + 4 ≤ xs.length
  · rw [decide_eq_true c, if_pos rfl, if_neg (by decide), show (2 : Int32) = nI 2 from rfl, show (3 : Int32) = nI 3 from rfl, nI_1, nI_add, nI_add, if_pos (inb_t (by omega) (by omega)), if_pos (inb_t (by omega) (by omega)), if_pos (inb_t (by omega) (by omega)), if_pos (inb_t (by omega) (by omega)), if_pos c, nI_clamp (by omega), nI_clamp (by omega), nI_clamp (by omega), nI_clamp (by omega), h.2.2 _ (by omega), h.2.2 _ (by omega), h.2.2 _ (by omega), h.2.2 _ (by omega)]
    obtain ⟨a1, a2⟩ := bN_of (i := j) hby
    obtain ⟨b1, b2⟩ := bN_of (i := j + 1) hby
    obtain ⟨c1, c2⟩ := bN_of (i := j + 2) hby
    obtain ⟨d1, d2⟩ := bN_of (i := j + 3) hby
    rw [a2, b2, c2, d2, n_four a1 b1 c1 d1]
    rfl
  · rw [decide_eq_false c, if_neg c]
    rfl
/-- the bytes of a number, the lowest first -/
def le2 (x : Int32) : List Int32 := [x &&& 255, (x >>> (nI 8 &&& 31)) &&& 255]
def le4 (x : Int32) : List Int32 := [x &&& 255, (x >>> (nI 8 &&& 31)) &&& 255, (x >>> (nI 16 &&& 31)) &&& 255, (x >>> (nI 24 &&& 31)) &&& 255]
def be4 (x : Int32) : List Int32 := [(x >>> (nI 24 &&& 31)) &&& 255, (x >>> (nI 16 &&& 31)) &&& 255, (x >>> (nI 8 &&& 31)) &&& 255, x &&& 255]
theorem r_pushTwo {σ : SD} {r : Nat} {xs : List Int32} (h : rowD σ r xs) (x : Int32) (hc : xs.length + 2 ≤ capD r) : ∃ σ', f_X4_pushTwo σ r x = some σ' ∧ rowD σ' r (xs ++ le2 x) ∧ exR σ σ' r := by
  obtain ⟨σ1, e1, r1, x1⟩ := r_push h x (by omega)
  obtain ⟨σ2, e2, r2, x2⟩ := r_push r1 ((x.toUInt32 >>> ((8 : Int32).toUInt32 &&& Int32.toUInt32 31)).toInt32) (by simp; omega)
  refine ⟨σ2, by unfold f_X4_pushTwo; rw [e1]; simp only [Option.bind_some]; rw [e2]; rfl, ?_, x1.tr x2⟩
  rw [show (8 : Int32) = nI 8 from rfl, sh_byte (by decide)] at r2
  simpa [le2] using r2
theorem r_pushFour {σ : SD} {r : Nat} {xs : List Int32} (h : rowD σ r xs) (x : Int32) (hc : xs.length + 4 ≤ capD r) : ∃ σ', f_X4_pushFour σ r x = some σ' ∧ rowD σ' r (xs ++ le4 x) ∧ exR σ σ' r := by
  obtain ⟨σ1, e1, r1, x1⟩ := r_push h x (by omega)
  obtain ⟨σ2, e2, r2, x2⟩ := r_push r1 ((x.toUInt32 >>> ((8 : Int32).toUInt32 &&& Int32.toUInt32 31)).toInt32) (by simp; omega)
  obtain ⟨σ3, e3, r3, x3⟩ := r_push r2 ((x.toUInt32 >>> ((16 : Int32).toUInt32 &&& Int32.toUInt32 31)).toInt32) (by simp; omega)
  obtain ⟨σ4, e4, r4, x4⟩ := r_push r3 ((((x.toUInt32 >>> ((16 : Int32).toUInt32 &&& Int32.toUInt32 31)).toInt32).toUInt32 >>> ((8 : Int32).toUInt32 &&& Int32.toUInt32 31)).toInt32) (by simp; omega)
  refine ⟨σ4, ?_, ?_, ((x1.tr x2).tr x3).tr x4⟩
  · unfold f_X4_pushFour f_X4_pushTwo
    rw [e1]
    simp only [Option.bind_some]
    rw [e2]
    simp only [Option.bind_some]
    rw [e3]
    simp only [Option.bind_some]
    rw [e4]
    rfl
  · rw [sh_twice, show (8 : Int32) = nI 8 from rfl, show (16 : Int32) = nI 16 from rfl, sh_byte (by decide), sh_byte (by decide)] at r4
    simpa [le4] using r4
theorem r_pushHigh {σ : SD} {r : Nat} {xs : List Int32} (h : rowD σ r xs) (x : Int32) (hc : xs.length + 4 ≤ capD r) : ∃ σ', f_X4_pushHighFirst σ r x = some σ' ∧ rowD σ' r (xs ++ be4 x) ∧ exR σ σ' r := by
  obtain ⟨σ1, e1, r1, x1⟩ := r_push h ((x.toUInt32 >>> ((24 : Int32).toUInt32 &&& Int32.toUInt32 31)).toInt32) (by omega)
  obtain ⟨σ2, e2, r2, x2⟩ := r_push r1 ((x.toUInt32 >>> ((16 : Int32).toUInt32 &&& Int32.toUInt32 31)).toInt32) (by simp; omega)
  obtain ⟨σ3, e3, r3, x3⟩ := r_push r2 ((x.toUInt32 >>> ((8 : Int32).toUInt32 &&& Int32.toUInt32 31)).toInt32) (by simp; omega)
  obtain ⟨σ4, e4, r4, x4⟩ := r_push r3 x (by simp; omega)
  refine ⟨σ4, ?_, ?_, ((x1.tr x2).tr x3).tr x4⟩
  · unfold f_X4_pushHighFirst
    rw [e1]
    simp only [Option.bind_some]
    rw [e2]
    simp only [Option.bind_some]
    rw [e3]
    simp only [Option.bind_some]
    rw [e4]
    rfl
  · rw [show (8 : Int32) = nI 8 from rfl, show (16 : Int32) = nI 16 from rfl, show (24 : Int32) = nI 24 from rfl, sh_byte (by decide), sh_byte (by decide), sh_byte (by decide)] at r4
    simpa [be4] using r4
theorem r_pushSig {σ : SD} {r : Nat} {xs : List Int32} (h : rowD σ r xs) (x y : Int32) (hc : xs.length + 4 ≤ capD r) : ∃ σ', f_X4_pushSignature σ r x y = some σ' ∧ rowD σ' r (xs ++ [80, 75, x &&& 255, y &&& 255]) ∧ exR σ σ' r := by
  obtain ⟨σ1, e1, r1, x1⟩ := r_push h 80 (by omega)
  obtain ⟨σ2, e2, r2, x2⟩ := r_push r1 75 (by simp; omega)
  obtain ⟨σ3, e3, r3, x3⟩ := r_push r2 x (by simp; omega)
  obtain ⟨σ4, e4, r4, x4⟩ := r_push r3 y (by simp; omega)
  refine ⟨σ4, ?_, ?_, ((x1.tr x2).tr x3).tr x4⟩
  · unfold f_X4_pushSignature
    rw [e1]
    simp only [Option.bind_some]
    rw [e2]
    simp only [Option.bind_some]
    rw [e3]
    simp only [Option.bind_some]
    rw [e4]
    rfl
  · rw [show (80 : Int32) &&& 255 = 80 from rfl, show (75 : Int32) &&& 255 = 75 from rfl] at r4
    simpa using r4
/-- the signature at j -/
def sigAt (xs : List Int32) (j : Nat) (x y : Int32) : Bool := decide (atx xs (nI j) = 80 ∧ atx xs (nI (j + 1)) = 75 ∧ atx xs (nI (j + 2)) = x ∧ atx xs (nI (j + 3)) = y)
theorem r_sig {σ : SD} {r : Nat} {xs : List Int32} (h : rowD σ r xs) (j : Nat) (x y : Int32) : f_X4_hasSignature σ r (nI j) x y = some (b2i (sigAt xs j x y), σ) := by
  unfold f_X4_hasSignature sigAt
  rw [r_at h]
  simp only [Option.bind_some]
  rw [nI_1, show (2 : Int32) = nI 2 from rfl, show (3 : Int32) = nI 3 from rfl, nI_add, nI_add]
  by_cases c1 : atx xs (nI j) = 80
  · rw [if_pos c1, r_at h]
    simp only [Option.bind_some]
    by_cases c2 : atx xs (nI (j + 1)) = 75
    · rw [if_pos c2, r_at h]
      simp only [Option.bind_some]
      by_cases c3 : atx xs (nI (j + 2)) = x
      · rw [if_pos c3, r_at h]
        simp only [Option.bind_some]
        by_cases c4 : atx xs (nI (j + 3)) = y
        · rw [if_pos c4, decide_eq_true ⟨c1, c2, c3, c4⟩]; rfl
        · rw [if_neg c4, decide_eq_false (fun q => c4 q.2.2.2)]; rfl
      · rw [if_neg c3, decide_eq_false (fun q => c3 q.2.2.1)]; rfl
    · rw [if_neg c2, decide_eq_false (fun q => c2 q.2.1)]; rfl
  · rw [if_neg c1, decide_eq_false (fun q => c1 q.1)]; rfl
