/-! ===== PURE: headers on a tape ===== -/
theorem num2_lt {xs : List Int32} (h : ∀ x ∈ xs, byteP x) (i : Nat) : num2 xs i < 65536 := by
  have h1 := (bN_of (i := i) h).1
  have h2 := (bN_of (i := i + 1) h).1
  unfold num2
  omega
theorem num4_lt {xs : List Int32} (h : ∀ x ∈ xs, byteP x) (i : Nat) : num4 xs i < 4294967296 := by
  have h1 := (bN_of (i := i) h).1
  have h2 := (bN_of (i := i + 1) h).1
  have h3 := (bN_of (i := i + 2) h).1
  have h4 := (bN_of (i := i + 3) h).1
  unfold num4
  omega
theorem num4_2 (xs : List Int32) (i : Nat) : num4 xs i = num2 xs i + num2 xs (i + 2) * 65536 := rfl
/-- the number of two bytes at j is v -/
def t2 (xs : List Int32) (j v : Nat) : Bool := decide (j + 2 ≤ xs.length ∧ num2 xs j = v)
def t4 (xs : List Int32) (j v : Nat) : Bool := decide (j + 4 ≤ xs.length ∧ num4 xs j = v)
theorem m1_nI {v : Nat} (hv : v < 2 ^ 31) : ¬ (-1 : Int32) = nI v := fun q => nI_pos hv (by rw [← q]; decide)
theorem t2_iff {xs : List Int32} (h : ∀ x ∈ xs, byteP x) {j v : Nat} (hv : v < 2 ^ 31) : ((if j + 2 ≤ xs.length then nI (num2 xs j) else -1) = nI v) ↔ t2 xs j v = true := by
  have hl := num2_lt h j
  unfold t2
  by_cases c : j + 2 ≤ xs.length
  · rw [if_pos c, nI_eq (by omega) hv]
    exact ⟨fun q => decide_eq_true ⟨c, q⟩, fun q => (of_decide_eq_true q).2⟩
  · rw [if_neg c]
    exact ⟨fun q => absurd q (m1_nI hv), fun q => absurd (of_decide_eq_true q).1 c⟩
theorem t4_iff {xs : List Int32} (h : ∀ x ∈ xs, byteP x) {j v : Nat} (hv : v < 2 ^ 31) : (lg_cmp (if j + 4 ≤ xs.length then lN (num4 xs j) else -1) (lN v) = 0) ↔ t4 xs j v = true := by
  have hl := num4_lt h j
  rw [lg_cmp_eq]
  unfold t4
  by_cases c : j + 4 ≤ xs.length
  · rw [if_pos c, pk_lEQ (by omega) (by omega)]
    exact ⟨fun q => decide_eq_true ⟨c, q⟩, fun q => (of_decide_eq_true q).2⟩
  · rw [if_neg c]
    refine ⟨fun q => ?_, fun q => absurd (of_decide_eq_true q).1 c⟩
    have e1 : (-1 : Int64).toInt = -1 := rfl
    have := congrArg Int64.toInt q
    rw [e1, lN_toInt hv] at this
    omega
/-- the fields that both headers share, at a: as they ought to be -/
def hdOk (xs : List Int32) (a : Nat) : Bool := decide (a + 26 ≤ xs.length ∧ num2 xs a = 20 ∧ num2 xs (a + 2) = 0 ∧ (num2 xs (a + 4) = 0 ∨ num2 xs (a + 4) = 99) ∧ num2 xs (a + 6) = 0 ∧ num2 xs (a + 8) = 33 ∧ 1 ≤ num2 xs (a + 22) ∧ num2 xs (a + 22) ≤ 30 ∧ num2 xs (a + 24) = 0)
/-- what the header holds then -/
def hdr (σ : SD) (xs : List Int32) (a : Nat) : Prop := σ.1 12 0 = nI (num2 xs (a + 4)) ∧ σ.1 13 0 = nI (num4 xs (a + 10)) ∧ σ.2.1 0 = lN (num4 xs (a + 14)) ∧ σ.2.1 1 = lN (num4 xs (a + 18)) ∧ σ.1 14 0 = nI (num2 xs (a + 22))
/-- all but the header is as it was -/
def exH (σ σ' : SD) : Prop := (∀ f i, ¬ (12 ≤ f ∧ f ≤ 14) → σ'.1 f i = σ.1 f i) ∧ σ'.2.2 = σ.2.2
theorem exH.rf {σ : SD} : exH σ σ := ⟨fun _ _ _ => rfl, rfl⟩
theorem exH.tr {σ1 σ2 σ3 : SD} (h : exH σ1 σ2) (g : exH σ2 σ3) : exH σ1 σ3 := ⟨fun f i n => (g.1 f i n).trans (h.1 f i n), g.2.trans h.2⟩
theorem rowD.exH {σ σ' : SD} {q : Nat} {xs : List Int32} (h : rowD σ q xs) (e : exH σ σ') : rowD σ' q xs := ⟨(e.1 0 q (by omega)).trans h.1, h.2.1, fun i hi => by rw [e.2]; exact h.2.2 i hi⟩
theorem d_parse {σ : SD} {xs : List Int32} (h : rowD σ 1 xs) (hb : ∀ x ∈ xs, byteP x) {a : Nat} (ha : a < 2 ^ 29) : ∃ σ', f_X2_parse σ 1 (nI a) = some (b2i (hdOk xs a), σ') ∧ exH σ σ' ∧ (hdOk xs a = true → hdr σ' xs a) := by
  have h9 := h.le
  unfold f_X2_parse
  rw [r_holds h, show (26 : Int32) = nI 26 from rfl, hb_n (by omega) (by decide), Option.bind_some]
  by_cases c : a + 26 ≤ xs.length
  · have L := num2_lt hb
    have e0 : ∀ j, j + 2 ≤ xs.length → (if j + 2 ≤ xs.length then nI (num2 xs j) else -1) = nI (num2 xs j) := fun j hj => if_pos hj
    have e4 : ∀ j, j + 4 ≤ xs.length → (if j + 4 ≤ xs.length then lN (num4 xs j) else -1) = lN (num4 xs j) := fun j hj => if_pos hj
    rw [decide_eq_true c, if_pos rfl, if_neg (show ¬ (1 : Int32) = 0 by decide)]
    rw [show (4 : Int32) = nI 4 from rfl, show (10 : Int32) = nI 10 from rfl, show (14 : Int32) = nI 14 from rfl, show (18 : Int32) = nI 18 from rfl, show (22 : Int32) = nI 22 from rfl, show (2 : Int32) = nI 2 from rfl, nI_add, nI_add, nI_add, nI_add, nI_add, nI_add]
    rw [r_two h hb (by omega), Option.bind_some, e0 _ (by omega)]
    have h1 : rowD (SDi σ 12 0 (nI (num2 xs (a + 4)))) 1 xs := h.si (by decide)
    rw [r_four h1 hb (by omega), Option.bind_some, e4 _ (by omega), lN_i]
    have h2 : rowD (SDi (SDi σ 12 0 (nI (num2 xs (a + 4)))) 13 0 (nI (num4 xs (a + 10)))) 1 xs := h1.si (by decide)
    rw [r_four h2 hb (by omega), Option.bind_some, e4 _ (by omega)]
    have h3 : rowD (SDj (SDi (SDi σ 12 0 (nI (num2 xs (a + 4)))) 13 0 (nI (num4 xs (a + 10)))) 0 (lN (num4 xs (a + 14)))) 1 xs := h2
    rw [r_four h3 hb (by omega), Option.bind_some, e4 _ (by omega)]
    have h4 : rowD (SDj (SDj (SDi (SDi σ 12 0 (nI (num2 xs (a + 4)))) 13 0 (nI (num4 xs (a + 10)))) 0 (lN (num4 xs (a + 14)))) 1 (lN (num4 xs (a + 18)))) 1 xs := h3
    rw [r_two h4 hb (by omega), Option.bind_some, e0 _ (by omega)]
    have h5 : rowD (SDi (SDj (SDj (SDi (SDi σ 12 0 (nI (num2 xs (a + 4)))) 13 0 (nI (num4 xs (a + 10)))) 0 (lN (num4 xs (a + 14)))) 1 (lN (num4 xs (a + 18)))) 14 0 (nI (num2 xs (a + 22)))) 1 xs := h4.si (by decide)
    generalize hS : SDi (SDj (SDj (SDi (SDi σ 12 0 (nI (num2 xs (a + 4)))) 13 0 (nI (num4 xs (a + 10)))) 0 (lN (num4 xs (a + 14)))) 1 (lN (num4 xs (a + 18)))) 14 0 (nI (num2 xs (a + 22))) = σ5 at h5 ⊢
    have H : hdr σ5 xs a := by
      rw [← hS]
      exact ⟨rfl, rfl, rfl, rfl, rfl⟩
    have X : exH σ σ5 := by
      rw [← hS]
      refine ⟨fun f i n => ?_, rfl⟩
      rw [SDi_n (by omega)]
      show (SDi (SDi σ 12 0 _) 13 0 _).1 f i = _
      rw [SDi_n (by omega), SDi_n (by omega)]
    refine ⟨σ5, ?_, X, fun _ => H⟩
    rw [r_two h5 hb (by omega), Option.bind_some, e0 _ (by omega), show (20 : Int32) = nI 20 from rfl]
    have no : ∀ P : Prop, (hdOk xs a = true → P) → ¬ P → hdOk xs a = false := fun P h1 h2 => by
      cases hh : hdOk xs a
      · rfl
      · exact absurd (h1 hh) h2
    by_cases c1 : num2 xs a = 20
    · rw [if_pos (by rw [c1]), r_two h5 hb (by omega), Option.bind_some, e0 _ (by omega), show (0 : Int32) = nI 0 from rfl]
      by_cases c2 : num2 xs (a + 2) = 0
      · rw [if_pos (by rw [c2]), H.1, show (99 : Int32) = nI 99 from rfl]
        have tail : f_X2_parse_108 1 (nI a) σ5 = some (b2i (decide (num2 xs (a + 6) = 0 ∧ num2 xs (a + 8) = 33 ∧ 1 ≤ num2 xs (a + 22) ∧ num2 xs (a + 22) ≤ 30 ∧ num2 xs (a + 24) = 0)), σ5) := by
          unfold f_X2_parse_108
          rw [show (6 : Int32) = nI 6 from rfl, show (8 : Int32) = nI 8 from rfl, show (24 : Int32) = nI 24 from rfl, nI_add, nI_add, nI_add, r_two h5 hb (by omega), Option.bind_some, e0 _ (by omega), show (0 : Int32) = nI 0 from rfl]
          have L1 := L (a + 6)
          have L2 := L (a + 8)
          have L3 := L (a + 22)
          have L4 := L (a + 24)
          by_cases d1 : num2 xs (a + 6) = 0
          · rw [if_pos (by rw [d1]), r_two h5 hb (by omega), Option.bind_some, e0 _ (by omega), show (33 : Int32) = nI 33 from rfl]
            by_cases d2 : num2 xs (a + 8) = 33
            · rw [if_pos (by rw [d2]), H.2.2.2.2, show (1 : Int32) = nI 1 from rfl]
              by_cases d3 : num2 xs (a + 22) < 1
              · rw [if_pos (nI_lt d3 (by decide)), decide_eq_false (by omega)]; rfl
              · rw [if_neg (nI_nlt (by omega) (by omega)), show (30 : Int32) = nI 30 from rfl]
                by_cases d4 : 30 < num2 xs (a + 22)
                · rw [if_pos (nI_lt d4 (by omega)), decide_eq_false (by omega)]; rfl
                · rw [if_neg (nI_nlt (by omega) (by decide)), r_two h5 hb (by omega), Option.bind_some, e0 _ (by omega)]
                  by_cases d5 : num2 xs (a + 24) = 0
                  · rw [if_pos (by rw [d5]), decide_eq_true ⟨d1, d2, by omega, by omega, d5⟩]; rfl
                  · rw [if_neg (fun q => d5 ((nI_eq (by omega) (by decide)).mp q)), decide_eq_false (fun q => d5 q.2.2.2.2)]; rfl
            · rw [if_neg (fun q => d2 ((nI_eq (by omega) (by decide)).mp q)), decide_eq_false (fun q => d2 q.2.1)]; rfl
          · rw [if_neg (fun q => d1 ((nI_eq (by omega) (by decide)).mp q)), decide_eq_false (fun q => d1 q.1)]; rfl
        have L5 := L (a + 4)
        have fin : (num2 xs (a + 4) = 0 ∨ num2 xs (a + 4) = 99) → b2i (decide (num2 xs (a + 6) = 0 ∧ num2 xs (a + 8) = 33 ∧ 1 ≤ num2 xs (a + 22) ∧ num2 xs (a + 22) ≤ 30 ∧ num2 xs (a + 24) = 0)) = b2i (hdOk xs a) := fun q => by
          unfold hdOk
          congr 1
          exact decide_eq_decide.mpr ⟨fun z => ⟨c, c1, c2, q, z⟩, fun z => z.2.2.2.2⟩
        by_cases c3 : num2 xs (a + 4) = 0
        · rw [if_pos (by rw [c3]), tail, fin (Or.inl c3)]
        · rw [if_neg (fun q => c3 ((nI_eq (by omega) (by decide)).mp q))]
          by_cases c4 : num2 xs (a + 4) = 99
          · rw [if_pos (by rw [c4]), tail, fin (Or.inr c4)]
          · rw [if_neg (fun q => c4 ((nI_eq (by omega) (by decide)).mp q)), no (num2 xs (a + 4) = 0 ∨ num2 xs (a + 4) = 99) (fun q => (of_decide_eq_true q).2.2.2.1) (fun q => q.elim c3 c4)]; rfl
      · have L2 := L (a + 2)
        rw [if_neg (fun q => c2 ((nI_eq (by omega) (by decide)).mp q)), no (num2 xs (a + 2) = 0) (fun q => (of_decide_eq_true q).2.2.1) c2]; rfl
    · have L1 := L a
      rw [if_neg (fun q => c1 ((nI_eq (by omega) (by decide)).mp q)), no (num2 xs a = 20) (fun q => (of_decide_eq_true q).2.1) c1]; rfl
  · have e : hdOk xs a = false := decide_eq_false (fun q => c q.1)
    refine ⟨σ, ?_, exH.rf, fun q => ?_⟩
    · rw [decide_eq_false c, e]; rfl
    · rw [e] at q; exact absurd q (by decide)
