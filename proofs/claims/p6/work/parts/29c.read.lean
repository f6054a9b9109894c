/-! ===== PURE: the desk's read: centrals, locals ===== -/
theorem d_cenStands {σ : SD} {xs : List Int32} (h : rowD σ 1 xs) (hb : ∀ x ∈ xs, byteP x) {a e : Nat} {cs : List Nat} (he : e ≤ xs.length) (hc : ∀ c ∈ cs, cenK xs e c = true) (ha : a ≤ 9000) (hn : cs.length ≤ 20) (hA : arr σ 25 cs) (h8 : σ.1 8 0 = nI e) : ∃ σ', f_X3_centralStands σ 1 (nI a) (nI cs.length) = some (b2i (cenK xs e a && !era xs cs a), σ') ∧ exH σ σ' ∧ (cenK xs e a = true → σ'.1 14 0 = nI (cnN xs a)) := by
  have h9 := h.le
  have fin : ∀ (P : Prop) (σ' : SD), (cenK xs e a = true → P) → ¬ P → exH σ σ' → f_X3_centralStands σ 1 (nI a) (nI cs.length) = some (0, σ') → ∃ σ', f_X3_centralStands σ 1 (nI a) (nI cs.length) = some (b2i (cenK xs e a && !era xs cs a), σ') ∧ exH σ σ' ∧ (cenK xs e a = true → σ'.1 14 0 = nI (cnN xs a)) := by
    intro P σ' q1 q2 q3 q4
    have : cenK xs e a = false := by
      cases hh : cenK xs e a
      · rfl
      · exact absurd (q1 hh) q2
    rw [this, Bool.false_and]
    exact ⟨σ', q4, q3, fun q => absurd q (by decide)⟩
  have k4 : nI a + 4 = nI (a + 4) := nI_add a 4
  have k6 : nI a + 6 = nI (a + 6) := nI_add a 6
  have k32 : nI a + 32 = nI (a + 32) := nI_add a 32
  have k34 : nI a + 34 = nI (a + 34) := nI_add a 34
  have k36 : nI a + 36 = nI (a + 36) := nI_add a 36
  have k38 : nI a + 38 = nI (a + 38) := nI_add a 38
  have k46 : nI a + 46 = nI (a + 46) := nI_add a 46
  have w20 : ((if a + 4 + 2 ≤ xs.length then nI (num2 xs (a + 4)) else -1) = 20) ↔ t2 xs (a + 4) 20 = true := t2_iff hb (v := 20) (by decide)
  have w0 : ∀ j, ((if j + 2 ≤ xs.length then nI (num2 xs j) else -1) = 0) ↔ t2 xs j 0 = true := fun j => t2_iff hb (v := 0) (by decide)
  have w4 : ∀ j, (lg_cmp (if j + 4 ≤ xs.length then lN (num4 xs j) else -1) 0 = 0) ↔ t4 xs j 0 = true := fun j => t4_iff hb (v := 0) (by decide)
  have hW := f_X3_centralStands.eq_1 σ 1 (nI a) (nI cs.length)
  rw [r_sig h, Option.bind_some] at hW
  by_cases c1 : sigAt xs a 1 2 = true
  case neg =>
    have c1' : sigAt xs a 1 2 = false := by simpa using c1
    rw [c1', if_pos (show b2i false = 0 from rfl)] at hW
    exact fin _ σ (fun q => (cenK_t q).1) c1 exH.rf hW
  rw [c1, if_neg (show ¬ b2i true = 0 by decide), k4, r_two h hb (by omega), Option.bind_some] at hW
  by_cases c2 : t2 xs (a + 4) 20 = true
  case neg =>
    rw [if_neg (fun q => c2 (w20.mp q))] at hW
    exact fin _ σ (fun q => (cenK_t q).2.1) c2 exH.rf hW
  obtain ⟨σ1, e1, x1, H1⟩ := d_parse h hb (a := a + 6) (by omega)
  have h1 : rowD σ1 1 xs := h.exH x1
  rw [if_pos (w20.mpr c2), k6, e1, Option.bind_some] at hW
  by_cases c3 : hdOk xs (a + 6) = true
  case neg =>
    have c3' : hdOk xs (a + 6) = false := by simpa using c3
    rw [c3', if_pos (show b2i false = 0 from rfl)] at hW
    exact fin _ σ1 (fun q => (cenK_t q).2.2.1) c3 x1 hW
  have H := H1 c3
  have hns : σ1.1 14 0 = nI (cnN xs a) := by rw [H.2.2.2.2]; unfold cnN; rw [show a + 6 + 22 = a + 28 by omega]
  have Ln : cnN xs a < 65536 := num2_lt hb _
  rw [c3, if_neg (show ¬ b2i true = 0 by decide), k32, r_two h1 hb (by omega), Option.bind_some] at hW
  by_cases c4 : t2 xs (a + 32) 0 = true
  case neg =>
    rw [if_neg (fun q => c4 ((w0 _).mp q))] at hW
    exact fin _ σ1 (fun q => (cenK_t q).2.2.2.1) c4 x1 hW
  rw [if_pos ((w0 _).mpr c4), k34, r_two h1 hb (by omega), Option.bind_some] at hW
  by_cases c5 : t2 xs (a + 34) 0 = true
  case neg =>
    rw [if_neg (fun q => c5 ((w0 _).mp q))] at hW
    exact fin _ σ1 (fun q => (cenK_t q).2.2.2.2.1) c5 x1 hW
  rw [if_pos ((w0 _).mpr c5), k36, r_two h1 hb (by omega), Option.bind_some] at hW
  by_cases c6 : t2 xs (a + 36) 0 = true
  case neg =>
    rw [if_neg (fun q => c6 ((w0 _).mp q))] at hW
    exact fin _ σ1 (fun q => (cenK_t q).2.2.2.2.2.1) c6 x1 hW
  rw [if_pos ((w0 _).mpr c6), k38, r_four h1 hb (by omega), Option.bind_some] at hW
  by_cases c7 : t4 xs (a + 38) 0 = true
  case neg =>
    rw [if_neg (fun q => c7 ((w4 _).mp q))] at hW
    exact fin _ σ1 (fun q => (cenK_t q).2.2.2.2.2.2.1) c7 x1 hW
  rw [if_pos ((w4 _).mpr c7), k46, hns, show σ1.1 8 0 = nI e by rw [x1.1 8 0 (by omega)]; exact h8, nI_add] at hW
  by_cases c8 : a + 46 + cnN xs a ≤ e
  case neg =>
    rw [if_pos (nI_lt (by omega) (by omega))] at hW
    exact fin _ σ1 (fun q => (cenK_t q).2.2.2.2.2.2.2.1) c8 x1 hW
  rw [if_neg (nI_nlt c8 (by omega)), r_isName h1 (by omega) (by omega), Option.bind_some] at hW
  by_cases c9 : nameAt xs (a + 46) (cnN xs a) = true
  case neg =>
    have c9' : nameAt xs (a + 46) (cnN xs a) = false := by simpa using c9
    rw [c9', if_pos (show b2i false = 0 from rfl)] at hW
    exact fin _ σ1 (fun q => (cenK_t q).2.2.2.2.2.2.2.2) c9 x1 hW
  have hK : cenK xs e a = true := by
    unfold cenK
    rw [c1, c2, c3, c4, c5, c6, c7, c9, decide_eq_true c8]; rfl
  have hA1 : arr σ1 25 cs := fun i hi => by rw [x1.2]; exact hA i hi
  have hE : f_X3_isEarlierName σ1 1 (nI (a + 46)) (nI cs.length) = some (b2i (era xs cs a), σ1) := d_era h1 hb he hc (by omega) hn hA1 hns cs.length 0 fu (by omega) (by unfold fu; omega)
  rw [c9, if_neg (show ¬ b2i true = 0 by decide), hE, Option.bind_some] at hW
  refine ⟨σ1, ?_, x1, fun _ => hns⟩
  rw [hW, hK, Bool.true_and]
  cases era xs cs a with
  | true => rw [if_neg (show ¬ b2i true = 0 by decide)]; rfl
  | false => rw [if_pos (show b2i false = 0 from rfl)]; rfl
/-- the reader's numbers up to its end, all rows, the entries: as they were -/
def exC (σ σ' : SD) : Prop := (∀ f i, f < 9 → σ'.1 f i = σ.1 f i) ∧ (∀ b, b < 25 → σ'.2.2.1 b = σ.2.2.1 b) ∧ σ'.2.2.2 = σ.2.2.2
theorem exC.rf {σ : SD} : exC σ σ := ⟨fun _ _ _ => rfl, fun _ _ => rfl, rfl⟩
theorem exC.tr {σ1 σ2 σ3 : SD} (h : exC σ1 σ2) (g : exC σ2 σ3) : exC σ1 σ3 := ⟨fun f i n => (g.1 f i n).trans (h.1 f i n), fun b n => (g.2.1 b n).trans (h.2.1 b n), g.2.2.trans h.2.2⟩
theorem exH.c {σ σ' : SD} (h : exH σ σ') : exC σ σ' := ⟨fun f i n => h.1 f i (by omega), fun b _ => by rw [h.2], by rw [h.2]⟩
theorem exC.d {σ σ' : SD} (h : exC σ σ') : exD σ σ' := ⟨fun f i n _ => h.1 f i (by omega), fun a _ n => h.2.1 a n, h.2.2⟩
theorem exC.si {σ : SD} {f i : Nat} {v : Int32} (hf : 9 ≤ f) : exC σ (SDi σ f i v) := ⟨fun g j n => SDi_n (by omega), fun _ _ => rfl, rfl⟩
theorem exC.sc {σ : SD} {a : Nat} {g : Nat → Int32} (ha : 25 ≤ a) : exC σ (SDc σ a g) := ⟨fun _ _ _ => rfl, fun b n => by show va_up σ.2.2.1 a g b = _; unfold va_up; rw [if_neg (by omega)], rfl⟩
theorem rowD.exC {σ σ' : SD} {q : Nat} {xs : List Int32} (h : rowD σ q xs) (e : exC σ σ') (hq : q < 25) : rowD σ' q xs := ⟨(e.1 0 q (by decide)).trans h.1, h.2.1, fun i hi => by rw [e.2.1 q hq]; exact h.2.2 i hi⟩
theorem d_fails (σ : SD) (x1 x2 x3 : Int32) : ∃ σ', ((f_X3_fails σ x1 x2 x3).bind fun q29 => if nzb q29.1 = true then some (q29.1, q29.2) else none) = some (0, σ') ∧ exC σ σ' ∧ σ'.2 = σ.2 := by
  unfold f_X3_fails
  rw [Option.bind_some, if_pos (show nzb 0 = true from rfl)]
  exact ⟨_, rfl, ((exC.si (by decide)).tr (exC.si (by decide))).tr (exC.si (by decide)), rfl⟩
theorem SDc_at {σ : SD} {a : Nat} {g : Nat → Int32} : (SDc σ a g).2.2.1 a = g := if_pos rfl
theorem SDc_ne {σ : SD} {a b : Nat} {g : Nat → Int32} (h : b ≠ a) : (SDc σ a g).2.2.1 b = σ.2.2.1 b := if_neg h
theorem arr_app {g : Nat → Int32} {cs : List Nat} {a : Nat} (h : ∀ i, i < cs.length → g i = nI (cs.getD i 0)) : ∀ i, i < (cs ++ [a]).length → upd g cs.length (nI a) i = nI ((cs ++ [a]).getD i 0) := by
  intro i hi
  rw [List.length_append, List.length_singleton] at hi
  rw [List.getD_eq_getElem?_getD]
  by_cases c : i < cs.length
  · rw [pk_un (by omega), List.getElem?_append_left c, ← List.getD_eq_getElem?_getD]; exact h i c
  · obtain rfl : i = cs.length := by omega
    rw [pk_us, List.getElem?_append_right (Nat.le_refl _), Nat.sub_self]
    rfl
theorem d_cenPass {xs : List Int32} (hb : ∀ x ∈ xs, byteP x) {e N : Nat} (he : e ≤ xs.length) (hN : N ≤ 20) (h9 : xs.length ≤ 9000) : ∀ (m a n : Nat) (σ : SD) (cs : List Nat), cs.length + m = N → m < n → a ≤ 9000 → rowD σ 1 xs → σ.1 6 0 = nI N → σ.1 8 0 = nI e → arr σ 25 cs → (∀ c ∈ cs, cenK xs e c = true) → ∃ σ', f_X3_centralsPass_7 1 n σ (nI a) (nI cs.length) = some (b2i (cenF xs e m a cs).isSome, σ') ∧ exC σ σ' ∧ ∀ L, cenF xs e m a cs = some L → arr σ' 25 L := by
  have hcap : capD 25 = 20 := rfl
  intro m
  induction m with
  | zero =>
    intro a n σ cs hm hn ha h h6 h8 hA hc
    obtain ⟨i, rfl⟩ : ∃ i, n = i + 1 := ⟨n - 1, by omega⟩
    refine ⟨σ, ?_, exC.rf, fun L q => ?_⟩
    · rw [f_X3_centralsPass_7, h6, if_pos (nI_le (by omega) (by omega))]; rfl
    · rw [cenF] at q
      rw [← Option.some.inj q]; exact hA
  | succ m ih =>
    intro a n σ cs hm hn ha h h6 h8 hA hc
    obtain ⟨i, rfl⟩ : ∃ i, n = i + 1 := ⟨n - 1, by omega⟩
    obtain ⟨σ1, e1, x1, y1⟩ := d_cenStands h hb he hc ha (by omega) hA h8
    have Ln : cnN xs a < 65536 := num2_lt hb _
    have h61 : σ1.1 6 0 = nI N := by rw [x1.1 6 0 (by omega)]; exact h6
    have h81 : σ1.1 8 0 = nI e := by rw [x1.1 8 0 (by omega)]; exact h8
    have hW : f_X3_centralsPass_7 1 (i + 1) σ (nI a) (nI cs.length) = if b2i (cenK xs e a && !era xs cs a) = 0 then ((f_X3_fails σ1 2 (nI cs.length) (nI a)).bind fun q29 => if nzb q29.1 = true then some (q29.1, q29.2) else none) else (if nI cs.length = nI (N - 1) then (if nI a + 46 + σ1.1 14 0 = nI e then f_X3_centralsPass_74 1 (f_X3_centralsPass_7 1 i) σ1 (nI a) (nI cs.length) (nI a + 46 + σ1.1 14 0) else ((f_X3_fails σ1 2 (nI cs.length) (nI a)).bind fun q29 => if nzb q29.1 = true then some (q29.1, q29.2) else none)) else f_X3_centralsPass_74 1 (f_X3_centralsPass_7 1 i) σ1 (nI a) (nI cs.length) (nI a + 46 + σ1.1 14 0)) := by
      rw [f_X3_centralsPass_7, h6, if_neg (nI_ge (by omega) (by omega)), e1, Option.bind_some]
      show (if b2i (cenK xs e a && !era xs cs a) = 0 then _ else (if nI cs.length = σ1.1 6 0 - 1 then (if nI a + 46 + σ1.1 14 0 = σ1.1 8 0 then _ else _) else _)) = _
      rw [h61, h81, show (1 : Int32) = nI 1 from rfl, pk_sub (by omega)]
    obtain ⟨σf, ef, xf, -⟩ := d_fails σ1 2 (nI cs.length) (nI a)
    rw [hW, ef, cenF]
    have bad : ¬ (cenK xs e a = true ∧ era xs cs a = false ∧ (m = 0 → a + 46 + cnN xs a = e)) → ∃ σ', some ((0 : Int32), σf) = some (b2i (if cenK xs e a = true ∧ era xs cs a = false ∧ (m = 0 → a + 46 + cnN xs a = e) then cenF xs e m (a + 46 + cnN xs a) (cs ++ [a]) else none).isSome, σ') ∧ exC σ σ' ∧ ∀ L, (if cenK xs e a = true ∧ era xs cs a = false ∧ (m = 0 → a + 46 + cnN xs a = e) then cenF xs e m (a + 46 + cnN xs a) (cs ++ [a]) else none) = some L → arr σ' 25 L := by
      intro q
      rw [if_neg q]
      exact ⟨σf, rfl, x1.c.tr xf, fun L z => absurd z (by simp)⟩
    by_cases c1 : (cenK xs e a && !era xs cs a) = true
    case neg =>
      have c1' : (cenK xs e a && !era xs cs a) = false := by simpa using c1
      rw [c1', if_pos (show b2i false = 0 from rfl)]
      exact bad (fun q => c1 (by rw [q.1, q.2.1]; rfl))
    rw [Bool.and_eq_true] at c1
    have c12 : era xs cs a = false := by simpa using c1.2
    have hns := y1 c1.1
    have hle := (cenK_t c1.1).2.2.2.2.2.2.2.1
    rw [c1.1, c12, if_neg (show ¬ b2i (true && !false) = 0 by decide), hns, show (46 : Int32) = nI 46 from rfl, nI_add, nI_add]
    have ok : (m = 0 → a + 46 + cnN xs a = e) → ∃ σ', f_X3_centralsPass_74 1 (f_X3_centralsPass_7 1 i) σ1 (nI a) (nI cs.length) (nI (a + 46 + cnN xs a)) = some (b2i (if True ∧ True ∧ (m = 0 → a + 46 + cnN xs a = e) then cenF xs e m (a + 46 + cnN xs a) (cs ++ [a]) else none).isSome, σ') ∧ exC σ σ' ∧ ∀ L, (if True ∧ True ∧ (m = 0 → a + 46 + cnN xs a = e) then cenF xs e m (a + 46 + cnN xs a) (cs ++ [a]) else none) = some L → arr σ' 25 L := by
      intro q
      rw [if_pos ⟨trivial, trivial, q⟩]
      have x2 : exC σ1 (SDc σ1 25 (upd (σ1.2.2.1 25) cs.length (nI a))) := exC.sc (by decide)
      have hA1 : ∀ i, i < cs.length → σ1.2.2.1 25 i = nI (cs.getD i 0) := fun i hi => by rw [x1.2]; exact hA i hi
      obtain ⟨σ3, e3, x3, y3⟩ := ih (a + 46 + cnN xs a) i (SDc σ1 25 (upd (σ1.2.2.1 25) cs.length (nI a))) (cs ++ [a]) (by rw [List.length_append, List.length_singleton]; omega) (by omega) (by omega) ((h.exH x1).exC x2 (by decide)) (by exact h61) (by exact h81) (fun i hi => by rw [SDc_at]; exact arr_app hA1 i hi) (fun c hcc => by
        rcases List.mem_append.mp hcc with z | z
        · exact hc c z
        · rw [List.mem_singleton] at z; rw [z]; exact c1.1)
      rw [List.length_append, List.length_singleton] at e3
      refine ⟨σ3, ?_, (x1.c.tr x2).tr x3, y3⟩
      unfold f_X3_centralsPass_74
      rw [if_pos (inb_t (by omega) (by omega)), nI_clamp (by omega), nI_1, e3]
    simp only [c1.1, c12] at bad
    by_cases c2 : m = 0
    · rw [if_pos (by rw [show cs.length = N - 1 by omega])]
      by_cases c3 : a + 46 + cnN xs a = e
      · rw [if_pos (by rw [c3])]
        have := ok (fun _ => c3)
        simpa using this
      · rw [if_neg (fun q => c3 ((nI_eq (by omega) (by omega)).mp q))]
        have := bad (fun q => c3 (q.2.2 c2))
        simpa using this
    · rw [if_neg (fun q => by have := (nI_eq (by omega) (by omega)).mp q; omega)]
      have := ok (fun q => absurd q c2)
      simpa using this
