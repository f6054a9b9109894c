/-! ===== PURE: the desk's read: locals, contents ===== -/
theorem r_agr {σ : SD} {xs : List Int32} (h : rowD σ 1 xs) {a b k : Nat} (ha : a < 2 ^ 30) (hb' : b < 2 ^ 30) (hk : k < 2 ^ 30) : f_X4_agrees σ 1 (nI a) 1 (nI b) (nI k) = some (b2i (decide (a + k ≤ xs.length ∧ b + k ≤ xs.length ∧ sl xs a k = sl xs b k)), σ) := r_agrees h h ha hb' hk
theorem d_locStands {σ : SD} {xs : List Int32} (h : rowD σ 1 xs) (hb : ∀ x ∈ xs, byteP x) {t c e first : Nat} (he : e ≤ xs.length) (hc : cenK xs e c = true) (ht : t ≤ 9000) (hf : first ≤ 9000) (h7 : σ.1 7 0 = nI first) : ∃ σ', f_X3_localStands σ 1 (nI t) (nI c) = some (b2i (locK xs first t c), σ') ∧ exH σ σ' ∧ hdr σ' xs (c + 6) := by
  have h9 := h.le
  obtain ⟨-, -, k3, -, -, -, -, k8, k9⟩ := cenK_t hc
  obtain ⟨σ1, e1, x1, H1⟩ := d_parse h hb (a := c + 6) (by omega)
  have H := H1 k3
  have h1 : rowD σ1 1 xs := h.exH x1
  have hns : σ1.1 14 0 = nI (cnN xs c) := by rw [H.2.2.2.2]; unfold cnN; rw [show c + 6 + 22 = c + 28 by omega]
  have hpk : σ1.2.1 0 = lN (lcP xs c) := by rw [H.2.2.1]; unfold lcP; rw [show c + 6 + 14 = c + 20 by omega]
  have Ln : cnN xs c < 65536 := num2_lt hb _
  have Lp : lcP xs c < 4294967296 := num4_lt hb _
  have n6 : nI c + 6 = nI (c + 6) := nI_add c 6
  have n42 : nI c + 42 = nI (c + 42) := nI_add c 42
  have n46 : nI c + 46 = nI (c + 46) := nI_add c 46
  have m4 : nI t + 4 = nI (t + 4) := nI_add t 4
  have m30 : nI t + 30 = nI (t + 30) := nI_add t 30
  refine ⟨σ1, ?_, x1, H⟩
  unfold f_X3_localStands
  rw [n6, e1, k3, Option.bind_some, if_neg (show ¬ b2i true = 0 by decide), n42, r_four h1 hb (by omega), Option.bind_some, nI_l (by omega)]
  have no : ∀ P : Prop, (locK xs first t c = true → P) → ¬ P → locK xs first t c = false := fun P q1 q2 => by
    cases hh : locK xs first t c
    · rfl
    · exact absurd (q1 hh) q2
  have w4 := t4_iff hb (j := c + 42) (v := t) (by omega)
  by_cases c1 : t4 xs (c + 42) t = true
  case neg =>
    rw [if_neg (fun q => c1 (w4.mp q)), no _ (fun q => (locK_t q).1) c1]; rfl
  rw [if_pos (w4.mpr c1), r_sig h1, Option.bind_some]
  by_cases c2 : sigAt xs t 3 4 = true
  case neg =>
    have c2' : sigAt xs t 3 4 = false := by simpa using c2
    rw [c2', if_pos (show b2i false = 0 from rfl), no _ (fun q => (locK_t q).2.1) c2]; rfl
  rw [c2, if_neg (show ¬ b2i true = 0 by decide), m4, show (26 : Int32) = nI 26 from rfl, r_agr h1 (by omega) (by omega) (by decide), Option.bind_some]
  by_cases c3 : t + 4 + 26 ≤ xs.length ∧ c + 6 + 26 ≤ xs.length ∧ sl xs (t + 4) 26 = sl xs (c + 6) 26
  case neg =>
    rw [decide_eq_false c3, if_pos (show b2i false = 0 from rfl), no _ (fun q => (locK_t q).2.2.1) c3]; rfl
  rw [decide_eq_true c3, if_neg (show ¬ b2i true = 0 by decide), m30, n46, hns, r_agr h1 (by omega) (by omega) (by omega), Option.bind_some]
  by_cases c4 : t + 30 + cnN xs c ≤ xs.length ∧ c + 46 + cnN xs c ≤ xs.length ∧ sl xs (t + 30) (cnN xs c) = sl xs (c + 46) (cnN xs c)
  case neg =>
    rw [decide_eq_false c4, if_pos (show b2i false = 0 from rfl), no _ (fun q => (locK_t q).2.2.2.1) c4]; rfl
  rw [decide_eq_true c4, if_neg (show ¬ b2i true = 0 by decide), hns, hpk, nI_add, nI_l (by omega), lN_add, show σ1.1 7 0 = nI first by rw [x1.1 7 0 (by omega)]; exact h7, nI_l (by omega)]
  have ec : 0 < lg_cmp (lN (t + 30 + cnN xs c + lcP xs c)) (lN first) ↔ ¬ t + 30 + cnN xs c + lcP xs c ≤ first := by
    rw [lg_cmp_gt, pk_lLT (by omega) (by omega)]
    omega
  by_cases c5 : t + 30 + cnN xs c + lcP xs c ≤ first
  case neg =>
    rw [if_pos (ec.mpr c5), no _ (fun q => (locK_t q).2.2.2.2) c5]; rfl
  rw [if_neg (fun q => ec.mp q c5)]
  have hK : locK xs first t c = true := by
    unfold locK
    rw [c1, c2, decide_eq_true c3, decide_eq_true c4, decide_eq_true c5]; rfl
  rw [hK]; rfl
theorem d_locPass {xs : List Int32} (hb : ∀ x ∈ xs, byteP x) {e first : Nat} (he : e ≤ xs.length) (hf : first ≤ 9000) (h9 : xs.length ≤ 9000) {L : List Nat} (hL : L.length ≤ 20) (hc : ∀ c ∈ L, cenK xs e c = true) : ∀ (m k t n : Nat) (σ : SD), k + m = L.length → m < n → t ≤ 9000 → rowD σ 1 xs → σ.1 6 0 = nI L.length → σ.1 7 0 = nI first → arr σ 25 L → ∃ σ', f_X3_localsPass_4 1 n σ (nI t) (nI k) = some (b2i (locF xs first (L.drop k) t).isSome, σ') ∧ exC σ σ' ∧ σ'.2.2.1 25 = σ.2.2.1 25 ∧ (∀ i, i < k → σ'.2.2.1 26 i = σ.2.2.1 26 i) ∧ ∀ P, locF xs first (L.drop k) t = some P → ∀ i, i < P.length → σ'.2.2.1 26 (k + i) = nI (P.getD i 0) := by
  have c25 : capD 25 = 20 := rfl
  have c26 : capD 26 = 20 := rfl
  intro m
  induction m with
  | zero =>
    intro k t n σ hm hn ht h h6 h7 hA
    obtain ⟨i, rfl⟩ : ∃ i, n = i + 1 := ⟨n - 1, by omega⟩
    refine ⟨σ, ?_, exC.rf, rfl, fun _ _ => rfl, fun P q => ?_⟩
    · rw [f_X3_localsPass_4, h6, if_pos (nI_le (by omega) (by omega)), List.drop_of_length_le (by omega)]; rfl
    · rw [List.drop_of_length_le (by omega), locF] at q
      rw [← Option.some.inj q]
      intro i hi; exact absurd hi (Nat.not_lt_zero i)
  | succ m ih =>
    intro k t n σ hm hn ht h h6 h7 hA
    obtain ⟨i, rfl⟩ : ∃ i, n = i + 1 := ⟨n - 1, by omega⟩
    have hck := hc _ (gN (show k < L.length by omega))
    have hAk := hA k (by omega)
    have hdr2 := drN (show k < L.length by omega)
    generalize hcc : L.getD k 0 = c at hck hAk hdr2
    obtain ⟨σ1, e1, x1, H⟩ := d_locStands h hb he hck ht hf h7
    have hns : σ1.1 14 0 = nI (cnN xs c) := by rw [H.2.2.2.2]; unfold cnN; rw [show c + 6 + 22 = c + 28 by omega]
    have hpk : σ1.2.1 0 = lN (lcP xs c) := by rw [H.2.2.1]; unfold lcP; rw [show c + 6 + 14 = c + 20 by omega]
    have Ln : cnN xs c < 65536 := num2_lt hb _
    have h61 : σ1.1 6 0 = nI L.length := by rw [x1.1 6 0 (by omega)]; exact h6
    have h71 : σ1.1 7 0 = nI first := by rw [x1.1 7 0 (by omega)]; exact h7
    rw [hdr2, locF, f_X3_localsPass_4, h6, if_neg (nI_ge (by omega) (by omega)), if_pos (inb_t (by omega) (by omega)), nI_clamp (by omega), hAk, e1, Option.bind_some]
    have hdl : (L.drop (k + 1)).length = m := by rw [List.length_drop]; omega
    by_cases c1 : locK xs first t c = true
    case neg =>
      have c1' : locK xs first t c = false := by simpa using c1
      obtain ⟨σf, ef, xf, yf⟩ := d_fails σ1 3 (nI k) (nI t)
      rw [c1', if_pos (show b2i false = 0 from rfl), ef, if_neg (fun q => absurd q.1 (by decide))]
      exact ⟨σf, rfl, x1.c.tr xf, by rw [yf, x1.2], fun j _ => by rw [yf, x1.2], fun P q => absurd q (by simp)⟩
    have hle := (locK_t c1).2.2.2.2
    have m30 : nI t + 30 = nI (t + 30) := nI_add t 30
    rw [c1, if_neg (show ¬ b2i true = 0 by decide), if_pos (inb_t (by omega) (by omega)), if_pos (inb_t (by omega) (by omega)), hns, m30, nI_add]
    unfold f_X3_packedSize
    rw [Option.bind_some, show (SDc σ1 26 (upd (σ1.2.2.1 26) k (nI (t + 30 + cnN xs c)))).2.1 0 = lN (lcP xs c) from hpk, lN_i, SDc_at, pk_us, nI_add, show (SDc σ1 26 (upd (σ1.2.2.1 26) k (nI (t + 30 + cnN xs c)))).1 6 0 = nI L.length from h61, show (SDc σ1 26 (upd (σ1.2.2.1 26) k (nI (t + 30 + cnN xs c)))).1 7 0 = nI first from h71, show (1 : Int32) = nI 1 from rfl, pk_sub (by omega), hdl]
    have x2 : exC σ1 (SDc σ1 26 (upd (σ1.2.2.1 26) k (nI (t + 30 + cnN xs c)))) := exC.sc (by decide)
    have ok : (m = 0 → t + 30 + cnN xs c + lcP xs c = first) → ∃ σ', f_X3_localsPass_93 1 (f_X3_localsPass_4 1 i) (SDc σ1 26 (upd (σ1.2.2.1 26) k (nI (t + 30 + cnN xs c)))) (nI k) (nI (t + 30 + cnN xs c + lcP xs c)) = some (b2i ((locF xs first (L.drop (k + 1)) (t + 30 + cnN xs c + lcP xs c)).map ((t + 30 + cnN xs c) :: ·)).isSome, σ') ∧ exC σ σ' ∧ σ'.2.2.1 25 = σ.2.2.1 25 ∧ (∀ i, i < k → σ'.2.2.1 26 i = σ.2.2.1 26 i) ∧ ∀ P, (locF xs first (L.drop (k + 1)) (t + 30 + cnN xs c + lcP xs c)).map ((t + 30 + cnN xs c) :: ·) = some P → ∀ i, i < P.length → σ'.2.2.1 26 (k + i) = nI (P.getD i 0) := by
      intro q
      obtain ⟨σ3, e3, x3, y3, z3, w3⟩ := ih (k + 1) (t + 30 + cnN xs c + lcP xs c) i (SDc σ1 26 (upd (σ1.2.2.1 26) k (nI (t + 30 + cnN xs c)))) (by omega) (by omega) (by omega) ((h.exH x1).exC x2 (by decide)) h61 h71 (fun j hj => by rw [SDc_ne (by decide), x1.2]; exact hA j hj)
      refine ⟨σ3, ?_, (x1.c.tr x2).tr x3, ?_, fun j hj => ?_, fun P hP j hj => ?_⟩
      · unfold f_X3_localsPass_93
        rw [show nI k + 1 = nI (k + 1) from nI_1 k, e3, Option.isSome_map]
      · rw [y3, SDc_ne (by decide), x1.2]
      · rw [z3 j (by omega), SDc_at, pk_un (by omega), x1.2]
      · rw [Option.map_eq_some_iff] at hP
        obtain ⟨o, ho1, ho2⟩ := hP
        rw [← ho2] at hj ⊢
        cases j with
        | zero => rw [Nat.add_zero, z3 k (by omega), SDc_at, pk_us]; rfl
        | succ j =>
          rw [List.length_cons] at hj
          rw [show k + (j + 1) = k + 1 + j by omega, w3 o ho1 j (by omega)]
          rfl
    by_cases c2 : m = 0
    · rw [if_pos (by rw [show k = L.length - 1 by omega])]
      by_cases c3 : t + 30 + cnN xs c + lcP xs c = first
      · rw [if_pos (by rw [c3]), if_pos ⟨rfl, fun _ => c3⟩]
        exact ok (fun _ => c3)
      · obtain ⟨σf, ef, xf, yf⟩ := d_fails (SDc σ1 26 (upd (σ1.2.2.1 26) k (nI (t + 30 + cnN xs c)))) 3 (nI k) (nI t)
        rw [if_neg (fun q => c3 ((nI_eq (by omega) (by omega)).mp q)), if_neg (fun q => c3 (q.2 c2)), ef]
        refine ⟨σf, rfl, (x1.c.tr x2).tr xf, by rw [yf, SDc_ne (by decide), x1.2], fun j hj => by rw [yf, SDc_at, pk_un (by omega), x1.2], fun P q => absurd q (by simp)⟩
    · rw [if_neg (fun q => by have := (nI_eq (by omega) (by omega)).mp q; omega), if_pos ⟨rfl, fun q => absurd q c2⟩]
      exact ok (fun q => absurd q c2)
/-- but for the header, the row unpacked, and the fault: as it was -/
def exK (σ σ' : SD) : Prop := (∀ f i, f < 9 → ¬ (f = 0 ∧ i = 4) → σ'.1 f i = σ.1 f i) ∧ (∀ b, b ≠ 4 → σ'.2.2.1 b = σ.2.2.1 b) ∧ σ'.2.2.2 = σ.2.2.2
theorem exK.rf {σ : SD} : exK σ σ := ⟨fun _ _ _ _ => rfl, fun _ _ => rfl, rfl⟩
theorem exK.tr {σ1 σ2 σ3 : SD} (h : exK σ1 σ2) (g : exK σ2 σ3) : exK σ1 σ3 := ⟨fun f i n m => (g.1 f i n m).trans (h.1 f i n m), fun b n => (g.2.1 b n).trans (h.2.1 b n), g.2.2.trans h.2.2⟩
theorem exH.k {σ σ' : SD} (h : exH σ σ') : exK σ σ' := ⟨fun f i n _ => h.1 f i (by omega), fun b _ => by rw [h.2], by rw [h.2]⟩
theorem exR.k {σ σ' : SD} (h : exR σ σ' 4) : exK σ σ' := ⟨fun f i _ n => h.1 f i n, fun b n => h.2.2.1 b n, h.2.2.2⟩
theorem exK.d {σ σ' : SD} (h : exK σ σ') : exD σ σ' := ⟨fun f i n m => h.1 f i (by omega) m, fun a n _ => h.2.1 a n, h.2.2⟩
theorem exK.cf {σ σ' : SD} (h : exC σ σ') (g : σ'.2 = σ.2) : exK σ σ' := ⟨fun f i n _ => h.1 f i n, fun b _ => by rw [g], by rw [g]⟩
theorem rowD.exK {σ σ' : SD} {q : Nat} {xs : List Int32} (h : rowD σ q xs) (e : exK σ σ') (hq : q ≠ 4) : rowD σ' q xs := ⟨(e.1 0 q (by decide) (by omega)).trans h.1, h.2.1, fun i hi => by rw [e.2.1 q hq]; exact h.2.2 i hi⟩
theorem row_ex4 {σ σ' : SD} {xs : List Int32} (h : rowD σ 4 xs) (e : exC σ σ') (g : σ'.2 = σ.2) : rowD σ' 4 xs := ⟨(e.1 0 4 (by decide)).trans h.1, h.2.1, fun i hi => by rw [g]; exact h.2.2 i hi⟩
theorem zp {L P : List Nat} {k : Nat} (hl : P.length = L.length) (hk : k < L.length) : (L.zip P).drop k = (L.getD k 0, P.getD k 0) :: (L.zip P).drop (k + 1) := by
  rw [List.drop_eq_getElem_cons (by rw [List.length_zip]; omega), List.getElem_zip, List.getD_eq_getElem?_getD, List.getD_eq_getElem?_getD, List.getElem?_eq_getElem hk, List.getElem?_eq_getElem (by omega)]
  rfl
theorem d_conPass {xs : List Int32} (hb : ∀ x ∈ xs, byteP x) {e first : Nat} (he : e ≤ xs.length) (hf : first ≤ xs.length) (h9 : xs.length ≤ 9000) {L P : List Nat} (hL : L.length ≤ 20) (hl : P.length = L.length) (hc : ∀ c ∈ L, cenK xs e c = true) (hp : ∀ k, k < L.length → P.getD k 0 + lcP xs (L.getD k 0) ≤ first) : ∀ (m k s n : Nat) (σ : SD), k + m = L.length → m < n → s ≤ 6000 → rowD σ 1 xs → (∃ ys, rowD σ 4 ys) → σ.1 6 0 = nI L.length → arr σ 25 L → arr σ 26 P → ∃ σ', f_X3_contentsPass_5 1 n σ (lN s) (nI k) = some (b2i (conF xs ((L.zip P).drop k) s).isSome, σ') ∧ exK σ σ' ∧ ∃ ys, rowD σ' 4 ys := by
  have c25 : capD 25 = 20 := rfl
  have c26 : capD 26 = 20 := rfl
  intro m
  induction m with
  | zero =>
    intro k s n σ hm hn hs h hu h6 hA hP
    obtain ⟨i, rfl⟩ : ∃ i, n = i + 1 := ⟨n - 1, by omega⟩
    refine ⟨σ, ?_, exK.rf, hu⟩
    rw [f_X3_contentsPass_5, h6, if_pos (nI_le (by omega) (by omega)), List.drop_of_length_le (by rw [List.length_zip]; omega)]; rfl
  | succ m ih =>
    intro k s n σ hm hn hs h hu h6 hA hP
    obtain ⟨i, rfl⟩ : ∃ i, n = i + 1 := ⟨n - 1, by omega⟩
    have hck := hc _ (gN (show k < L.length by omega))
    have hAk := hA k (by omega)
    have hPk := hP k (by omega)
    have hpk := hp k (by omega)
    rw [zp hl (show k < L.length by omega)]
    generalize hcc : L.getD k 0 = c at hck hAk hpk
    generalize hdd : P.getD k 0 = d at hPk hpk
    obtain ⟨-, -, k3, -, -, -, -, k8, k9⟩ := cenK_t hck
    obtain ⟨σ1, e1, x1, H1⟩ := d_parse h hb (a := c + 6) (by omega)
    have H := H1 k3
    have h1 : rowD σ1 1 xs := h.exH x1
    have u1 : ∃ ys, rowD σ1 4 ys := hu.elim fun ys hy => ⟨ys, hy.exH x1⟩
    have hsz : σ1.2.1 1 = lN (num4 xs (c + 24)) := by rw [H.2.2.2.1, show c + 6 + 18 = c + 24 by omega]
    have L4 := num4_lt hb (c + 24)
    have hPk1 : σ1.2.2.1 26 k = nI d := by rw [x1.2]; exact hPk
    have n6 : nI c + 6 = nI (c + 6) := nI_add c 6
    have in26 : inb (nI k) (capD 26) = true := inb_t (by omega) (by omega)
    rw [conF, f_X3_contentsPass_5, h6, if_neg (nI_ge (by omega) (by omega)), if_pos (inb_t (by omega) (by omega)), nI_clamp (by omega), hAk, n6, e1, k3, Option.bind_some, if_neg (show ¬ b2i true = 0 by decide), d_sizesFit hb H, Option.bind_some]
    unfold f_X3_contentsPass_67
    have bad : ∀ (v : Int32) (σ2 : SD), exK σ σ2 → (∃ ys, rowD σ2 4 ys) → ∃ σ', ((f_X3_fails σ2 v (nI k) (nI d)).bind fun q78 => if nzb q78.1 = true then some (q78.1, q78.2) else none) = some (b2i (Option.isSome (none : Option FL)), σ') ∧ exK σ σ' ∧ ∃ ys, rowD σ' 4 ys := by
      intro v σ2 q1 q2
      obtain ⟨σf, ef, xf, yf⟩ := d_fails σ2 v (nI k) (nI d)
      exact ⟨σf, ef, q1.tr (exK.cf xf yf), q2.elim fun ys hy => ⟨ys, row_ex4 hy xf yf⟩⟩
    by_cases c1 : szOk xs (c + 6) = true
    case neg =>
      have c1' : szOk xs (c + 6) = false := by simpa using c1
      rw [c1', if_pos (show b2i false = 0 from rfl), if_pos in26, nI_clamp (by omega), hPk1, if_neg (show ¬ (false = true ∧ s + num4 xs (c + 24) ≤ 6000) from fun q => absurd q.1 (by decide))]
      exact bad 4 σ1 x1.k u1
    rw [c1, if_neg (show ¬ b2i true = 0 by decide), hsz, lN_add]
    have e6 : lg_cmp (lN (s + num4 xs (c + 24))) 6000 ≤ 0 ↔ s + num4 xs (c + 24) ≤ 6000 := by
      rw [lg_cmp_le, show (6000 : Int64) = lN 6000 from rfl, pk_lLE (by omega) (by decide)]
    by_cases c2 : s + num4 xs (c + 24) ≤ 6000
    case neg =>
      rw [if_neg (fun q => c2 (e6.mp q)), if_pos in26, nI_clamp (by omega), hPk1, if_neg (show ¬ (true = true ∧ s + num4 xs (c + 24) ≤ 6000) from fun q => c2 q.2)]
      exact bad 4 σ1 x1.k u1
    have hp2 : d + num4 xs (c + 6 + 14) ≤ xs.length := by
      rw [show c + 6 + 14 = c + 20 by omega]; unfold lcP at hpk; omega
    obtain ⟨σ2, e2, x2, u2, b2⟩ := d_unpack h1 hb u1 H c1 hp2
    have hPk2 : σ2.2.2.1 26 k = nI d := by rw [x2.2.2.1 26 (by decide)]; exact hPk1
    have X2 := x1.k.tr x2.k
    rw [if_pos (e6.mpr c2), if_pos in26, hPk1, if_pos (show true = true ∧ s + num4 xs (c + 24) ≤ 6000 from ⟨rfl, c2⟩), e2, Option.bind_some, hPk2]
    cases hu2 : upH xs (c + 6) d with
    | none =>
      rw [if_pos (show b2i (Option.isSome (none : Option (List Int32))) = 0 from rfl), if_pos in26]
      exact bad 5 σ2 X2 u2
    | some b =>
      have hrow := b2 b hu2
      have H2 : hdr σ2 xs (c + 6) := exR_hdr x2 H
      rw [if_neg (show ¬ b2i (Option.isSome (some b)) = 0 by show ¬ b2i true = 0; decide), d_crcAgrees hrow H2.2.1, Option.bind_some, show c + 6 + 10 = c + 16 by omega, hPk2, Option.bind_some]
      by_cases c3 : crcS b = nI (num4 xs (c + 16))
      case neg =>
        rw [decide_eq_false c3, if_pos (show b2i false = 0 from rfl), if_neg c3, if_pos in26]
        exact bad 6 σ2 X2 u2
      rw [decide_eq_true c3, if_neg (show ¬ b2i true = 0 by decide), if_pos c3, nI_1, Option.isSome_map]
      obtain ⟨σ3, e3, x3, u3⟩ := ih (k + 1) (s + num4 xs (c + 24)) i σ2 (by omega) (by omega) c2 (h1.ot x2 (by decide)) u2 (by rw [X2.1 6 0 (by decide) (by omega)]; exact h6) (fun j hj => by rw [X2.2.1 25 (by decide)]; exact hA j hj) (fun j hj => by rw [X2.2.1 26 (by decide)]; exact hP j hj)
      exact ⟨σ3, e3, X2.tr x3, u3⟩
