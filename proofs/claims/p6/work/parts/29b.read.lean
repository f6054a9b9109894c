/-! ===== PURE: the desk's read: end, centrals ===== -/
/-- only the reader's own numbers changed -/
def exI (σ σ' : SD) : Prop := (∀ f i, f < 6 → σ'.1 f i = σ.1 f i) ∧ σ'.2 = σ.2
theorem exI.d {σ σ' : SD} (h : exI σ σ') : exD σ σ' := ⟨fun f i n _ => h.1 f i (by omega), fun a _ _ => by rw [h.2], by rw [h.2]⟩
theorem exI.tr {σ1 σ2 σ3 : SD} (h : exI σ1 σ2) (g : exI σ2 σ3) : exI σ1 σ3 := ⟨fun f i n => (g.1 f i n).trans (h.1 f i n), g.2.trans h.2⟩
theorem exI.si {σ : SD} {f i : Nat} {v : Int32} (hf : 6 ≤ f) : exI σ (SDi σ f i v) := ⟨fun g j n => SDi_n (by omega), rfl⟩
theorem rowD.exI {σ σ' : SD} {q : Nat} {xs : List Int32} (h : rowD σ q xs) (e : exI σ σ') : rowD σ' q xs := ⟨(e.1 0 q (by decide)).trans h.1, h.2.1, fun i hi => by rw [e.2]; exact h.2.2 i hi⟩
theorem d_endStands {σ : SD} {xs : List Int32} (h : rowD σ 1 xs) (hb : ∀ x ∈ xs, byteP x) (hl : 22 ≤ xs.length) : ∃ σ', f_X3_endStands σ 1 (nI (eoE xs)) = some (b2i (eoK xs), σ') ∧ exI σ σ' ∧ σ'.1 8 0 = σ.1 8 0 ∧ (eoK xs = true → σ'.1 6 0 = nI (eoN xs) ∧ σ'.1 7 0 = nI (eoF xs)) := by
  have h9 := h.le
  have L := num2_lt hb
  have L4 := num4_lt hb
  have hE : eoE xs + 22 = xs.length := by unfold eoE; omega
  generalize hee : eoE xs = e at hE
  have e0 : ∀ j, j + 2 ≤ xs.length → f_X4_two σ 1 (nI j) = some (nI (num2 xs j), σ) := fun j hj => by rw [r_two h hb (by omega), if_pos hj]
  have e4 : ∀ j, j + 4 ≤ xs.length → f_X4_four σ 1 (nI j) = some (lN (num4 xs j), σ) := fun j hj => by rw [r_four h hb (by omega), if_pos hj]
  have hK : eoK xs = (sigAt xs e 5 6 && decide (num2 xs (e + 4) = 0 ∧ num2 xs (e + 6) = 0 ∧ num2 xs (e + 20) = 0 ∧ eoN xs ≤ 20 ∧ eoN xs = num2 xs (e + 10) ∧ eoF xs + num4 xs (e + 12) = e ∧ (0 < eoN xs ∨ e = 0))) := by
    unfold eoK
    rw [hee, decide_eq_true hl, Bool.true_and]
  have hN : num2 xs (e + 8) = eoN xs := by unfold eoN; rw [hee]
  have hF : num4 xs (e + 16) = eoF xs := by unfold eoF; rw [hee]
  have LN : eoN xs < 65536 := by rw [← hN]; exact L _
  have LF : eoF xs < 4294967296 := by rw [← hF]; exact L4 _
  have fin : ∀ P : Prop, (eoK xs = true → P) → ¬ P → f_X3_endStands σ 1 (nI e) = some (0, σ) → ∃ σ', f_X3_endStands σ 1 (nI e) = some (b2i (eoK xs), σ') ∧ exI σ σ' ∧ σ'.1 8 0 = σ.1 8 0 ∧ (eoK xs = true → σ'.1 6 0 = nI (eoN xs) ∧ σ'.1 7 0 = nI (eoF xs)) := by
    intro P q1 q2 q3
    have : eoK xs = false := by
      cases hh : eoK xs
      · rfl
      · exact absurd (q1 hh) q2
    rw [this]
    exact ⟨σ, q3, ⟨fun _ _ _ => rfl, rfl⟩, rfl, fun q => absurd q (by decide)⟩
  have hD : eoK xs = true → num2 xs (e + 4) = 0 ∧ num2 xs (e + 6) = 0 ∧ num2 xs (e + 20) = 0 ∧ eoN xs ≤ 20 ∧ eoN xs = num2 xs (e + 10) ∧ eoF xs + num4 xs (e + 12) = e ∧ (0 < eoN xs ∨ e = 0) := fun q => by
    rw [hK, Bool.and_eq_true] at q
    exact of_decide_eq_true q.2
  have k4 : nI e + 4 = nI (e + 4) := nI_add e 4
  have k6 : nI e + 6 = nI (e + 6) := nI_add e 6
  have k8 : nI e + 8 = nI (e + 8) := nI_add e 8
  have k10 : nI e + 10 = nI (e + 10) := nI_add e 10
  have k12 : nI e + 12 = nI (e + 12) := nI_add e 12
  have k16 : nI e + 16 = nI (e + 16) := nI_add e 16
  have k20 : nI e + 20 = nI (e + 20) := nI_add e 20
  have z0 : ∀ j, nI (num2 xs j) = 0 ↔ num2 xs j = 0 := fun j => nI_eq (b := 0) (by have := L j; omega) (by decide)
  have hh : f_X4_holds σ 1 (nI e) 22 = some (1, σ) := by
    rw [r_holds h, show (22 : Int32) = nI 22 from rfl, hb_n (by omega) (by decide), decide_eq_true (by omega), if_pos rfl]
  have hW := f_X3_endStands.eq_1 σ 1 (nI e)
  rw [hh, Option.bind_some, if_neg (show ¬ (1 : Int32) = 0 by decide), r_sig h, Option.bind_some] at hW
  by_cases c1 : sigAt xs e 5 6 = true
  case neg =>
    have c1' : sigAt xs e 5 6 = false := by simpa using c1
    rw [c1', if_pos (show b2i false = 0 from rfl)] at hW
    exact fin (sigAt xs e 5 6 = true) (fun q => by rw [hK, Bool.and_eq_true] at q; exact q.1) c1 hW
  rw [c1, if_neg (show ¬ b2i true = 0 by decide), k4, e0 _ (by omega), Option.bind_some] at hW
  by_cases c2 : num2 xs (e + 4) = 0
  case neg =>
    rw [if_neg (fun q => c2 ((z0 _).mp q))] at hW
    exact fin _ (fun q => (hD q).1) c2 hW
  rw [if_pos ((z0 _).mpr c2), k6, e0 _ (by omega), Option.bind_some] at hW
  by_cases c3 : num2 xs (e + 6) = 0
  case neg =>
    rw [if_neg (fun q => c3 ((z0 _).mp q))] at hW
    exact fin _ (fun q => (hD q).2.1) c3 hW
  rw [if_pos ((z0 _).mpr c3), k20, e0 _ (by omega), Option.bind_some] at hW
  by_cases c4 : num2 xs (e + 20) = 0
  case neg =>
    rw [if_neg (fun q => c4 ((z0 _).mp q))] at hW
    exact fin _ (fun q => (hD q).2.2.1) c4 hW
  have L12 := L4 (e + 12)
  have L10 := L (e + 10)
  rw [if_pos ((z0 _).mpr c4), k8, e0 _ (by omega), Option.bind_some, k12, e4 _ (by omega), Option.bind_some, k16, e4 _ (by omega), Option.bind_some, hN, hF] at hW
  by_cases c5 : eoN xs ≤ 20
  case neg =>
    rw [if_pos (show (20 : Int32) < nI (eoN xs) from nI_lt (a := 20) (by omega) (by omega))] at hW
    exact fin _ (fun q => (hD q).2.2.2.1) c5 hW
  rw [if_neg (show ¬ (20 : Int32) < nI (eoN xs) from nI_nlt (a := 20) (by omega) (by decide)), k10, e0 _ (by omega), Option.bind_some] at hW
  by_cases c6 : eoN xs = num2 xs (e + 10)
  case neg =>
    rw [if_neg (fun q => c6 ((nI_eq (by omega) (by omega)).mp q))] at hW
    exact fin _ (fun q => (hD q).2.2.2.2.1) c6 hW
  have ee : lg_cmp (lN (eoF xs) + lN (num4 xs (e + 12))) ((nI e).toInt64) = 0 ↔ eoF xs + num4 xs (e + 12) = e := by
    rw [lN_add, nI_l (by omega), lg_cmp_eq, pk_lEQ (by omega) (by omega)]
  rw [if_pos (by rw [c6])] at hW
  by_cases c7 : eoF xs + num4 xs (e + 12) = e
  case neg =>
    rw [if_neg (fun q => c7 (ee.mp q))] at hW
    exact fin _ (fun q => (hD q).2.2.2.2.2.1) c7 hW
  rw [if_pos (ee.mpr c7), lN_i] at hW
  have X : exI σ (SDi (SDi σ 6 0 (nI (eoN xs))) 7 0 (nI (eoF xs))) := (exI.si (by decide)).tr (exI.si (by decide))
  by_cases c8 : 0 < eoN xs
  · have hk : eoK xs = true := by rw [hK, c1, decide_eq_true ⟨c2, c3, c4, c5, c6, c7, Or.inl c8⟩]; rfl
    rw [if_pos (show (0 : Int32) < nI (eoN xs) from nI_lt (a := 0) c8 (by omega))] at hW
    exact ⟨_, by rw [hk]; exact hW, X, rfl, fun _ => ⟨rfl, rfl⟩⟩
  · rw [if_neg (show ¬ (0 : Int32) < nI (eoN xs) from nI_nlt (a := 0) (by omega) (by decide))] at hW
    by_cases c9 : e = 0
    · have hk : eoK xs = true := by rw [hK, c1, decide_eq_true ⟨c2, c3, c4, c5, c6, c7, Or.inr c9⟩]; rfl
      rw [if_pos (by rw [c9]; rfl)] at hW
      exact ⟨_, by rw [hk]; exact hW, X, rfl, fun _ => ⟨rfl, rfl⟩⟩
    · have hk : eoK xs = false := by rw [hK, c1, decide_eq_false (fun q => q.2.2.2.2.2.2.elim c8 c9)]; rfl
      rw [if_neg (show ¬ nI e = 0 from fun q => c9 ((nI_eq (b := 0) (by omega) (by decide)).mp q))] at hW
      exact ⟨_, by rw [hk]; exact hW, X, rfl, fun q => by rw [hk] at q; exact absurd q (by decide)⟩
theorem d_endPasses {σ : SD} {xs : List Int32} (h : rowD σ 1 xs) (hb : ∀ x ∈ xs, byteP x) : ∃ σ', f_X3_endPasses σ 1 = some (b2i (eoK xs), σ') ∧ exI σ σ' ∧ (eoK xs = true → σ'.1 6 0 = nI (eoN xs) ∧ σ'.1 7 0 = nI (eoF xs) ∧ σ'.1 8 0 = nI (eoE xs)) := by
  have h9 := h.le
  unfold f_X3_endPasses f_X3_fails
  rw [r_size h, Option.bind_some]
  have hmx : (if (0 : Int32) < nI xs.length - 22 then nI xs.length - 22 else 0) = nI (eoE xs) := by
    unfold eoE
    by_cases c : 22 < xs.length
    · rw [show (22 : Int32) = nI 22 from rfl, pk_sub (by omega), if_pos (show (0 : Int32) < nI (xs.length - 22) from nI_lt (a := 0) (by omega) (by omega))]
    · rw [if_neg, show xs.length - 22 = 0 by omega]; rfl
      rw [Int32.lt_iff_toInt_lt, show (22 : Int32) = nI 22 from rfl, pk_sub_toInt (by omega) (by decide), Int32.toInt_zero]
      omega
  rw [hmx, SDi_g]
  have h1 : rowD (SDi σ 8 0 (nI (eoE xs))) 1 xs := h.si (by decide)
  by_cases c : 22 ≤ xs.length
  · obtain ⟨σ1, e1, x1, y1, z1⟩ := d_endStands h1 hb c
    rw [e1, Option.bind_some]
    by_cases k : eoK xs = true
    · rw [k, if_neg (show ¬ b2i true = 0 by decide)]
      exact ⟨σ1, rfl, (exI.si (by decide)).tr x1, fun _ => ⟨(z1 k).1, (z1 k).2, y1.trans rfl⟩⟩
    · have k' : eoK xs = false := by simpa using k
      rw [k', if_pos (show b2i false = 0 from rfl), Option.bind_some, if_pos (show (0 : Int32) = 0 from rfl)]
      exact ⟨_, rfl, (((exI.si (by decide)).tr x1).tr (exI.si (by decide))).tr ((exI.si (by decide)).tr (exI.si (by decide))), fun q => absurd q (by decide)⟩
  · have hh : f_X4_holds (SDi σ 8 0 (nI (eoE xs))) 1 (nI (eoE xs)) 22 = some (0, SDi σ 8 0 (nI (eoE xs))) := by
      rw [r_holds h1, show (22 : Int32) = nI 22 from rfl, hb_n (by unfold eoE; omega) (by decide), decide_eq_false (by omega)]
      rfl
    have k' : eoK xs = false := by unfold eoK; rw [decide_eq_false c, Bool.false_and]
    have e1 : f_X3_endStands (SDi σ 8 0 (nI (eoE xs))) 1 (nI (eoE xs)) = some (0, SDi σ 8 0 (nI (eoE xs))) := by
      unfold f_X3_endStands
      rw [hh, Option.bind_some, if_pos (show (0 : Int32) = 0 from rfl)]
    rw [e1, k', Option.bind_some, if_pos (show (0 : Int32) = 0 from rfl), Option.bind_some, if_pos (show (0 : Int32) = 0 from rfl)]
    exact ⟨_, rfl, ((exI.si (by decide)).tr (exI.si (by decide))).tr ((exI.si (by decide)).tr (exI.si (by decide))), fun q => absurd q (by decide)⟩
/-- the places of the centrals that the desk holds -/
def arr (σ : SD) (a : Nat) (cs : List Nat) : Prop := ∀ i, i < cs.length → σ.2.2.1 a i = nI (cs.getD i 0)
theorem gN {cs : List Nat} {i : Nat} (h : i < cs.length) : cs.getD i 0 ∈ cs := by
  rw [List.getD_eq_getElem?_getD, List.getElem?_eq_getElem h]
  exact List.getElem_mem h
theorem drN {cs : List Nat} {j : Nat} (h : j < cs.length) : cs.drop j = cs.getD j 0 :: cs.drop (j + 1) := by
  rw [List.drop_eq_getElem_cons h, List.getD_eq_getElem?_getD, List.getElem?_eq_getElem h]
  rfl
theorem d_era {σ : SD} {xs : List Int32} (h : rowD σ 1 xs) (hb : ∀ x ∈ xs, byteP x) {a e : Nat} {cs : List Nat} (he : e ≤ xs.length) (hc : ∀ c ∈ cs, cenK xs e c = true) (ha : a + 46 + cnN xs a ≤ xs.length) (hn : cs.length ≤ 20) (hA : arr σ 25 cs) (hN : σ.1 14 0 = nI (cnN xs a)) : ∀ (m j n : Nat), j + m = cs.length → m < n → f_X3_isEarlierName_3 1 (nI (a + 46)) (nI cs.length) n σ (nI j) = some (b2i (era xs (cs.drop j) a), σ) := by
  have h9 := h.le
  have hcap : capD 25 = 20 := rfl
  have Ln : cnN xs a < 65536 := num2_lt hb _
  intro m
  induction m with
  | zero =>
    intro j n hj hn2
    obtain ⟨i, rfl⟩ : ∃ i, n = i + 1 := ⟨n - 1, by omega⟩
    rw [f_X3_isEarlierName_3, if_pos (nI_le (by omega) (by omega)), List.drop_of_length_le (by omega)]
    rfl
  | succ m ih =>
    intro j n hj hn2
    obtain ⟨i, rfl⟩ : ∃ i, n = i + 1 := ⟨n - 1, by omega⟩
    have hcj := hc _ (gN (show j < cs.length by omega))
    have hcb := (cenK_t hcj).2.2.2.2.2.2.2.1
    generalize hcc : cs.getD j 0 = c at hcj hcb
    have Lc : cnN xs c < 65536 := num2_lt hb _
    rw [f_X3_isEarlierName_3, if_neg (nI_ge (by omega) (by omega)), if_pos (inb_t (by omega) (by omega)), nI_clamp (by omega), hA j (by omega), hcc, show (6 : Int32) = nI 6 from rfl, show (22 : Int32) = nI 22 from rfl, show (46 : Int32) = nI 46 from rfl, nI_add, nI_add, nI_add, r_two h hb (by omega), Option.bind_some, if_pos (show c + 6 + 22 + 2 ≤ xs.length by omega), hN, drN (show j < cs.length by omega), hcc]
    unfold f_X3_isEarlierName_63
    rw [nI_1, ih (j + 1) i (by omega) (by omega), show num2 xs (c + 6 + 22) = cnN xs c by unfold cnN; rw [show c + 6 + 22 = c + 28 by omega]]
    have eR : era xs (c :: cs.drop (j + 1)) a = (decide (cnN xs c = cnN xs a ∧ sl xs (c + 46) (cnN xs a) = sl xs (a + 46) (cnN xs a)) || era xs (cs.drop (j + 1)) a) := by
      unfold era
      rw [List.any_cons]
    rw [eR]
    by_cases c1 : cnN xs c = cnN xs a
    · rw [if_pos (by rw [c1]), r_agrees h h (by omega) (by omega) (by omega), Option.bind_some]
      by_cases c2 : sl xs (c + 46) (cnN xs a) = sl xs (a + 46) (cnN xs a)
      · rw [decide_eq_true ⟨by omega, by omega, c2⟩, if_neg (show ¬ b2i true = 0 by decide), decide_eq_true ⟨c1, c2⟩, Bool.true_or]
        rfl
      · rw [decide_eq_false (fun q => c2 q.2.2), if_pos (show b2i false = 0 from rfl), decide_eq_false (fun q => c2 q.2), Bool.false_or]
        exact ih (j + 1) i (by omega) (by omega)
    · rw [if_neg (fun q => c1 ((nI_eq (by omega) (by omega)).mp q)), decide_eq_false (fun q => c1 q.1), Bool.false_or]
