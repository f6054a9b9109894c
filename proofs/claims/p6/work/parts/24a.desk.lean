/-! ===== PURE: the desk: take, files looked at ===== -/
theorem take_eq (σ : SD) : f_X7_take σ = (f_X4_size σ 2).bind fun q4 => (f_X4_room q4.2 1).bind fun q11 => if q4.1 ≤ q11.1 then ((f_X4_size q11.2 2).bind fun q40 => (f_X4_append q40.2 1 2 0 q40.1).bind fun q43 => (f_X4_size q43 1).bind fun q50 => some (Sum.inl q50.1, q50.2)) else (some (Sum.inr 0, q11.2)) := rfl
theorem RD.wf {σ : SD} {rd tp ou : List Int32} {fs : FL} (h : RD pkS σ (rd, tp, ou, fs)) : wfF fs := h.1.2.2.2.1
theorem RD.b1 {σ : SD} {rd tp ou : List Int32} {fs : FL} (h : RD pkS σ (rd, tp, ou, fs)) : ∀ x ∈ tp, byteP x := h.1.2.2.2.2.2.1
theorem RD.t {σ : SD} {rd tp ou : List Int32} {fs : FL} (h : RD pkS σ (rd, tp, ou, fs)) : rowD σ 1 tp := h.2.2.1
theorem RD.o {σ : SD} {rd tp ou : List Int32} {fs : FL} (h : RD pkS σ (rd, tp, ou, fs)) : rowD σ 2 ou := h.2.2.2.1
theorem RD.fi {σ : SD} {rd tp ou : List Int32} {fs : FL} (h : RD pkS σ (rd, tp, ou, fs)) : filesD pkS σ fs := h.2.2.2.2.2
section DSK3
variable {σ : SD} {rd tp ou : List Int32} {fs : FL}
theorem d_take1 (h : RD pkS σ (rd, tp, ou, fs)) (c : tp.length + ou.length ≤ 9000) : ∃ σ', f_X7_take σ = some (Sum.inl (nI (tp.length + ou.length)), σ') ∧ RD pkS σ' (rd, tp ++ ou, ou, fs) := by
  have h9 := h.t.le
  have o9 := h.o.le
  have hcap : capD 1 = 9000 := rfl
  obtain ⟨σ1, e1, r1, x1⟩ := r_append h.t h.o (a := 0) (n := ou.length) (by omega) (by rw [hcap]; exact c)
  have h2 : RD pkS σ1 (rd, tp ++ ou, ou, fs) := h.tape x1 (by simpa using r1) (fun x hx => by
    rcases List.mem_append.mp hx with q | q
    · exact h.b1 x q
    · exact h.1.2.2.2.2.2.2 x q)
  refine ⟨σ1, ?_, h2⟩
  rw [take_eq, r_size h.o, Option.bind_some, r_room h.t, Option.bind_some, hcap, if_pos (nI_le (by omega) (by omega)), r_size h.o, Option.bind_some, show (0 : Int32) = nI 0 from rfl, e1, Option.bind_some, r_size h2.t, Option.bind_some, List.length_append]
theorem d_take2 (h : RD pkS σ (rd, tp, ou, fs)) (c : ¬ tp.length + ou.length ≤ 9000) : f_X7_take σ = some (Sum.inr 0, σ) := by
  have h9 := h.t.le
  have o9 := h.o.le
  have hcap : capD 1 = 9000 := rfl
  rw [take_eq, r_size h.o, Option.bind_some, r_room h.t, Option.bind_some, hcap, if_neg (nI_ge (by omega) (by omega))]
/-- entry e holds file f, its bytes from s on -/
def enD (σ : SD) (all : List Int32) (e : Nat) (f : List Int32 × List Int32) (s : Nat) : Prop := rowD σ (5 + e) f.1 ∧ σ.1 1 e = nI s ∧ σ.1 2 e = nI f.2.length ∧ σ.1 3 e = nI (pkS f.2) ∧ σ.1 4 e = crcS f.2 ∧ s + f.2.length ≤ all.length ∧ (all.drop s).take f.2.length = f.2
def djS (fs : FL) (st : Nat → Nat) : Prop := ∀ i j, i < fs.length → j < fs.length → i ≠ j → st i + (fby fs i).length ≤ st j ∨ st j + (fby fs j).length ≤ st i
theorem filesD_en : filesD pkS σ fs ↔ σ.1 5 0 = nI fs.length ∧ (∀ k, k < 20 → σ.2.2.2 k < 20) ∧ (∀ i j, i < 20 → j < 20 → σ.2.2.2 i = σ.2.2.2 j → i = j) ∧ (∀ e, e < 20 → ∃ xs, rowD σ (5 + e) xs) ∧ ∃ (all : List Int32) (st : Nat → Nat), rowD σ 3 all ∧ all.length = tot fs ∧ (∀ k, k < fs.length → enD σ all (σ.2.2.2 k) (fs.getD k ([], [])) (st k)) ∧ djS fs st := Iff.rfl
theorem d_entry (h : filesD pkS σ fs) (hw : wfF fs) (x : Int32) : f_X5_entry σ x = some (if isF fs.length x = true then some (σ.2.2.2 x.toInt.toNat) else none, σ) := by
  have h20 := hw.1
  unfold f_X5_entry
  rw [h.1]
  rcases i32_cases x with hx | ⟨a, ha, rfl⟩
  · rw [if_pos hx, isF_neg hx]; rfl
  · rw [if_neg (nI_pos ha), isF_n ha, nI_toInt ha, Int.toNat_natCast]
    by_cases c : a < fs.length
    · rw [if_neg (nI_ge c (by omega)), if_pos (inb_t (by omega) (by omega)), nI_clamp ha, if_pos (h.2.1 a (by omega)), decide_eq_true c]; rfl
    · rw [if_pos (nI_le (by omega) ha), decide_eq_false c]; rfl
theorem lk_l (h : filesD pkS σ fs) (hw : wfF fs) {r : Nat} {xs : List Int32} (hr : rowD σ r xs) {a k : Nat} (hk : a + k ≤ xs.length) : ∀ (m j n : Nat), j + m = fs.length → m < n → f_X5_lookUp_3 r (nI a) (nI k) n σ (nI j) = some (lkF fs ((xs.drop a).take k) m j, σ) := by
  have h20 := hw.1
  have h9 := hr.le
  obtain ⟨h1, h2, h3, h4, all, st, h5, h6, h7, h8⟩ := filesD_en.mp h
  intro m
  induction m with
  | zero =>
    intro j n hj hn
    obtain ⟨i, rfl⟩ : ∃ i, n = i + 1 := ⟨n - 1, by omega⟩
    rw [f_X5_lookUp_3, h1, if_pos (nI_le (by omega) (by omega)), lkF]
  | succ m ih =>
    intro j n hj hn
    obtain ⟨i, rfl⟩ : ∃ i, n = i + 1 := ⟨n - 1, by omega⟩
    have hen : rowD σ (5 + σ.2.2.2 j) (fnm fs j) := (h7 j (by omega)).1
    have hl9 := hen.le
    rw [f_X5_lookUp_3, h1, if_neg (nI_ge (by omega) (by omega)), if_pos (inb_t (by omega) (by omega)), nI_clamp (by omega), if_pos (h2 j (by omega)), r_size hen, Option.bind_some, lkF]
    unfold f_X5_lookUp_48
    rw [nI_1, ih (j + 1) i (by omega) (by omega)]
    by_cases c : (fnm fs j).length = k
    · rw [if_pos (by rw [c]), show (0 : Int32) = nI 0 from rfl, r_agrees hen hr (by decide) (by omega) (by omega), Option.bind_some]
      by_cases c2 : fnm fs j = (xs.drop a).take k
      · rw [if_pos c2, decide_eq_true ⟨by omega, hk, by rw [List.drop_zero, List.take_of_length_le (by omega)]; exact c2⟩, if_neg (show ¬ b2i true = nI 0 by decide)]
      · rw [if_neg c2, decide_eq_false (fun q => c2 (by have := q.2.2; rw [List.drop_zero, List.take_of_length_le (by omega)] at this; exact this)), if_pos (show b2i false = nI 0 from rfl)]
        exact ih (j + 1) i (by omega) (by omega)
    · rw [if_neg (fun q => c ((nI_eq (by omega) (by omega)).mp q)), if_neg (fun q => c (by rw [q]; exact sl_len hk))]
theorem d_lookUp (h : filesD pkS σ fs) (hw : wfF fs) {r : Nat} {xs : List Int32} (hr : rowD σ r xs) {a k : Nat} (hk : a + k ≤ xs.length) : f_X5_lookUp σ r (nI a) (nI k) = some (lk fs ((xs.drop a).take k), σ) := by
  have h20 := hw.1
  unfold f_X5_lookUp lk
  exact lk_l h hw hr hk fs.length 0 fu (by omega) (by unfold fu; omega)
theorem lk_none_name {tp : List Int32} (hw : wfF fs) (c : ¬ nameAt tp 0 tp.length = true) : lk fs tp = -1 := by
  rcases lk_spec fs tp with ⟨q, _⟩ | ⟨i, hi, q1, q2⟩
  · exact q
  · exfalso
    apply c
    have hok := wf_f hw hi
    have e : (fs.getD i ([], [])).1 = tp := q2
    unfold fileOk at hok
    rw [e] at hok
    unfold nameAt
    rw [decide_eq_true ⟨hok.1, hok.2.1, by omega⟩, List.drop_zero, List.take_length, hok.2.2.1]
    rfl
theorem d_find (h : RD pkS σ (rd, tp, ou, fs)) : f_X7_find σ = some (fndS tp fs, σ) := by
  unfold f_X7_find fndS
  have e := d_lookUp h.fi h.wf h.t (a := 0) (k := tp.length) (by omega)
  rw [List.drop_zero, List.take_length] at e
  rw [r_size h.t, Option.bind_some, show f_X5_lookUp σ 1 0 (nI tp.length) = _ from e, Option.bind_some]
  by_cases c : nameAt tp 0 tp.length = true
  · rw [if_pos c]
  · rw [if_neg c, lk_none_name h.wf c]
theorem d_byteOf {all : List Int32} {e s : Nat} {f : List Int32 × List Int32} (hr : rowD σ 3 all) (h : enD σ all e f s) (x : Int32) : f_X5_byteOf σ e x = some (atx f.2 x, σ) := by
  obtain ⟨-, h1, h2, -, -, h5, h6⟩ := h
  have h9 := hr.le
  unfold f_X5_byteOf
  rw [h2]
  rcases i32_cases x with hx | ⟨a, ha, rfl⟩
  · rw [if_pos hx]
    unfold atx
    rw [if_neg]
    intro q
    rw [Int32.lt_iff_toInt_lt, Int32.toInt_zero] at hx
    omega
  · rw [if_neg (nI_pos ha), atx_n ha]
    by_cases c : a < f.2.length
    · rw [if_neg (nI_ge c (by omega)), h1, nI_add, r_atn hr (by omega), Option.bind_some, if_pos c, ← h6, sl_get c]
    · rw [if_pos (nI_le (by omega) ha), if_neg c]
theorem letter_eq (σ : SD) (x1 x2 x3 : Int32) : f_X7_letter σ x1 x2 x3 = (f_X5_entry σ x1).bind fun q5 => match q5 with | (none, σ5) => (some ((-1), σ5)) | (some e5, σ5) => (if e5 < 20 then (if x2 = 0 then ((f_X5_byteOf σ5 e5 x3).bind fun q40 => some (q40.1, q40.2)) else ((f_X4_at σ5 (5 + e5) x3).bind fun q27 => some (q27.1, q27.2))) else none) := rfl
theorem d_letter (h : RD pkS σ (rd, tp, ou, fs)) (k y i : Int32) : f_X7_letter σ k y i = some (letS fs k (!decide (y = 0)) i, σ) := by
  have h20 := h.wf.1
  obtain ⟨h1, h2, h3, h4, all, st, h5, h6, h7, h8⟩ := filesD_en.mp h.fi
  unfold f_X7_letter letS
  rw [d_entry h.fi h.wf, Option.bind_some]
  by_cases c : isF fs.length k = true
  · obtain ⟨p, hp, hp2, rfl⟩ := isF_t c
    have hen := h7 p hp
    rw [if_pos c, if_pos c, nI_toInt hp2, Int.toNat_natCast]
    show (if σ.2.2.2 p < 20 then _ else _) = _
    rw [if_pos (h2 p (by omega))]
    by_cases cy : y = 0
    · rw [if_pos cy, d_byteOf h5 hen, Option.bind_some, decide_eq_true cy, if_neg (show ¬ (!true) = true by decide)]
    · rw [if_neg cy, r_at hen.1, Option.bind_some, decide_eq_false cy, if_pos (show (!false) = true from rfl)]
  · rw [if_neg c, if_neg c]
theorem d_method {all : List Int32} {e s : Nat} {f : List Int32 × List Int32} (h9 : f.2.length ≤ 9000) (h : enD σ all e f s) : f_X1_method σ e = some (mtd f.2, σ) := by
  obtain ⟨-, h1, h2, h3, -, -, -⟩ := h
  unfold f_X1_method mtd
  rw [h2, h3]
  unfold pkS
  by_cases c : f.2.length ≤ (foldB f.2).length
  · rw [if_pos c, Nat.min_eq_left c, if_pos (nI_le (Nat.le_refl _) (by omega))]
  · rw [if_neg c, Nat.min_eq_right (by omega), if_neg (nI_ge (by omega) (by omega))]
theorem d_file (h : RD pkS σ (rd, tp, ou, fs)) (k w : Int32) : f_X7_file σ k w = some (filS fs k w, σ) := by
  have h20 := h.wf.1
  obtain ⟨h1, h2, h3, h4, all, st, h5, h6, h7, h8⟩ := filesD_en.mp h.fi
  unfold f_X7_file filS
  rw [d_entry h.fi h.wf, Option.bind_some]
  by_cases c : isF fs.length k = true
  · obtain ⟨p, hp, hp2, rfl⟩ := isF_t c
    have hen := h7 p hp
    have hz := ok_sz (wf_f h.wf hp)
    have hz2 := hz.2
    rw [if_pos c, if_pos c, nI_toInt hp2, Int.toNat_natCast]
    show (if σ.2.2.2 p < 20 then _ else _) = _
    rw [if_pos (h2 p (by omega))]
    by_cases cw : w.toInt < 0 ∨ 4 < w.toInt
    · obtain ⟨n0, n1, n2, n3, n4⟩ := w_none cw
      rw [if_pos cw, if_neg n0, if_neg n1, if_neg n2, if_neg n3, if_neg n4]
    · rw [if_neg cw]
      rcases w_cases cw with rfl | rfl | rfl | rfl | rfl
      · rw [if_pos rfl, if_pos rfl, r_size hen.1, Option.bind_some]
      · rw [if_neg (by decide), if_pos rfl, if_neg (by decide), if_pos rfl, hen.2.2.1]
      · rw [if_neg (by decide), if_neg (by decide), if_pos rfl, if_neg (by decide), if_neg (by decide), if_pos rfl, hen.2.2.2.1]
      · rw [if_neg (by decide), if_neg (by decide), if_neg (by decide), if_pos rfl, if_neg (by decide), if_neg (by decide), if_neg (by decide), if_pos rfl, d_method (by omega) hen, Option.bind_some]
      · rw [if_neg (by decide), if_neg (by decide), if_neg (by decide), if_neg (by decide), if_pos rfl, if_neg (by decide), if_neg (by decide), if_neg (by decide), if_neg (by decide), if_pos rfl, hen.2.2.2.2.1]
  · rw [if_neg c, if_neg c]
/-- whether a file of n bytes could come if file x weren't there -/
theorem d_hasRoom (h : filesD pkS σ fs) (hw : wfF fs) (x : Int32) {n : Nat} (hn : n ≤ 9000) : f_X5_hasRoom σ x (nI n) = some (b2i (if isF fs.length x = true then decide (tot fs + n ≤ 6000 + (fby fs x.toInt.toNat).length) else decide (fs.length < 20 ∧ tot fs + n ≤ 6000)), σ) := by
  have h20 := hw.1
  have h6k := hw.2.2.1
  have hcap : capD 3 = 6000 := rfl
  obtain ⟨h1, h2, h3, h4, all, st, h5, h6, h7, h8⟩ := filesD_en.mp h
  unfold f_X5_hasRoom
  rw [d_entry h hw, Option.bind_some]
  by_cases c : isF fs.length x = true
  · obtain ⟨p, hp, hp2, rfl⟩ := isF_t c
    have hen := h7 p hp
    have hz := ok_sz (wf_f hw hp)
    have hz2 : (fby fs p).length ≤ 1500 := hz.2
    rw [if_pos c, if_pos c, nI_toInt hp2, Int.toNat_natCast]
    show (if σ.2.2.2 p < 20 then _ else _) = _
    rw [if_pos (h2 p (by omega)), r_room h5, Option.bind_some, hcap, h6, h1, hen.2.2.1]
    unfold f_X5_hasRoom_51
    rw [show (1 : Int32) = nI 1 from rfl, pk_sub (by omega), if_neg (show ¬ (20 : Int32) ≤ nI (fs.length - 1) from nI_ge (b := 20) (by omega) (by decide)), nI_add]
    show (if nI (6000 - tot fs + (fby fs p).length) < nI n then _ else _) = _
    by_cases c2 : tot fs + n ≤ 6000 + (fby fs p).length
    · rw [if_neg (nI_nlt (by omega) (by omega)), decide_eq_true c2]; rfl
    · rw [if_pos (nI_lt (by omega) (by omega)), decide_eq_false c2]; rfl
  · rw [if_neg c, if_neg c]
    show (f_X4_room σ 3).bind _ = _
    rw [r_room h5, Option.bind_some, hcap, h6, h1]
    unfold f_X5_hasRoom_51
    by_cases c1 : fs.length < 20
    · rw [if_neg (show ¬ (20 : Int32) ≤ nI fs.length from nI_ge (b := 20) c1 (by decide))]
      by_cases c2 : tot fs + n ≤ 6000
      · rw [if_neg (nI_nlt (by omega) (by omega)), decide_eq_true ⟨c1, c2⟩]; rfl
      · rw [if_pos (nI_lt (by omega) (by omega)), decide_eq_false (fun q => c2 q.2)]; rfl
    · rw [if_pos (show (20 : Int32) ≤ nI fs.length from nI_le (a := 20) (by omega) (by omega)), decide_eq_false (fun q => c1 q.1)]; rfl
end DSK3
