/-! ===== PURE: files that come, go, change ===== -/
theorem tot_app (fs gs : FL) : tot (fs ++ gs) = tot fs + tot gs := by
  unfold tot
  rw [List.map_append, List.sum_append]
theorem tot_split {fs : FL} {k : Nat} (h : k < fs.length) : tot fs = tot (fs.take k) + ((fby fs k).length + tot (fs.drop (k + 1))) := by
  rw [← tot_drop h, ← tot_app, List.take_append_drop]
theorem tot_ge {fs : FL} {k : Nat} (h : k < fs.length) : (fby fs k).length ≤ tot fs := by
  have := tot_split h
  omega
theorem tot_erase {fs : FL} {k : Nat} (h : k < fs.length) : tot (fs.eraseIdx k) + (fby fs k).length = tot fs := by
  rw [tot_split h, List.eraseIdx_eq_take_drop_succ, tot_app]
  omega
theorem tot_set {fs : FL} {k : Nat} (h : k < fs.length) (f : List Int32 × List Int32) : tot (fs.set k f) + (fby fs k).length = tot fs + f.2.length := by
  rw [tot_split h, List.set_eq_take_append_cons_drop, if_pos h, tot_app, tot_cons]
  omega
theorem nd_get {xs : List (List Int32)} : xs.Nodup ↔ ∀ i j, i < j → j < xs.length → xs.getD i [] ≠ xs.getD j [] := by
  unfold List.Nodup
  rw [List.pairwise_iff_getElem]
  constructor
  · intro h i j hij hj
    rw [List.getD_eq_getElem?_getD, List.getD_eq_getElem?_getD, List.getElem?_eq_getElem hj, List.getElem?_eq_getElem (by omega)]
    exact h i j (by omega) hj hij
  · intro h i j hi hj hij
    have := h i j hij hj
    rw [List.getD_eq_getElem?_getD, List.getD_eq_getElem?_getD, List.getElem?_eq_getElem hj, List.getElem?_eq_getElem hi] at this
    exact this
theorem map_get {fs : FL} {k : Nat} : (fs.map Prod.fst).getD k [] = fnm fs k := by
  unfold fnm
  rw [List.getD_eq_getElem?_getD, List.getD_eq_getElem?_getD, List.getElem?_map]
  cases fs[k]? <;> rfl
theorem wf_nd {fs : FL} (h : wfF fs) {i j : Nat} (hi : i < fs.length) (hj : j < fs.length) (he : fnm fs i = fnm fs j) : i = j := by
  have h2 := nd_get.mp h.2.2.2
  rw [List.length_map] at h2
  rcases Nat.lt_trichotomy i j with q | q | q
  · exact absurd (by rw [map_get, map_get]; exact he) (h2 i j q hj)
  · exact q
  · exact absurd (by rw [map_get, map_get]; exact he.symm) (h2 j i q hi)
theorem getD_set {fs : FL} {k j : Nat} {f : List Int32 × List Int32} (hk : k < fs.length) : (fs.set k f).getD j ([], []) = if j = k then f else fs.getD j ([], []) := by
  simp only [List.getD_eq_getElem?_getD, List.getElem?_set]
  by_cases c : k = j
  · subst c
    rw [if_pos rfl, if_pos rfl, if_pos hk]
    rfl
  · rw [if_neg c, if_neg (fun q => c q.symm)]
theorem wf_add {fs : FL} (h : wfF fs) {f : List Int32 × List Int32} (hf : fileOk f) (h20 : fs.length < 20) (h6 : tot fs + f.2.length ≤ 6000) (hn : ∀ i, i < fs.length → fnm fs i ≠ f.1) : wfF (fs ++ [f]) := by
  refine ⟨by rw [List.length_append]; exact h20, fun g hg => ?_, ?_, ?_⟩
  · rcases List.mem_append.mp hg with q | q
    · exact h.2.1 g q
    · rw [List.mem_singleton] at q; rw [q]; exact hf
  · rw [tot_app, tot_cons]; exact h6
  · rw [nd_get, List.length_map, List.length_append]
    intro i j hij hj
    have hj2 : j < fs.length + 1 := hj
    have e1 : ∀ i, i < fs.length → ((fs ++ [f]).map Prod.fst).getD i [] = fnm fs i := fun i hi => by
      rw [map_get]
      unfold fnm
      rw [List.getD_eq_getElem?_getD, List.getElem?_append_left hi, ← List.getD_eq_getElem?_getD]
    rw [e1 i (by omega)]
    by_cases c : j < fs.length
    · rw [e1 j c]
      intro q
      have := wf_nd h (by omega) c q
      omega
    · obtain rfl : j = fs.length := by omega
      have e2 : ((fs ++ [f]).map Prod.fst).getD fs.length [] = f.1 := by
        rw [map_get]
        unfold fnm
        rw [List.getD_eq_getElem?_getD, List.getElem?_append_right (Nat.le_refl _), Nat.sub_self]
        rfl
      rw [e2]
      exact hn i hij
theorem wf_erase {fs : FL} (h : wfF fs) {k : Nat} (hk : k < fs.length) : wfF (fs.eraseIdx k) := by
  have ht := tot_erase hk
  have h6 := h.2.2.1
  refine ⟨Nat.le_trans (by rw [List.length_eraseIdx, if_pos hk]; omega) h.1, fun g hg => h.2.1 g (List.mem_of_mem_eraseIdx hg), by omega, ?_⟩
  exact h.2.2.2.sublist ((List.eraseIdx_sublist fs k).map _)
theorem wf_set {fs : FL} (h : wfF fs) {k : Nat} (hk : k < fs.length) {f : List Int32 × List Int32} (hf : fileOk f) (h6 : tot fs + f.2.length ≤ 6000 + (fby fs k).length) (hn : ∀ i, i < fs.length → i ≠ k → fnm fs i ≠ f.1) : wfF (fs.set k f) := by
  have ht := tot_set hk f
  refine ⟨by rw [List.length_set]; exact h.1, fun g hg => ?_, by omega, ?_⟩
  · rcases List.mem_or_eq_of_mem_set hg with q | q
    · exact h.2.1 g q
    · rw [q]; exact hf
  · rw [nd_get, List.length_map, List.length_set]
    intro i j hij hj
    rw [map_get, map_get]
    unfold fnm
    rw [getD_set hk, getD_set hk]
    by_cases ci : i = k
    · rw [if_pos ci, if_neg (by omega)]
      exact (hn j hj (by omega)).symm
    · rw [if_neg ci]
      by_cases cj : j = k
      · rw [if_pos cj]
        exact hn i (by omega) ci
      · rw [if_neg cj]
        intro q
        have := wf_nd h (by omega) hj q
        omega
section MR4
variable {τ : SM} {rd tp ou : List Int32} {fs : FL}
theorem RM.files {τ' : SM} {tp' : List Int32} {fs' : FL} (h : RM τ (rd, tp, ou, fs)) (hw : wfF fs') (hf : filesM τ' fs') (ht : tp' = tp ∨ tp' = []) (e1 : τ'.1 1 = nI tp'.length) (e2 : τ'.1 2 = τ.1 2) (eA : ∀ a, a < 3 → τ'.2 a = τ.2 a) : RM τ' (rd, tp', ou, fs') := by
  obtain ⟨⟨w1, w2, w3, w4, w5, w6, w7⟩, a0, a1, a2, a3, a4, a5⟩ := h
  have k1 : tp'.length ≤ 9000 ∧ (∀ x ∈ tp', byteP x) ∧ ∀ i, i < tp'.length → τ'.2 1 i = tp'.getD i 0 := by
    rw [eA 1 (by decide)]
    rcases ht with rfl | rfl
    · exact ⟨w2, w6, a2.2⟩
    · exact ⟨Nat.zero_le _, fun x hx => absurd hx List.not_mem_nil, fun i hi => absurd hi (Nat.not_lt_zero i)⟩
  refine ⟨⟨w1, k1.1, w3, hw, w5, k1.2.1, w7⟩, ⟨a0.1, ?_⟩, e1, ⟨k1.1, k1.2.2⟩, e2.trans a3, ⟨a4.1, ?_⟩, hf⟩
  · rw [eA 0 (by decide)]; exact a0.2
  · rw [eA 2 (by decide)]; exact a4.2
/-! add -/
def nmX (tp : List Int32) (x : Int32) : Bool := decide (0 ≤ x.toInt) && nameAt tp 0 x.toInt.toNat
def addK (tp : List Int32) (fs : FL) (x : Int32) : Nat := if nmX tp x = true ∧ tp.length - x.toInt.toNat ≤ 1500 then (if lk fs (tp.take x.toInt.toNat) = -1 ∧ fs.length < 20 ∧ tot fs + (tp.length - x.toInt.toNat) ≤ 6000 then 0 else 2) else 1
def addS (s : SP) (x : Int32) : SP := if addK s.2.1 s.2.2.2 x = 0 then (s.1, [], s.2.2.1, s.2.2.2 ++ [(s.2.1.take x.toInt.toNat, s.2.1.drop x.toInt.toNat)]) else s
theorem nmX_t {tp : List Int32} {x : Int32} (h : nmX tp x = true) : ∃ n : Nat, x = nI n ∧ n < 2 ^ 31 ∧ 1 ≤ n ∧ n ≤ 30 ∧ n ≤ tp.length ∧ (tp.take n).all nmB = true := by
  unfold nmX at h
  rw [Bool.and_eq_true] at h
  have h1 := of_decide_eq_true h.1
  obtain ⟨j, hj, rfl⟩ := nI_of (x := x) (by rw [Int32.lt_iff_toInt_lt, Int32.toInt_zero]; omega)
  have h2 := h.2
  rw [nI_toInt hj, Int.toNat_natCast] at h2
  unfold nameAt at h2
  rw [Bool.and_eq_true] at h2
  have h3 := of_decide_eq_true h2.1
  exact ⟨j, rfl, hj, h3.1, h3.2.1, by omega, by simpa using h2.2⟩
theorem add_ok {fs : FL} {n : Nat} (hw : wfF fs) (hb : ∀ x ∈ tp, byteP x) (h1 : 1 ≤ n) (h30 : n ≤ 30) (hl : n ≤ tp.length) (ha : (tp.take n).all nmB = true) (h15 : tp.length - n ≤ 1500) (hk : lk fs (tp.take n) = -1) (h20 : fs.length < 20) (h6 : tot fs + (tp.length - n) ≤ 6000) : wfF (fs ++ [(tp.take n, tp.drop n)]) := by
  have e1 : (tp.take n).length = n := by rw [List.length_take]; omega
  have e2 : (tp.drop n).length = tp.length - n := List.length_drop
  refine wf_add hw ⟨?_, ?_, ha, ?_, fun x hx => hb x (List.mem_of_mem_drop hx)⟩ h20 ?_ ?_
  · show 1 ≤ (tp.take n).length; omega
  · show (tp.take n).length ≤ 30; omega
  · show (tp.drop n).length ≤ 1500; omega
  · show tot fs + (tp.drop n).length ≤ 6000; omega
  · rcases lk_spec fs (tp.take n) with ⟨_, q⟩ | ⟨i, hi, q, _⟩
    · exact q
    · exfalso
      rw [hk] at q
      have h20 := hw.1
      exact nI_pos (n := i) (by omega) (by rw [← q]; decide)
theorem m_add39_1 {x : Int32} : f_X8_add_39 x τ 1 = some (0, SMi τ 0 1) := by
  unfold f_X8_add_39 f_X8_add_94
  rw [SMi_g, if_neg (by decide), if_neg (by decide)]
theorem m_add89 {x : Int32} : f_X8_add_89 x τ = some (0, SMi τ 0 2) := by
  unfold f_X8_add_89 f_X8_add_94
  rw [SMi_g, if_neg (by decide)]
theorem SMi_c {f : Nat} {v w : Int32} : SMi (SMi τ f v) f w = SMi τ f w := by
  unfold SMi
  congr 1
  funext j
  unfold va_up
  by_cases h : j = f <;> simp [h]
theorem m_add94 (h : RM τ (rd, tp, ou, fs)) {n : Nat} (h30 : n ≤ 30) (hl : n ≤ tp.length) (h15 : tp.length - n ≤ 1500) (h20 : fs.length < 20) (hw : wfF (fs ++ [(tp.take n, tp.drop n)])) (h0 : τ.1 0 = 0) : ∃ τ', f_X8_add_94 (nI n) τ = some (nI fs.length, τ') ∧ τ'.1 0 = 0 ∧ RM τ' (rd, [], ou, fs ++ [(tp.take n, tp.drop n)]) := by
  have h9 := h.l1
  have e1 : (tp.take n).length = n := by rw [List.length_take]; omega
  have e2 : (tp.drop n).length = tp.length - n := List.length_drop
  obtain ⟨τ1, p1, p2, p3, p4, p5, p6⟩ := m_nameF (τ := τ) (xs := tp) (fun i hi => h.a1 hi) h9 (k := fs.length) (a := 0) (n := n) (by omega) h30 (by omega)
  obtain ⟨τ2, q1, q2, q3, q4, q5, q6⟩ := m_bytesF (τ := τ1) (xs := tp) (fun i hi => by rw [p3 1 (by decide) (by decide)]; exact h.a1 hi) h9 (k := fs.length) (a := n) (n := tp.length - n) (by omega) h15 (by omega)
  have hI : τ2.1 = τ.1 := q2.trans p2
  refine ⟨SMi (SMi τ2 3 (nI (fs.length + 1))) 1 0, ?_, ?_, h.files hw ⟨?_, fun k hk => ?_⟩ (Or.inr rfl) rfl ?_ (fun a ha => ?_)⟩
  · unfold f_X8_add_94
    rw [h0, if_pos (by decide), h.n3, show (0 : Int32) = nI 0 from rfl, p1, Option.bind_some, p2, h.n3, h.n1, pk_sub hl, q1, Option.bind_some, hI, h.n3, nI_1, SMi_n (by decide), SMi_g, nI_pred]
  · show τ2.1 0 = 0
    rw [hI]; exact h0
  · show nI (fs.length + 1) = _
    rw [List.length_append]
    rfl
  · rw [List.length_append] at hk
    have hk2 : k < fs.length + 1 := hk
    show flM τ2 k _
    by_cases c : k < fs.length
    · rw [List.getD_eq_getElem?_getD, List.getElem?_append_left c, ← List.getD_eq_getElem?_getD]
      have hz := ok_sz (wf_f h.wf c)
      exact q4 k _ (by omega) hz (p4 k _ (by omega) hz (h.fi.2 k c))
    · obtain rfl : k = fs.length := by omega
      rw [List.getD_eq_getElem?_getD, List.getElem?_append_right (Nat.le_refl _), Nat.sub_self]
      refine ⟨?_, fun i hi => ?_, ?_, fun i hi => ?_⟩
      · rw [q3 4 (by decide) (by decide), p5]
        show nI n = nI (tp.take n).length
        rw [e1]
      · have hi2 : i < (tp.take n).length := hi
        rw [q3 3 (by decide) (by decide), p6 i (by omega), List.drop_zero]
        rfl
      · rw [q5]
        show nI _ = nI (tp.drop n).length
        rw [e2]
      · have hi2 : i < (tp.drop n).length := hi
        rw [q6 i (by omega), List.take_of_length_le (by omega)]
        rfl
  · show τ2.1 2 = _
    rw [hI]
  · show τ2.2 a = _
    rw [q3 a (by omega) (by omega), p3 a (by omega) (by omega)]
theorem m_add (h : RM τ (rd, tp, ou, fs)) (x : Int32) : ∃ v τ', f_X8_add τ x = some (v, τ') ∧ τ'.1 0 = nI (addK tp fs x) ∧ (addK tp fs x = 0 → v = nI fs.length) ∧ RM τ' (addS (rd, tp, ou, fs) x) := by
  have h9 := h.l1
  have h20 := h.wf.1
  have h6 := h.wf.2.2.1
  have bad : addK tp fs x = 1 → f_X8_add τ x = some (0, SMi τ 0 1) → ∃ v τ', f_X8_add τ x = some (v, τ') ∧ τ'.1 0 = nI (addK tp fs x) ∧ (addK tp fs x = 0 → v = nI fs.length) ∧ RM τ' (addS (rd, tp, ou, fs) x) := by
    intro k1 e1
    refine ⟨_, _, e1, by rw [SMi_g, k1]; rfl, fun q => by rw [k1] at q; exact absurd q (by decide), ?_⟩
    unfold addS
    rw [if_neg (by show ¬ addK tp fs x = 0; rw [k1]; decide)]
    exact h.th
  have bad2 : addK tp fs x = 2 → f_X8_add τ x = some (0, SMi τ 0 2) → ∃ v τ', f_X8_add τ x = some (v, τ') ∧ τ'.1 0 = nI (addK tp fs x) ∧ (addK tp fs x = 0 → v = nI fs.length) ∧ RM τ' (addS (rd, tp, ou, fs) x) := by
    intro k1 e1
    refine ⟨_, _, e1, by rw [SMi_g, k1]; rfl, fun q => by rw [k1] at q; exact absurd q (by decide), ?_⟩
    unfold addS
    rw [if_neg (by show ¬ addK tp fs x = 0; rw [k1]; decide)]
    exact h.th
  by_cases c0 : nmX tp x = true
  · obtain ⟨n, rfl, hn31, hn1, hn30, hnl, hall⟩ := nmX_t c0
    have hname : nameAt tp 0 n = true := by
      unfold nmX at c0
      rw [Bool.and_eq_true, nI_toInt hn31, Int.toNat_natCast] at c0
      exact c0.2
    have e0 : f_X8_add τ (nI n) = if nI (tp.length - n) ≤ 1500 then f_X8_add_39 (nI n) τ 0 else f_X8_add_39 (nI n) τ 1 := by
      unfold f_X8_add
      rw [if_neg (nI_pos hn31), h.n1, if_neg (nI_nlt hnl (by omega)), show (0 : Int32) = nI 0 from rfl, m_isName (τ := τ) (xs := tp) (fun i hi => h.a1 hi) h9 (fun _ => by omega) hn31, hname, Option.bind_some, if_neg (show ¬ b2i true = nI 0 by decide), h.n1, pk_sub hnl]
    have e15 : nI (tp.length - n) ≤ 1500 ↔ tp.length - n ≤ 1500 := nI_leI (b := 1500) (by omega) (by decide)
    by_cases c1 : tp.length - n ≤ 1500
    · rw [if_pos (e15.mpr c1)] at e0
      have hK : addK tp fs (nI n) = if lk fs (tp.take n) = -1 ∧ fs.length < 20 ∧ tot fs + (tp.length - n) ≤ 6000 then 0 else 2 := by
        unfold addK
        rw [nI_toInt hn31, Int.toNat_natCast, if_pos ⟨c0, c1⟩]
      have e3 : f_X8_add_39 (nI n) τ 0 = if lk fs (tp.take n) = -1 then (if nI fs.length = 20 then f_X8_add_89 (nI n) (SMi τ 0 0) else (if nI (tot fs + tp.length - n) ≤ 6000 then f_X8_add_94 (nI n) (SMi τ 0 0) else f_X8_add_89 (nI n) (SMi τ 0 0))) else f_X8_add_89 (nI n) (SMi τ 0 0) := by
        unfold f_X8_add_39
        rw [SMi_g, if_pos (show (0 : Int32) = 0 from rfl), show (SMi τ 0 0).1 3 = nI fs.length from h.n3]
        have en := m_named (τ := SMi τ 0 0) (xs := tp) (fun i hi => h.a1 hi) h9 h.th.fi h.wf (a := 0) (k := n) (by omega) hn30
        rw [List.drop_zero] at en
        rw [show f_X8_named (SMi τ 0 0) 0 (nI n) (nI fs.length) = _ from en, Option.bind_some, m_total (τ := SMi τ 0 0) h.th.fi h.wf, Option.bind_some, show (SMi τ 0 0).1 3 = nI fs.length from h.n3, show (SMi τ 0 0).1 1 = nI tp.length from h.n1, nI_add, pk_sub (by omega)]
      have e20 : nI fs.length = 20 ↔ fs.length = 20 := nI_eq (b := 20) (by omega) (by decide)
      have e60 : nI (tot fs + tp.length - n) ≤ 6000 ↔ tot fs + tp.length - n ≤ 6000 := nI_leI (b := 6000) (by omega) (by decide)
      rw [e3] at e0
      by_cases c2 : lk fs (tp.take n) = -1
      · rw [if_pos c2] at e0
        by_cases c3 : fs.length = 20
        · rw [if_pos (e20.mpr c3), m_add89, SMi_c] at e0
          exact bad2 (by rw [hK, if_neg (by omega)]) e0
        · rw [if_neg (fun q => c3 (e20.mp q))] at e0
          by_cases c4 : tot fs + tp.length - n ≤ 6000
          · rw [if_pos (e60.mpr c4)] at e0
            have hK0 : addK tp fs (nI n) = 0 := by rw [hK, if_pos ⟨c2, by omega, by omega⟩]
            obtain ⟨τ', g1, g2, g3⟩ := m_add94 (τ := SMi τ 0 0) h.th hn30 hnl c1 (by omega) (add_ok h.wf h.b1 hn1 hn30 hnl hall c1 c2 (by omega) (by omega)) rfl
            refine ⟨_, τ', e0.trans g1, by rw [hK0]; exact g2, fun _ => rfl, ?_⟩
            unfold addS
            rw [if_pos hK0, nI_toInt hn31, Int.toNat_natCast]
            exact g3
          · rw [if_neg (fun q => c4 (e60.mp q)), m_add89, SMi_c] at e0
            exact bad2 (by rw [hK, if_neg (by omega)]) e0
      · rw [if_neg c2, m_add89, SMi_c] at e0
        exact bad2 (by rw [hK, if_neg (fun q => c2 q.1)]) e0
    · rw [if_neg (fun q => c1 (e15.mp q)), m_add39_1] at e0
      refine bad ?_ e0
      unfold addK
      rw [nI_toInt hn31, Int.toNat_natCast, if_neg (fun q => c1 q.2)]
  · have k1 : addK tp fs x = 1 := by
      unfold addK
      rw [if_neg (fun q => c0 q.1)]
    refine bad k1 ?_
    unfold f_X8_add
    rcases i32_cases x with hx | ⟨a, ha, rfl⟩
    · rw [if_pos hx, m_add39_1]
    · rw [if_neg (nI_pos ha), h.n1]
      by_cases c : tp.length < a
      · rw [if_pos (nI_lt c ha), m_add39_1]
      · have hname : nameAt tp 0 a = false := by
          have : ¬ nameAt tp 0 a = true := fun q => c0 (by unfold nmX; rw [nI_toInt ha, Int.toNat_natCast, q, decide_eq_true (by omega)]; rfl)
          simpa using this
        rw [if_neg (nI_nlt (by omega) (by omega)), show (0 : Int32) = nI 0 from rfl, m_isName (τ := τ) (xs := tp) (fun i hi => h.a1 hi) h9 (fun _ => by omega) ha, hname, Option.bind_some, if_pos (show b2i false = nI 0 from rfl), m_add39_1]
        rfl
end MR4
