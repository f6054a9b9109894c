/-! ===== PURE: the desk: add, replace, rename, remove ===== -/
section DSK7
variable {σ : SD} {rd tp ou : List Int32} {fs : FL}
theorem RD.shelf {σ' : SD} {fs' : FL} (h : RD pkS σ (rd, tp, ou, fs)) (e : exS σ σ') (hw : wfF fs') (hf : filesD pkS σ' fs') : RD pkS σ' (rd, tp, ou, fs') := by
  obtain ⟨⟨w1, w2, w3, w4, w5, w6, w7⟩, a0, a1, a2, ⟨xs, a3⟩, a4⟩ := h
  exact ⟨⟨w1, w2, w3, hw, w5, w6, w7⟩, a0.exS e (by decide), a1.exS e (by decide), a2.exS e (by decide), ⟨xs, a3.exS e (by decide)⟩, hf⟩
theorem RD.tape0 (h : RD pkS σ (rd, tp, ou, fs)) : ∃ σ', f_X4_shorten σ 1 0 = some (1, σ') ∧ RD pkS σ' (rd, [], ou, fs) := by
  obtain ⟨σ1, e1, r1, x1⟩ := r_short0 h.t
  exact ⟨σ1, e1, h.tape x1 r1 (fun x hx => absurd hx List.not_mem_nil)⟩
theorem d_isNameX (h : rowD σ 1 tp) (x : Int32) : f_X4_isName σ 1 0 x = some (b2i (nmX tp x), σ) := by
  rcases i32_cases x with hx | ⟨a, ha, rfl⟩
  · have e : nmX tp x = false := by
      unfold nmX
      rw [Int32.lt_iff_toInt_lt, Int32.toInt_zero] at hx
      rw [decide_eq_false (by omega)]; rfl
    rw [show (0 : Int32) = nI 0 from rfl, r_isNameN hx, e]
    rfl
  · have e : nmX tp (nI a) = nameAt tp 0 a := by
      unfold nmX
      rw [nI_toInt ha, Int.toNat_natCast, decide_eq_true (by omega)]; rfl
    rw [e]
    by_cases c : a < 2 ^ 30
    · exact r_isName h (a := 0) (k := a) (by decide) c
    · have e2 : nameAt tp 0 a = false := by
        unfold nameAt
        rw [decide_eq_false (by omega)]; rfl
      rw [e2]
      unfold f_X4_isName
      have L1 : ¬ nI a < 1 := fun q => by have := (nI_ltI (b := 1) ha (by decide)).mp q; omega
      have L30 : (30 : Int32) < nI a := (nI_ltI (a := 30) (by decide) ha).mpr (by omega)
      rw [if_neg L1, if_pos L30]
      rfl
theorem d_add (h : RD pkS σ (rd, tp, ou, fs)) (x : Int32) : ∃ σ', f_X7_add σ x = some (if addK tp fs x = 0 then Sum.inl (nI fs.length) else Sum.inr (2 - addK tp fs x), σ') ∧ RD pkS σ' (addS (rd, tp, ou, fs) x) := by
  have h9 := h.t.le
  have h20 := h.wf.1
  have h6 := h.wf.2.2.1
  have bad : ∀ v, addK tp fs x = v → v ≠ 0 → f_X7_add σ x = some (Sum.inr (2 - v), σ) → ∃ σ', f_X7_add σ x = some (if addK tp fs x = 0 then Sum.inl (nI fs.length) else Sum.inr (2 - addK tp fs x), σ') ∧ RD pkS σ' (addS (rd, tp, ou, fs) x) := by
    intro v hv hv0 e
    refine ⟨σ, by rw [hv, if_neg hv0]; exact e, ?_⟩
    unfold addS
    rw [if_neg (by show ¬ addK tp fs x = 0; rw [hv]; exact hv0)]
    exact h
  by_cases c0 : nmX tp x = true
  · obtain ⟨n, rfl, hn31, hn1, hn30, hnl, hall⟩ := nmX_t c0
    have e15 : nI (tp.length - n) ≤ 1500 ↔ tp.length - n ≤ 1500 := nI_leI (b := 1500) (by omega) (by decide)
    by_cases c1 : tp.length - n ≤ 1500
    · have hK : addK tp fs (nI n) = if lk fs (tp.take n) = -1 ∧ fs.length < 20 ∧ tot fs + (tp.length - n) ≤ 6000 then 0 else 2 := by
        unfold addK
        rw [nI_toInt hn31, Int.toNat_natCast, if_pos ⟨c0, c1⟩]
      have el := d_lookUp h.fi h.wf h.t (a := 0) (k := n) (by omega)
      rw [List.drop_zero] at el
      have er := d_hasRoom h.fi h.wf (-1) (n := tp.length - n) (by omega)
      rw [show isF fs.length (-1) = false from isF_neg (by decide), if_neg (show ¬ false = true by decide)] at er
      by_cases c2 : lk fs (tp.take n) = -1
      · by_cases c3 : fs.length < 20 ∧ tot fs + (tp.length - n) ≤ 6000
        · have hK0 : addK tp fs (nI n) = 0 := by rw [hK, if_pos ⟨c2, c3⟩]
          obtain ⟨σ1, e1, f1, x1⟩ := d_put h.fi h.wf (r := 1) (q := 1) (by decide) (by decide) h.t h.t (a := 0) (n := n) (b := n) (m := tp.length - n) (by omega) hn30 (by omega) c3.1 (by omega)
          rw [List.drop_zero, List.take_of_length_le (by rw [List.length_drop]; omega : (tp.drop n).length ≤ tp.length - n)] at f1
          have hw2 := add_ok h.wf h.b1 hn1 hn30 hnl hall c1 c2 c3.1 c3.2
          have h1 := h.shelf x1 hw2 f1
          obtain ⟨σ2, e2, h2⟩ := h1.tape0
          refine ⟨σ2, ?_, ?_⟩
          · unfold f_X7_add
            rw [d_isNameX h.t, c0, Option.bind_some, if_neg (show ¬ b2i true = 0 by decide), r_size h.t, Option.bind_some, pk_sub hnl, if_pos (e15.mpr c1), show f_X5_lookUp σ 1 0 (nI n) = _ from el, Option.bind_some, if_pos c2, er, decide_eq_true c3, Option.bind_some, if_neg (show ¬ b2i true = 0 by decide), show f_X5_put σ 1 0 (nI n) 1 (nI n) (nI (tp.length - n)) = _ from e1, Option.bind_some, e2, Option.bind_some]
            unfold f_X5_count
            rw [Option.bind_some, h2.fi.1, List.length_append, hK0, if_pos rfl]
            show some (Sum.inl (nI (fs.length + 1) - 1), σ2) = _
            rw [nI_pred]
          · unfold addS
            rw [if_pos hK0, nI_toInt hn31, Int.toNat_natCast]
            exact h2
        · refine bad 2 (by rw [hK, if_neg (fun q => c3 q.2)]) (by decide) ?_
          unfold f_X7_add
          rw [d_isNameX h.t, c0, Option.bind_some, if_neg (show ¬ b2i true = 0 by decide), r_size h.t, Option.bind_some, pk_sub hnl, if_pos (e15.mpr c1), show f_X5_lookUp σ 1 0 (nI n) = _ from el, Option.bind_some, if_pos c2, er, decide_eq_false c3, Option.bind_some, if_pos (show b2i false = 0 from rfl)]
      · refine bad 2 (by rw [hK, if_neg (fun q => c2 q.1)]) (by decide) ?_
        unfold f_X7_add
        rw [d_isNameX h.t, c0, Option.bind_some, if_neg (show ¬ b2i true = 0 by decide), r_size h.t, Option.bind_some, pk_sub hnl, if_pos (e15.mpr c1), show f_X5_lookUp σ 1 0 (nI n) = _ from el, Option.bind_some, if_neg c2]
    · refine bad 1 (by unfold addK; rw [nI_toInt hn31, Int.toNat_natCast, if_neg (fun q => c1 q.2)]) (by decide) ?_
      unfold f_X7_add
      rw [d_isNameX h.t, c0, Option.bind_some, if_neg (show ¬ b2i true = 0 by decide), r_size h.t, Option.bind_some, pk_sub hnl, if_neg (fun q => c1 (e15.mp q))]
  · have c0' : nmX tp x = false := by simpa using c0
    refine bad 1 (by unfold addK; rw [if_neg (fun q => c0 q.1)]) (by decide) ?_
    unfold f_X7_add
    rw [d_isNameX h.t, c0', Option.bind_some, if_pos (show b2i false = 0 from rfl)]
theorem d_replace (h : RD pkS σ (rd, tp, ou, fs)) (x : Int32) : ∃ σ', f_X7_replace σ x = some (if repK tp fs x = 0 then Sum.inl () else Sum.inr (3 - repK tp fs x), σ') ∧ RD pkS σ' (repS (rd, tp, ou, fs) x) := by
  have h9 := h.t.le
  have h20 := h.wf.1
  have h6 := h.wf.2.2.1
  have bad : ∀ v, repK tp fs x = v → v ≠ 0 → f_X7_replace σ x = some (Sum.inr (3 - v), σ) → ∃ σ', f_X7_replace σ x = some (if repK tp fs x = 0 then Sum.inl () else Sum.inr (3 - repK tp fs x), σ') ∧ RD pkS σ' (repS (rd, tp, ou, fs) x) := by
    intro v hv hv0 e
    refine ⟨σ, by rw [hv, if_neg hv0]; exact e, ?_⟩
    unfold repS
    rw [if_neg (by show ¬ repK tp fs x = 0; rw [hv]; exact hv0)]
    exact h
  by_cases c : isF fs.length x = true
  · obtain ⟨k, hk, hk31, rfl⟩ := isF_t c
    have hK : repK tp fs (nI k) = if tp.length ≤ 1500 then (if tot fs + tp.length ≤ 6000 + (fby fs k).length then 0 else 3) else 2 := by
      unfold repK
      rw [if_pos c, nI_toInt hk31, Int.toNat_natCast]
    have e15 : nI tp.length ≤ 1500 ↔ tp.length ≤ 1500 := nI_leI (b := 1500) (by omega) (by decide)
    have er := d_hasRoom h.fi h.wf (nI k) (n := tp.length) (by omega)
    rw [if_pos c, nI_toInt hk31, Int.toNat_natCast] at er
    have e0 : f_X7_replace σ (nI k) = if nI tp.length ≤ 1500 then (if tot fs + tp.length ≤ 6000 + (fby fs k).length then ((f_X5_changeBytes σ (nI k) 1).bind fun q81 => (f_X4_shorten q81 1 0).bind fun q89 => some (Sum.inl (), q89.2)) else some (Sum.inr 0, σ)) else some (Sum.inr 1, σ) := by
      unfold f_X7_replace
      rw [d_entry h.fi h.wf, Option.bind_some, if_pos c, nI_toInt hk31, Int.toNat_natCast]
      show (if σ.2.2.2 k < 20 then _ else _) = _
      rw [if_pos (h.fi.2.1 k (by omega)), r_size h.t, Option.bind_some]
      by_cases q : nI tp.length ≤ 1500
      · rw [if_pos q, if_pos q, r_size h.t, Option.bind_some, er, Option.bind_some]
        by_cases q2 : tot fs + tp.length ≤ 6000 + (fby fs k).length
        · rw [if_pos q2, decide_eq_true q2, if_neg (show ¬ b2i true = 0 by decide)]
        · rw [if_neg q2, decide_eq_false q2, if_pos (show b2i false = 0 from rfl)]
      · rw [if_neg q, if_neg q]
    by_cases c1 : tp.length ≤ 1500
    · rw [if_pos (e15.mpr c1)] at e0
      by_cases c2 : tot fs + tp.length ≤ 6000 + (fby fs k).length
      · have hK0 : repK tp fs (nI k) = 0 := by rw [hK, if_pos c1, if_pos c2]
        obtain ⟨σ1, e1, f1, x1⟩ := d_changeBytes h.fi h.wf hk (r := 1) (by decide) h.t c2
        have h1 := h.shelf x1 (rep_ok h.wf h.b1 hk c1 c2) f1
        obtain ⟨σ2, e2, h2⟩ := h1.tape0
        refine ⟨σ2, ?_, ?_⟩
        · rw [e0, if_pos c2, e1, Option.bind_some, e2, Option.bind_some, hK0, if_pos rfl]
        · unfold repS
          rw [if_pos hK0, nI_toInt hk31, Int.toNat_natCast]
          exact h2
      · exact bad 3 (by rw [hK, if_pos c1, if_neg c2]) (by decide) (by rw [e0, if_neg c2])
    · exact bad 2 (by rw [hK, if_neg c1]) (by decide) (by rw [e0, if_neg (fun q => c1 (e15.mp q))])
  · have c' : isF fs.length x = false := by simpa using c
    refine bad 1 (by unfold repK; rw [if_neg c]) (by decide) ?_
    unfold f_X7_replace
    rw [d_entry h.fi h.wf, Option.bind_some, if_neg c]
theorem d_rename (h : RD pkS σ (rd, tp, ou, fs)) (x : Int32) : ∃ σ', f_X7_rename σ x = some (if renK tp fs x = 0 then Sum.inl () else Sum.inr (3 - renK tp fs x), σ') ∧ RD pkS σ' (renS (rd, tp, ou, fs) x) := by
  have h9 := h.t.le
  have h20 := h.wf.1
  have bad : ∀ v, renK tp fs x = v → v ≠ 0 → f_X7_rename σ x = some (Sum.inr (3 - v), σ) → ∃ σ', f_X7_rename σ x = some (if renK tp fs x = 0 then Sum.inl () else Sum.inr (3 - renK tp fs x), σ') ∧ RD pkS σ' (renS (rd, tp, ou, fs) x) := by
    intro v hv hv0 e
    refine ⟨σ, by rw [hv, if_neg hv0]; exact e, ?_⟩
    unfold renS
    rw [if_neg (by show ¬ renK tp fs x = 0; rw [hv]; exact hv0)]
    exact h
  by_cases c : isF fs.length x = true
  · obtain ⟨k, hk, hk31, rfl⟩ := isF_t c
    have hK : renK tp fs (nI k) = if nameAt tp 0 tp.length = true then (if lk fs tp = -1 ∨ lk fs tp = nI k then 0 else 3) else 2 := by
      unfold renK
      rw [if_pos c]
    have el := d_lookUp h.fi h.wf h.t (a := 0) (k := tp.length) (by omega)
    rw [List.drop_zero, List.take_length] at el
    have en := r_isName h.t (a := 0) (k := tp.length) (by decide) (by omega)
    have e0 : f_X7_rename σ (nI k) = if nameAt tp 0 tp.length = true then (if lk fs tp = -1 ∨ lk fs tp = nI k then f_X7_rename_89 (nI k) σ else some (Sum.inr 0, σ)) else some (Sum.inr 1, σ) := by
      unfold f_X7_rename
      rw [d_entry h.fi h.wf, Option.bind_some, if_pos c, nI_toInt hk31, Int.toNat_natCast]
      show (if σ.2.2.2 k < 20 then _ else _) = _
      rw [if_pos (h.fi.2.1 k (by omega)), r_size h.t, Option.bind_some, show f_X4_isName σ 1 0 (nI tp.length) = _ from en, Option.bind_some]
      by_cases q : nameAt tp 0 tp.length = true
      · rw [if_pos q, q, if_neg (show ¬ b2i true = 0 by decide), r_size h.t, Option.bind_some, show f_X5_lookUp σ 1 0 (nI tp.length) = _ from el, Option.bind_some]
        by_cases q1 : lk fs tp = -1
        · rw [if_pos q1, if_pos (Or.inl q1)]
        · rw [if_neg q1]
          by_cases q2 : lk fs tp = nI k
          · rw [if_pos q2, if_pos (Or.inr q2)]
          · rw [if_neg q2, if_neg (fun z => z.elim q1 q2)]
      · have q' : nameAt tp 0 tp.length = false := by simpa using q
        rw [if_neg q, q', if_pos (show b2i false = 0 from rfl)]
    by_cases c1 : nameAt tp 0 tp.length = true
    · obtain ⟨n1, n2, n3⟩ := nameAt_t c1
      by_cases c2 : lk fs tp = -1 ∨ lk fs tp = nI k
      · have hK0 : renK tp fs (nI k) = 0 := by rw [hK, if_pos c1, if_pos c2]
        obtain ⟨σ1, e1, f1, x1⟩ := d_changeName h.fi h.wf hk (r := 1) (by decide) h.t n2
        have h1 := h.shelf x1 (ren_ok h.wf hk c1 c2) f1
        obtain ⟨σ2, e2, h2⟩ := h1.tape0
        refine ⟨σ2, ?_, ?_⟩
        · rw [e0, if_pos c1, if_pos c2]
          unfold f_X7_rename_89
          rw [e1, Option.bind_some, e2, Option.bind_some, hK0, if_pos rfl]
        · unfold renS
          rw [if_pos hK0, nI_toInt hk31, Int.toNat_natCast]
          exact h2
      · exact bad 3 (by rw [hK, if_pos c1, if_neg c2]) (by decide) (by rw [e0, if_pos c1, if_neg c2])
    · exact bad 2 (by rw [hK, if_neg c1]) (by decide) (by rw [e0, if_neg c1])
  · refine bad 1 (by unfold renK; rw [if_neg c]) (by decide) ?_
    unfold f_X7_rename
    rw [d_entry h.fi h.wf, Option.bind_some, if_neg c]
theorem d_remove (h : RD pkS σ (rd, tp, ou, fs)) (x : Int32) : ∃ σ', f_X7_remove σ x = some (if remK fs x = 0 then Sum.inl () else Sum.inr (3 - remK fs x), σ') ∧ RD pkS σ' (remS (rd, tp, ou, fs) x) := by
  have h20 := h.wf.1
  unfold f_X7_remove
  rw [d_entry h.fi h.wf, Option.bind_some]
  by_cases c : isF fs.length x = true
  · obtain ⟨k, hk, hk31, rfl⟩ := isF_t c
    have hK : remK fs (nI k) = 0 := by unfold remK; rw [if_pos c]
    obtain ⟨σ1, e1, f1, x1⟩ := d_takeOut h.fi h.wf hk
    refine ⟨σ1, ?_, ?_⟩
    · rw [if_pos c, nI_toInt hk31, Int.toNat_natCast]
      show (if σ.2.2.2 k < 20 then _ else _) = _
      rw [if_pos (h.fi.2.1 k (by omega)), e1, Option.bind_some, hK, if_pos rfl]
    · unfold remS
      rw [if_pos hK, nI_toInt hk31, Int.toNat_natCast]
      exact h.shelf x1 (wf_erase h.wf hk) f1
  · have hK : remK fs x = 1 := by unfold remK; rw [if_neg c]
    refine ⟨σ, ?_, ?_⟩
    · rw [if_neg c, hK, if_neg (by decide)]
    · unfold remS
      rw [if_neg (by show ¬ remK fs x = 0; rw [hK]; decide)]
      exact h
end DSK7
