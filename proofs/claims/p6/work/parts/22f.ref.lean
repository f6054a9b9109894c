/-! ===== PURE: the reference: replace, rename, remove ===== -/
def repK (tp : List Int32) (fs : FL) (x : Int32) : Nat := if isF fs.length x = true then (if tp.length ≤ 1500 then (if tot fs + tp.length ≤ 6000 + (fby fs x.toInt.toNat).length then 0 else 3) else 2) else 1
def repS (s : SP) (x : Int32) : SP := if repK s.2.1 s.2.2.2 x = 0 then (s.1, [], s.2.2.1, s.2.2.2.set x.toInt.toNat (fnm s.2.2.2 x.toInt.toNat, s.2.1)) else s
def renK (tp : List Int32) (fs : FL) (x : Int32) : Nat := if isF fs.length x = true then (if nameAt tp 0 tp.length = true then (if lk fs tp = -1 ∨ lk fs tp = x then 0 else 3) else 2) else 1
def renS (s : SP) (x : Int32) : SP := if renK s.2.1 s.2.2.2 x = 0 then (s.1, [], s.2.2.1, s.2.2.2.set x.toInt.toNat (s.2.1, fby s.2.2.2 x.toInt.toNat)) else s
def remK (fs : FL) (x : Int32) : Nat := if isF fs.length x = true then 0 else 1
def remS (s : SP) (x : Int32) : SP := if remK s.2.2.2 x = 0 then (s.1, s.2.1, s.2.2.1, s.2.2.2.eraseIdx x.toInt.toNat) else s
theorem rep_ok {tp : List Int32} {fs : FL} (hw : wfF fs) (hb : ∀ x ∈ tp, byteP x) {k : Nat} (hk : k < fs.length) (h15 : tp.length ≤ 1500) (h6 : tot fs + tp.length ≤ 6000 + (fby fs k).length) : wfF (fs.set k (fnm fs k, tp)) := by
  have hok := wf_f hw hk
  refine wf_set hw hk ⟨hok.1, hok.2.1, hok.2.2.1, h15, hb⟩ h6 (fun i hi hne q => hne (wf_nd hw hi hk q))
theorem nameAt_t {tp : List Int32} (h : nameAt tp 0 tp.length = true) : 1 ≤ tp.length ∧ tp.length ≤ 30 ∧ tp.all nmB = true := by
  unfold nameAt at h
  rw [Bool.and_eq_true] at h
  have h1 := of_decide_eq_true h.1
  exact ⟨h1.1, h1.2.1, by simpa using h.2⟩
theorem ren_ok {tp : List Int32} {fs : FL} (hw : wfF fs) {k : Nat} (hk : k < fs.length) (hn : nameAt tp 0 tp.length = true) (hl : lk fs tp = -1 ∨ lk fs tp = nI k) : wfF (fs.set k (tp, fby fs k)) := by
  have hok := wf_f hw hk
  have h20 := hw.1
  obtain ⟨n1, n2, n3⟩ := nameAt_t hn
  have h6 := hw.2.2.1
  refine wf_set hw hk ⟨n1, n2, n3, hok.2.2.2.1, hok.2.2.2.2⟩ (show tot fs + (fby fs k).length ≤ _ by omega) (fun i hi hne q => ?_)
  rcases lk_spec fs tp with ⟨_, z⟩ | ⟨j, hj, z1, z2⟩
  · exact z i hi q
  · rcases hl with e | e
    · rw [z1] at e
      exact nI_pos (n := j) (by omega) (by rw [e]; decide)
    · rw [z1] at e
      have e2 := (nI_eq (by omega) (by omega)).mp e
      subst e2
      exact hne (wf_nd hw hi hj (q.trans z2.symm))
section MR5
variable {τ : SM} {rd tp ou : List Int32} {fs : FL}
theorem m_rep54 {x s1 : Int32} (h : ¬ s1 ≤ 0) : f_X8_replace_54 x τ s1 = some (SMi τ 0 s1) := by
  unfold f_X8_replace_54
  rw [SMi_g, if_neg h]
theorem m_rep54_0 (h : RM τ (rd, tp, ou, fs)) {k : Nat} (hk : k < fs.length) (h15 : tp.length ≤ 1500) (hw : wfF (fs.set k (fnm fs k, tp))) : ∃ τ', f_X8_replace_54 (nI k) τ 0 = some τ' ∧ τ'.1 0 = 0 ∧ RM τ' (rd, [], ou, fs.set k (fnm fs k, tp)) := by
  have h9 := h.l1
  have h20 := h.wf.1
  obtain ⟨τ2, q1, q2, q3, q4, q5, q6⟩ := m_bytesF (τ := SMi τ 0 0) (xs := tp) (fun i hi => h.a1 hi) h9 (k := k) (a := 0) (n := tp.length) (by omega) h15 (by omega)
  refine ⟨SMi τ2 1 0, ?_, ?_, h.files hw ⟨?_, fun j hj => ?_⟩ (Or.inr rfl) rfl ?_ (fun a ha => ?_)⟩
  · unfold f_X8_replace_54
    rw [SMi_g, if_pos (by decide), show (SMi τ 0 0).1 1 = nI tp.length from h.n1, show f_X8_setBytes (SMi τ 0 0) (nI k) 0 (nI tp.length) = _ from q1, Option.bind_some]
  · show τ2.1 0 = 0
    rw [q2]; rfl
  · show τ2.1 3 = _
    rw [q2, List.length_set]; exact h.n3
  · rw [List.length_set] at hj
    show flM τ2 j _
    rw [getD_set hk]
    by_cases c : j = k
    · subst c
      rw [if_pos rfl]
      have hf := h.fi.2 j hk
      refine ⟨?_, fun i hi => ?_, q5, fun i hi => ?_⟩
      · rw [q3 4 (by decide) (by decide)]; exact hf.1
      · rw [q3 3 (by decide) (by decide)]; exact hf.2.1 i hi
      · rw [q6 i hi, List.drop_zero, List.take_length]
    · rw [if_neg c]
      exact q4 j _ c (ok_sz (wf_f h.wf hj)) (h.fi.2 j hj)
  · show τ2.1 2 = _
    rw [q2]; rfl
  · show τ2.2 a = _
    rw [q3 a (by omega) (by omega)]; rfl
theorem m_replace (h : RM τ (rd, tp, ou, fs)) (x : Int32) : ∃ τ', f_X8_replace τ x = some τ' ∧ τ'.1 0 = nI (repK tp fs x) ∧ RM τ' (repS (rd, tp, ou, fs) x) := by
  have h9 := h.l1
  have h20 := h.wf.1
  have h6 := h.wf.2.2.1
  have C := cms
  have bad : ∀ v, repK tp fs x = v → v ≠ 0 → f_X8_replace τ x = some (SMi τ 0 (nI v)) → ∃ τ', f_X8_replace τ x = some τ' ∧ τ'.1 0 = nI (repK tp fs x) ∧ RM τ' (repS (rd, tp, ou, fs) x) := by
    intro v hv hv0 e
    refine ⟨_, e, by rw [SMi_g, hv], ?_⟩
    unfold repS
    rw [if_neg (by show ¬ repK tp fs x = 0; rw [hv]; exact hv0)]
    exact h.th
  by_cases c : isF fs.length x = true
  · obtain ⟨k, hk, hk31, rfl⟩ := isF_t c
    have hge := tot_ge hk
    have hK : repK tp fs (nI k) = if tp.length ≤ 1500 then (if tot fs + tp.length ≤ 6000 + (fby fs k).length then 0 else 3) else 2 := by
      unfold repK
      rw [if_pos c, nI_toInt hk31, Int.toNat_natCast]
    have e15 : nI tp.length ≤ 1500 ↔ tp.length ≤ 1500 := nI_leI (b := 1500) (by omega) (by decide)
    have e60 : nI (tot fs - (fby fs k).length + tp.length) ≤ 6000 ↔ tot fs - (fby fs k).length + tp.length ≤ 6000 := nI_leI (b := 6000) (by omega) (by decide)
    have e0 : f_X8_replace τ (nI k) = if nI tp.length ≤ 1500 then (if nI (tot fs - (fby fs k).length + tp.length) ≤ 6000 then f_X8_replace_54 (nI k) τ 0 else f_X8_replace_54 (nI k) τ 3) else f_X8_replace_54 (nI k) τ 2 := by
      unfold f_X8_replace
      rw [m_isFile h.n3 (by omega), c, Option.bind_some, if_neg (show ¬ b2i true = 0 by decide), h.n1, m_total h.fi h.wf, Option.bind_some, if_pos (inb_t (by omega) (by omega)), nI_clamp hk31, (h.fi.2 k hk).2.2.1, h.n1, pk_sub hge, nI_add]
    by_cases c1 : tp.length ≤ 1500
    · rw [if_pos (e15.mpr c1)] at e0
      by_cases c2 : tot fs - (fby fs k).length + tp.length ≤ 6000
      · rw [if_pos (e60.mpr c2)] at e0
        have hK0 : repK tp fs (nI k) = 0 := by rw [hK, if_pos c1, if_pos (by omega)]
        obtain ⟨τ', g1, g2, g3⟩ := m_rep54_0 h hk c1 (rep_ok h.wf h.b1 hk c1 (by omega))
        refine ⟨τ', e0.trans g1, by rw [hK0]; exact g2, ?_⟩
        unfold repS
        rw [if_pos hK0, nI_toInt hk31, Int.toNat_natCast]
        exact g3
      · rw [if_neg (fun q => c2 (e60.mp q)), m_rep54 (by decide)] at e0
        exact bad 3 (by rw [hK, if_pos c1, if_neg (by omega)]) (by decide) e0
    · rw [if_neg (fun q => c1 (e15.mp q)), m_rep54 (by decide)] at e0
      exact bad 2 (by rw [hK, if_neg c1]) (by decide) e0
  · have c' : isF fs.length x = false := by simpa using c
    refine bad 1 (by unfold repK; rw [if_neg c]) (by decide) ?_
    unfold f_X8_replace
    rw [m_isFile h.n3 (by omega), c', Option.bind_some, if_pos (show b2i false = 0 from rfl), m_rep54 (by decide)]
    rfl
theorem m_ren71_0 (h : RM τ (rd, tp, ou, fs)) {k : Nat} (hk : k < fs.length) (h30 : tp.length ≤ 30) (hw : wfF (fs.set k (tp, fby fs k))) : ∃ τ', f_X8_rename_71 (nI k) τ 0 = some τ' ∧ τ'.1 0 = 0 ∧ RM τ' (rd, [], ou, fs.set k (tp, fby fs k)) := by
  have h9 := h.l1
  have h20 := h.wf.1
  obtain ⟨τ2, q1, q2, q3, q4, q5, q6⟩ := m_nameF (τ := SMi τ 0 0) (xs := tp) (fun i hi => h.a1 hi) h9 (k := k) (a := 0) (n := tp.length) (by omega) h30 (by omega)
  refine ⟨SMi τ2 1 0, ?_, ?_, h.files hw ⟨?_, fun j hj => ?_⟩ (Or.inr rfl) rfl ?_ (fun a ha => ?_)⟩
  · unfold f_X8_rename_71
    rw [SMi_g, if_pos (by decide), show (SMi τ 0 0).1 1 = nI tp.length from h.n1, show f_X8_setName (SMi τ 0 0) (nI k) 0 (nI tp.length) = _ from q1, Option.bind_some]
  · show τ2.1 0 = 0
    rw [q2]; rfl
  · show τ2.1 3 = _
    rw [q2, List.length_set]; exact h.n3
  · rw [List.length_set] at hj
    show flM τ2 j _
    rw [getD_set hk]
    by_cases c : j = k
    · subst c
      rw [if_pos rfl]
      have hf := h.fi.2 j hk
      refine ⟨q5, fun i hi => ?_, ?_, fun i hi => ?_⟩
      · rw [q6 i hi, List.drop_zero, List.take_length]
      · rw [q3 6 (by decide) (by decide)]; exact hf.2.2.1
      · rw [q3 5 (by decide) (by decide)]; exact hf.2.2.2 i hi
    · rw [if_neg c]
      exact q4 j _ c (ok_sz (wf_f h.wf hj)) (h.fi.2 j hj)
  · show τ2.1 2 = _
    rw [q2]; rfl
  · show τ2.2 a = _
    rw [q3 a (by omega) (by omega)]; rfl
theorem m_ren30 {x s1 : Int32} (h : ¬ s1 ≤ 0) : f_X8_rename_30 x τ s1 = some (SMi τ 0 s1) := by
  unfold f_X8_rename_30
  rw [SMi_g, if_neg h]
theorem m_ren71 {x s1 : Int32} (h : ¬ s1 ≤ 0) : f_X8_rename_71 x τ s1 = some (SMi τ 0 s1) := by
  unfold f_X8_rename_71
  rw [SMi_g, if_neg h]
theorem m_rename (h : RM τ (rd, tp, ou, fs)) (x : Int32) : ∃ τ', f_X8_rename τ x = some τ' ∧ τ'.1 0 = nI (renK tp fs x) ∧ RM τ' (renS (rd, tp, ou, fs) x) := by
  have h9 := h.l1
  have h20 := h.wf.1
  have bad : ∀ v, renK tp fs x = v → v ≠ 0 → f_X8_rename τ x = some (SMi τ 0 (nI v)) → ∃ τ', f_X8_rename τ x = some τ' ∧ τ'.1 0 = nI (renK tp fs x) ∧ RM τ' (renS (rd, tp, ou, fs) x) := by
    intro v hv hv0 e
    refine ⟨_, e, by rw [SMi_g, hv], ?_⟩
    unfold renS
    rw [if_neg (by show ¬ renK tp fs x = 0; rw [hv]; exact hv0)]
    exact h.th
  by_cases c : isF fs.length x = true
  · obtain ⟨k, hk, hk31, rfl⟩ := isF_t c
    have hK : renK tp fs (nI k) = if nameAt tp 0 tp.length = true then (if lk fs tp = -1 ∨ lk fs tp = nI k then 0 else 3) else 2 := by
      unfold renK
      rw [if_pos c]
    have e0 : f_X8_rename τ (nI k) = if b2i (nameAt tp 0 tp.length) = 0 then f_X8_rename_30 (nI k) τ 2 else f_X8_rename_30 (nI k) τ 0 := by
      unfold f_X8_rename
      rw [m_isFile h.n3 (by omega), c, Option.bind_some, if_neg (show ¬ b2i true = 0 by decide), h.n1]
      have en := m_isName (τ := τ) (xs := tp) (fun i hi => h.a1 hi) h9 (a := 0) (k := tp.length) (fun _ => by omega) (by omega)
      rw [show f_X8_isName τ 0 (nI tp.length) = _ from en, Option.bind_some]
    by_cases c1 : nameAt tp 0 tp.length = true
    · obtain ⟨n1, n2, n3⟩ := nameAt_t c1
      rw [c1, if_neg (show ¬ b2i true = 0 by decide)] at e0
      have e1 : f_X8_rename_30 (nI k) τ 0 = if lk fs tp = -1 then f_X8_rename_71 (nI k) (SMi τ 0 0) 0 else (if lk fs tp = nI k then f_X8_rename_71 (nI k) (SMi τ 0 0) 0 else f_X8_rename_71 (nI k) (SMi τ 0 0) 3) := by
        unfold f_X8_rename_30
        rw [SMi_g, if_pos (by decide), show (SMi τ 0 0).1 3 = nI fs.length from h.n3, show (SMi τ 0 0).1 1 = nI tp.length from h.n1]
        have en := m_named (τ := SMi τ 0 0) (xs := tp) (fun i hi => h.a1 hi) h9 h.th.fi h.wf (a := 0) (k := tp.length) (by omega) n2
        rw [List.drop_zero, List.take_length] at en
        rw [show f_X8_named (SMi τ 0 0) 0 (nI tp.length) (nI fs.length) = _ from en, Option.bind_some]
      rw [e1] at e0
      by_cases c2 : lk fs tp = -1 ∨ lk fs tp = nI k
      · have hK0 : renK tp fs (nI k) = 0 := by rw [hK, if_pos c1, if_pos c2]
        obtain ⟨τ', g1, g2, g3⟩ := m_ren71_0 (τ := SMi τ 0 0) h.th hk n2 (ren_ok h.wf hk c1 c2)
        have e2 : f_X8_rename τ (nI k) = some τ' := by
          rw [e0, ← g1]
          rcases c2 with q | q
          · rw [if_pos q]
          · by_cases q2 : lk fs tp = -1
            · rw [if_pos q2]
            · rw [if_neg q2, if_pos q]
        refine ⟨τ', e2, by rw [hK0]; exact g2, ?_⟩
        unfold renS
        rw [if_pos hK0, nI_toInt hk31, Int.toNat_natCast]
        exact g3
      · rw [if_neg (fun q => c2 (Or.inl q)), if_neg (fun q => c2 (Or.inr q)), m_ren71 (by decide), SMi_c] at e0
        exact bad 3 (by rw [hK, if_pos c1, if_neg c2]) (by decide) e0
    · have c1' : nameAt tp 0 tp.length = false := by simpa using c1
      rw [c1', if_pos (show b2i false = 0 from rfl), m_ren30 (by decide)] at e0
      exact bad 2 (by rw [hK, if_neg c1]) (by decide) e0
  · have c' : isF fs.length x = false := by simpa using c
    refine bad 1 (by unfold renK; rw [if_neg c]) (by decide) ?_
    unfold f_X8_rename
    rw [m_isFile h.n3 (by omega), c', Option.bind_some, if_pos (show b2i false = 0 from rfl), m_ren30 (by decide)]
    rfl
theorem m_remove (h : RM τ (rd, tp, ou, fs)) (x : Int32) : ∃ τ', f_X8_remove τ x = some τ' ∧ τ'.1 0 = nI (remK fs x) ∧ RM τ' (remS (rd, tp, ou, fs) x) := by
  have h20 := h.wf.1
  unfold f_X8_remove
  rw [m_isFile h.n3 (by omega), Option.bind_some]
  by_cases c : isF fs.length x = true
  · obtain ⟨k, hk, hk31, rfl⟩ := isF_t c
    have hK : remK fs (nI k) = 0 := by unfold remK; rw [if_pos c]
    obtain ⟨τ', g1, g2, g3, g4⟩ := m_goes (τ := SMi τ 0 0) h.th.fi h.wf hk
    rw [c, if_neg (show ¬ b2i true = 0 by decide)]
    unfold f_X8_remove_14
    rw [SMi_g, if_pos (show (0 : Int32) = 0 from rfl), g1, Option.bind_some]
    refine ⟨τ', rfl, by rw [g3 0 (by decide), hK]; rfl, ?_⟩
    unfold remS
    rw [if_pos hK, nI_toInt hk31, Int.toNat_natCast]
    exact h.files (wf_erase h.wf hk) g2 (Or.inl rfl) ((g3 1 (by decide)).trans h.n1) (g3 2 (by decide)) (fun a ha => g4 a (Or.inl ha))
  · have c' : isF fs.length x = false := by simpa using c
    have hK : remK fs x = 1 := by unfold remK; rw [if_neg c]
    rw [c', if_pos (show b2i false = 0 from rfl)]
    unfold f_X8_remove_14
    rw [SMi_g, if_neg (show ¬ (1 : Int32) = 0 by decide)]
    refine ⟨_, rfl, by rw [SMi_g, hK]; rfl, ?_⟩
    unfold remS
    rw [if_neg (by show ¬ remK fs x = 0; rw [hK]; decide)]
    exact h.th
end MR5
