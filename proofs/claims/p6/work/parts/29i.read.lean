/-! ===== PURE: the reference's read, whole; fault on both sides ===== -/
theorem RM.xA {τ τ' : SM} {rd tp ou : List Int32} {fs : FL} (h : RM τ (rd, tp, ou, fs)) (e : exA τ τ') : RM τ' (rd, tp, ou, fs) := by
  refine h.files h.wf ⟨by rw [e.1 3 (by omega)]; exact h.n3, fun k hk => ?_⟩ (Or.inl rfl) (by rw [e.1 1 (by omega)]; exact h.n1) (e.1 2 (by omega)) (fun a ha => e.2 a (by omega))
  have := h.fi.2 k hk
  rw [e.2 3 (by omega), e.2 4 (by omega), e.2 5 (by omega), e.2 6 (by omega)]
  exact this
theorem exB.fi {τ τ' : SM} (e : exB τ τ') {fs : FL} (hw : wfF fs) (h : filesM τ fs) : filesM τ' fs := by
  have h20 := hw.1
  refine ⟨by rw [e.1 3 (by omega)]; exact h.1, fun k hk => ?_⟩
  have hf := h.2 k hk
  have z2 : (fby fs k).length ≤ 1500 := (ok_sz (wf_f hw hk)).2
  refine ⟨?_, fun i hi => ?_, ?_, fun i hi => ?_⟩
  · rw [e.2.1 4 (by decide) (by decide)]; exact hf.1
  · rw [e.2.1 3 (by decide) (by decide)]; exact hf.2.1 i hi
  · rw [e.2.2.2 k (by omega)]; exact hf.2.2.1
  · rw [e.2.2.1 _ (by omega)]; exact hf.2.2.2 i hi
theorem RM.xB {τ τ' : SM} {rd tp ou : List Int32} {fs : FL} (h : RM τ (rd, tp, ou, fs)) (e : exB τ τ') : RM τ' (rd, tp, ou, fs) := h.files h.wf (e.fi h.wf h.fi) (Or.inl rfl) (by rw [e.1 1 (by omega)]; exact h.n1) (e.1 2 (by omega)) (fun a ha => e.2.1 a (by omega) (by omega))
theorem m_rd113 {τ : SM} {x3 : Int32} : f_X8_read_113 τ x3 0 = some (0, SMi τ 0 1) := by
  unfold f_X8_read_113 f_X8_read_124
  rw [if_pos (show (0 : Int32) = 0 from rfl), if_pos (show (0 : Int32) = 0 from rfl)]
theorem m_read {τ : SM} {rd xs ou : List Int32} {fs : FL} (h : RM τ (rd, xs, ou, fs)) : ∃ v τ', f_X8_read τ = some (v, τ') ∧ (τ'.1 0 = if (rdS xs).isSome = true then 0 else 1) ∧ (∀ gs, rdS xs = some gs → v = nI gs.length) ∧ RM τ' (rd, xs, ou, (rdS xs).getD fs) := by
  have hb := h.b1
  have h9 := h.l1
  have x0 : exA τ (SMi (SMi (SMi τ 4 0) 5 (-1)) 6 (-1)) := ((exA.si (by decide)).tr (exA.si (by decide))).tr (exA.si (by decide))
  have h0 := h.xA x0
  have bad : ∀ τ', f_X8_read τ = some (0, SMi τ' 0 1) → RM τ' (rd, xs, ou, fs) → rdS xs = none → ∃ v τ', f_X8_read τ = some (v, τ') ∧ (τ'.1 0 = if (rdS xs).isSome = true then 0 else 1) ∧ (∀ gs, rdS xs = some gs → v = nI gs.length) ∧ RM τ' (rd, xs, ou, (rdS xs).getD fs) := by
    intro τ' q1 q2 q3
    rw [q3]
    exact ⟨_, _, q1, rfl, fun gs q => absurd q (by simp), q2.th⟩
  have hW := f_X8_read.eq_1 τ
  rw [m_findEnd h0.tp h0.n1, Option.bind_some] at hW
  by_cases c1 : eoK xs = true
  case neg =>
    have hbad : ∀ w : Int32, f_X8_read_48 (SMi (SMi (SMi τ 4 0) 5 (-1)) 6 (-1)) (-1) 1 (-1) w = some (0, SMi (SMi (SMi (SMi (SMi (SMi (SMi τ 4 0) 5 (-1)) 6 (-1)) 4 1) 5 (-1)) 6 w) 0 1) := fun w => by
      unfold f_X8_read_48 f_X8_fails
      rw [Option.bind_some, if_pos (show (0 : Int32) = 0 from rfl)]
      unfold f_X8_read_59
      rw [if_pos (show (0 : Int32) = 0 from rfl)]
      unfold f_X8_read_77
      rw [if_pos (show (0 : Int32) = 0 from rfl), m_rd113]
    have hr : rdS xs = none := by unfold rdS; rw [if_neg c1]
    rw [if_neg c1, if_pos (show (-1 : Int32) = -1 from rfl), hbad, hbad] at hW
    have X : ∀ w : Int32, exA τ (SMi (SMi (SMi (SMi (SMi (SMi τ 4 0) 5 (-1)) 6 (-1)) 4 1) 5 (-1)) 6 w) := fun w => ((x0.tr (exA.si (by decide))).tr (exA.si (by decide))).tr (exA.si (by decide))
    by_cases c : (22 : Int32) ≤ (SMi (SMi (SMi τ 4 0) 5 (-1)) 6 (-1)).1 1
    · rw [if_pos c] at hW
      exact bad _ hW (h.xA (X _)) hr
    · rw [if_neg c] at hW
      exact bad _ hW (h.xA (X _)) hr
  obtain ⟨g1, g2, g3, g4, g5, g6, g7, g8, g9⟩ := eoK_t c1
  have hE : eoE xs ≤ xs.length := by unfold eoE; omega
  have hE22 : eoE xs + 22 = xs.length := by unfold eoE; omega
  have hFE : eoF xs ≤ eoE xs := by omega
  have nm1 : ¬ nI (eoE xs) = -1 := fun q => m1_nI (show eoE xs < 2 ^ 31 by omega) q.symm
  have k8 : nI (eoE xs) + 8 = nI (eoE xs + 8) := nI_add _ 8
  have k12 : nI (eoE xs) + 12 = nI (eoE xs + 12) := nI_add _ 12
  generalize hτ0 : SMi (SMi (SMi τ 4 0) 5 (-1)) 6 (-1) = τ0' at *
  rw [if_pos c1, if_neg nm1] at hW
  unfold f_X8_read_59 at hW
  rw [if_neg (show ¬ (1 : Int32) = 0 by decide), k8, m_num2 h0.tp (by omega), Option.bind_some, show num2 xs (eoE xs + 8) = eoN xs from rfl] at hW
  unfold f_X8_read_77 at hW
  rw [if_neg (show ¬ (1 : Int32) = 0 by decide)] at hW
  obtain ⟨τ2, e2, x2, y2⟩ := m_cenPass hE g6 (eoN xs) (eoF xs) fu τ0' [] (by show 0 + _ = _; omega) (by unfold fu; omega) (by omega) h0.tp (fun i hi => absurd hi (Nat.not_lt_zero i)) (fun c hc => absurd hc List.not_mem_nil)
  have e2' : f_X8_findCentrals τ0' (nI (eoN xs)) (nI (eoE xs)) = some (b2i (cenF xs (eoE xs) (eoN xs) (eoF xs) []).isSome, τ2) := by
    unfold f_X8_findCentrals
    rw [k12, m_num4 h0.tp (by omega), Option.bind_some, cl_le (by omega), pk_sub (by omega), show eoE xs - num4 xs (eoE xs + 12) = eoF xs by omega]
    exact e2
  have h2 : RM τ2 (rd, xs, ou, fs) := h0.xA x2
  rw [e2', Option.bind_some] at hW
  cases hC : cenF xs (eoE xs) (eoN xs) (eoF xs) [] with
  | none =>
    rw [hC, if_pos (show b2i (Option.isSome (none : Option (List Nat))) = 0 from rfl), m_rd113] at hW
    exact bad τ2 hW h2 (by unfold rdS; rw [if_pos c1, hC]; rfl)
  | some L =>
    obtain ⟨l1, l2, -⟩ := cenF_t hE _ _ _ _ ⟨fun c hc => absurd hc List.not_mem_nil, List.nodup_nil⟩ hC
    have hLN : L.length = eoN xs := by rw [l2]; show 0 + _ = _; omega
    have hA2 := y2 L hC
    obtain ⟨τ3, e3, x3, y3, -, w3⟩ := m_locPass hE (show eoF xs ≤ xs.length by omega) (by omega) l1.1 (nI (eoE xs)) L.length 0 0 fu τ2 (by omega) (by unfold fu; omega) (by omega) h2.tp hA2
    rw [List.drop_zero] at e3 w3
    have C := cms
    have e3' : f_X8_findLocals τ2 (nI (eoN xs)) (nI (eoE xs)) = some (b2i (locF xs (eoF xs) L 0).isSome, τ3) ∨ (eoN xs = 0 ∧ f_X8_findLocals τ2 (nI (eoN xs)) (nI (eoE xs)) = some (1, τ2)) := by
      unfold f_X8_findLocals f_X8_findLocals_16
      by_cases c0 : eoN xs = 0
      · refine Or.inr ⟨c0, ?_⟩
        rw [c0, if_pos (show nI 0 ≤ 0 by decide), show fu = 99999 + 1 from rfl, f_X8_findLocals_21, if_pos (show nI 0 ≤ 0 by decide)]
      · refine Or.inl ?_
        obtain ⟨m, hm⟩ : ∃ m, eoN xs = m + 1 := ⟨eoN xs - 1, by omega⟩
        have hh : L.getD 0 0 = eoF xs := by rw [hm] at hC; exact cenF_head hC
        have z8 : τ2.2 8 (0 : Int32).toNatClampNeg = nI (eoF xs) := by
          rw [show (0 : Int32).toNatClampNeg = 0 from nI_clamp (n := 0) (by decide), hA2 0 (by omega), hh]
        rw [if_neg (nI_nle (by omega) (by omega)), if_pos (show inb 0 (capM 8) = true from inb_t (j := 0) (by omega) (by omega)), z8, ← hLN]
        exact e3
    rw [hC, if_neg (show ¬ b2i (Option.isSome (some L)) = 0 by show ¬ b2i true = 0; decide)] at hW
    have key : ∃ τ3, f_X8_findLocals τ2 (nI (eoN xs)) (nI (eoE xs)) = some (b2i (locF xs (eoF xs) L 0).isSome, τ3) ∧ exA τ2 τ3 ∧ τ3.2 8 = τ2.2 8 ∧ ∀ P, locF xs (eoF xs) L 0 = some P → arrR τ3 9 P := by
      rcases e3' with q | ⟨q1, q2⟩
      · exact ⟨τ3, q, x3, y3, fun P hP i hi => by have := w3 P hP i hi; rw [Nat.zero_add] at this; exact this⟩
      · have hL0 : L = [] := List.length_eq_zero_iff.mp (by omega)
        refine ⟨τ2, ?_, exA.rf, rfl, fun P hP i hi => ?_⟩
        · rw [q2, hL0, locF]; rfl
        · rw [hL0, locF] at hP
          rw [← Option.some.inj hP] at hi
          exact absurd hi (Nat.not_lt_zero i)
    clear e3' e3 w3 y3 x3
    obtain ⟨τ3, e3, x3, y3, w3⟩ := key
    have h3 : RM τ3 (rd, xs, ou, fs) := h2.xA x3
    rw [e3, Option.bind_some] at hW
    cases hLc : locF xs (eoF xs) L 0 with
    | none =>
      rw [hLc, if_pos (show b2i (Option.isSome (none : Option (List Nat))) = 0 from rfl), m_rd113] at hW
      exact bad τ3 hW h3 (by unfold rdS; rw [if_pos c1, hC, Option.bind_some, hLc]; rfl)
    | some P =>
      obtain ⟨m1, m2⟩ := locF_t _ _ _ hLc
      have hp : ∀ k, k < L.length → P.getD k 0 + lcP xs (L.getD k 0) ≤ eoF xs := fun k hk => by
        have := m2 (L.getD k 0, P.getD k 0) (by
          have hz := zp m1 hk
          exact List.mem_of_mem_drop (by rw [hz]; exact List.mem_cons_self))
        exact this
      have hA3 : arrR τ3 8 L := fun i hi => by rw [y3]; exact hA2 i hi
      have hP3 := w3 P hLc
      obtain ⟨τ4, e4, x4⟩ := m_conPass hE (show eoF xs ≤ xs.length by omega) (by omega) m1 l1.1 hp L.length 0 0 fu τ3 (by omega) (by unfold fu; omega) (by omega) h3.tp hA3 hP3
      rw [List.drop_zero] at e4
      have e4' : f_X8_areBytes τ3 (nI (eoN xs)) = some (b2i (conF xs (L.zip P) 0).isSome, τ4) := by
        unfold f_X8_areBytes
        rw [← hLN]
        exact e4
      have h4 : RM τ4 (rd, xs, ou, fs) := h3.xB x4
      rw [hLc, if_neg (show ¬ b2i (Option.isSome (some P)) = 0 by show ¬ b2i true = 0; decide), e4', Option.bind_some] at hW
      have hR : rdS xs = conF xs (L.zip P) 0 := by unfold rdS; rw [if_pos c1, hC, Option.bind_some, hLc, Option.bind_some]
      cases hG : conF xs (L.zip P) 0 with
      | none =>
        rw [hG, if_pos (show b2i (Option.isSome (none : Option FL)) = 0 from rfl), m_rd113] at hW
        exact bad τ4 hW h4 (by rw [hR, hG])
      | some gs =>
        obtain ⟨wf, hgl⟩ := rd_ok hb (by omega : eoF xs ≤ xs.length) l1 (by omega) hLc hG
        rw [hG, if_neg (show ¬ b2i (Option.isSome (some gs)) = 0 by show ¬ b2i true = 0; decide)] at hW
        unfold f_X8_read_113 f_X8_read_124 at hW
        rw [if_neg (show ¬ (1 : Int32) = 0 by decide), if_neg (show ¬ (1 : Int32) = 0 by decide), ← hLN] at hW
        have hF0 : filesM (SMi (SMi τ4 0 0) 3 0) [] := ⟨rfl, fun k hk => absurd hk (Nat.not_lt_zero k)⟩
        obtain ⟨τ5, e5, f5, i5, a5⟩ := m_load hE (show eoF xs ≤ xs.length by omega) (by omega) m1 l1.1 hp L.length 0 0 fu (SMi (SMi τ4 0 0) 3 0) [] gs (by omega) (by unfold fu; omega) (h4.tp.ot rfl) (fun j hj => by show τ4.2 8 j = _; rw [x4.2.1 8 (by decide) (by decide)]; exact hA3 j hj) (fun j hj => by show τ4.2 9 j = _; rw [x4.2.1 9 (by decide) (by decide)]; exact hP3 j hj) hF0 (by rw [List.drop_zero]; exact hG) (by rw [List.nil_append]; exact wf)
        rw [List.nil_append] at e5 f5
        rw [hR, hG]
        refine ⟨_, τ5, hW.trans e5, ?_, fun gs' q => by rw [← Option.some.inj q], h4.files wf f5 (Or.inl rfl) ?_ ?_ (fun a ha => ?_)⟩
        · rw [i5 0 (by decide)]; rfl
        · rw [i5 1 (by decide)]; exact h4.n1
        · rw [i5 2 (by decide)]; rfl
        · rw [a5 a (Or.inl ha)]; rfl
theorem d_fault {σ : SD} (x : Int32) : ∃ v, f_X7_fault σ x = some (v, σ) := by
  unfold f_X7_fault f_X3_faultNumber f_X3_faultFile f_X3_faultPlace
  by_cases c : x.toInt < 0 ∨ 2 < x.toInt
  · rw [if_pos c]; exact ⟨_, rfl⟩
  · rw [if_neg c]
    by_cases n0 : x = 0
    · rw [if_pos n0]; exact ⟨_, rfl⟩
    by_cases n1 : x = 1
    · rw [if_neg n0, if_pos n1]; exact ⟨_, rfl⟩
    by_cases n2 : x = 2
    · rw [if_neg n0, if_neg n1, if_pos n2]; exact ⟨_, rfl⟩
    · exfalso
      have key : ∀ y : Int32, x.toInt = y.toInt → x = y := fun y hy => Int32.toInt_inj.mp hy
      have t0 : (0 : Int32).toInt = 0 := rfl
      have t1 : (1 : Int32).toInt = 1 := rfl
      have t2 : (2 : Int32).toInt = 2 := rfl
      rcases (show x.toInt = 0 ∨ x.toInt = 1 ∨ x.toInt = 2 by omega) with q | q | q
      · exact n0 (key 0 (by omega))
      · exact n1 (key 1 (by omega))
      · exact n2 (key 2 (by omega))
theorem m_fault {τ : SM} (x : Int32) : ∃ v, f_X8_fault τ x = some (v, SMi τ 0 0) := by
  unfold f_X8_fault
  by_cases n0 : x = 0
  · rw [if_pos n0]; exact ⟨_, rfl⟩
  by_cases n1 : x = 1
  · rw [if_neg n0, if_pos n1]; exact ⟨_, rfl⟩
  by_cases n2 : x = 2
  · rw [if_neg n0, if_neg n1, if_pos n2]; exact ⟨_, rfl⟩
  · rw [if_neg n0, if_neg n1, if_neg n2]; exact ⟨_, rfl⟩
