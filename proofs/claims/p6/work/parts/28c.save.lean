/-! ===== PURE: the reference's save ===== -/
theorem RM.x56 {τ τ' : SM} {rd tp ou : List Int32} {fs : FL} (h : RM τ (rd, tp, ou, fs)) (e : ex56 τ τ') : RM τ' (rd, tp, ou, fs) := h.files h.wf (e.fi h.wf h.fi) (Or.inl rfl) (by rw [e.1]; exact h.n1) (by rw [e.1]) (fun a ha => e.2.1 a (by omega) (by omega))
section SAV2
variable {rd xs ou : List Int32} {fs : FL}
theorem m_saved {τ : SM} (h : RM τ (rd, xs, ou, fs)) {t : Nat} (ht : t ≤ 9000) : ∃ τ', f_X8_saved τ (nI t) = some (if (svX xs fs t).isSome = true then nI (30 + nsA xs t + pkA xs t) else 0, τ') ∧ RM τ' (rd, xs, ou, (svX xs fs t).getD fs) := by
  have hw := h.wf
  have h20 := hw.1
  have h6 := hw.2.2.1
  have hb := h.b1
  have h9 := h.l1
  have C := cms
  have tp := h.tp
  have hno : hdA xs t = false → svX xs fs t = none := fun q => svX_n (by unfold whA; rw [q, if_neg (show ¬ false = true by decide)])
  have fin : ∀ τ', f_X8_saved τ (nI t) = some (0, τ') → RM τ' (rd, xs, ou, fs) → svX xs fs t = none → ∃ τ', f_X8_saved τ (nI t) = some (if (svX xs fs t).isSome = true then nI (30 + nsA xs t + pkA xs t) else 0, τ') ∧ RM τ' (rd, xs, ou, (svX xs fs t).getD fs) := by
    intro τ' e x z
    rw [z]
    exact ⟨τ', e, x⟩
  have n4 : nI t + 4 = nI (t + 4) := nI_add t 4
  have n6 : nI t + 6 = nI (t + 6) := nI_add t 6
  have n8 : nI t + 8 = nI (t + 8) := nI_add t 8
  have n18 : nI t + 18 = nI (t + 18) := nI_add t 18
  have n26 : nI t + 26 = nI (t + 26) := nI_add t 26
  have n28 : nI t + 28 = nI (t + 28) := nI_add t 28
  have n30 : nI t + 30 = nI (t + 30) := nI_add t 30
  have hW := f_X8_saved.eq_1 τ (nI t)
  rw [h.n1, n30] at hW
  by_cases c0 : xs.length < t + 30
  · rw [if_pos (nI_lt c0 (by omega))] at hW
    refine fin τ hW h (hno ?_)
    have : hdOk xs (t + 4) = false := decide_eq_false (fun q => by have := q.1; omega)
    unfold hdA
    rw [this, Bool.false_and, Bool.and_false]
  rw [if_neg (nI_nlt (by omega) (by omega)), m_sig tp (by omega), Option.bind_some] at hW
  by_cases c1 : sigAt xs t 3 4 = true
  case neg =>
    have c1' : sigAt xs t 3 4 = false := by simpa using c1
    rw [c1', if_pos (show b2i false = 0 from rfl)] at hW
    exact fin τ hW h (hno (by unfold hdA; rw [c1', Bool.false_and]))
  have i1 : f_X8_is τ (nI (t + 4)) 2 20 = some (b2i (decide (num2 xs (t + 4) = 20)), τ) := m_is2 tp (v := 20) (by omega) (by decide)
  have i2 : f_X8_is τ (nI (t + 28)) 2 0 = some (b2i (decide (num2 xs (t + 28) = 0)), τ) := m_is2 tp (v := 0) (by omega) (by decide)
  rw [c1, if_neg (show ¬ b2i true = 0 by decide), n4, i1, Option.bind_some] at hW
  have hd : hdOk xs (t + 4) = true → num2 xs (t + 4) = 20 ∧ fct xs (t + 6) = true ∧ num2 xs (t + 28) = 0 := fun q => by
    have q2 := of_decide_eq_true q
    unfold fct
    simp only [Nat.add_assoc, Nat.reduceAdd] at q2 ⊢
    exact ⟨q2.2.1, decide_eq_true ⟨q2.2.2.1, q2.2.2.2.1, q2.2.2.2.2.1, q2.2.2.2.2.2.1⟩, q2.2.2.2.2.2.2.2.2⟩
  have nohd : ∀ P : Prop, (hdOk xs (t + 4) = true → P) → ¬ P → hdA xs t = false := fun P q1 q2 => by
    have : hdOk xs (t + 4) = false := by
      cases hh : hdOk xs (t + 4)
      · rfl
      · exact absurd (q1 hh) q2
    unfold hdA
    rw [this, Bool.false_and, Bool.and_false]
  by_cases c2 : num2 xs (t + 4) = 20
  case neg =>
    rw [decide_eq_false c2, if_pos (show b2i false = 0 from rfl)] at hW
    exact fin τ hW h (hno (nohd _ (fun q => (hd q).1) c2))
  rw [decide_eq_true c2, if_neg (show ¬ b2i true = 0 by decide), n6, m_facts8 tp (by omega), Option.bind_some] at hW
  by_cases c3 : fct xs (t + 6) = true
  case neg =>
    have c3' : fct xs (t + 6) = false := by simpa using c3
    rw [c3', if_pos (show b2i false = 0 from rfl)] at hW
    exact fin τ hW h (hno (nohd _ (fun q => (hd q).2.1) c3))
  rw [c3, if_neg (show ¬ b2i true = 0 by decide), n28, i2, Option.bind_some] at hW
  by_cases c4 : num2 xs (t + 28) = 0
  case neg =>
    rw [decide_eq_false c4, if_pos (show b2i false = 0 from rfl)] at hW
    exact fin τ hW h (hno (nohd _ (fun q => (hd q).2.2) c4))
  have hns : num2 xs (t + 26) = nsA xs t := rfl
  have hpk : num4 xs (t + 18) = pkA xs t := rfl
  have Ln : nsA xs t < 65536 := num2_lt hb _
  rw [decide_eq_true c4, if_neg (show ¬ b2i true = 0 by decide), n26, m_num2 tp (by omega), Option.bind_some, n18, m_num4 tp (by omega), Option.bind_some, hns, hpk, h.n1, nI_l (by omega), nI_l (by omega), nI_l (by unfold cl; omega), nI_l (by omega), show (30 : Int64) = lN 30 from rfl, lN_add, lN_add, lN_add] at hW
  have ec : 0 < lg_cmp (lN (t + 30 + nsA xs t + cl (pkA xs t))) (lN xs.length) ↔ ¬ t + 30 + nsA xs t + pkA xs t ≤ xs.length := by
    rw [lg_cmp_gt, pk_lLT (by omega) (by unfold cl; omega)]
    unfold cl
    omega
  by_cases c5 : t + 30 + nsA xs t + pkA xs t ≤ xs.length
  case neg =>
    rw [if_pos (ec.mpr c5)] at hW
    exact fin τ hW h (hno (by unfold hdA; rw [decide_eq_false c5, Bool.false_and, Bool.and_false, Bool.and_false, Bool.and_false]))
  rw [if_neg (fun q => ec.mp q c5), m_isName (τ := τ) tp.2.1 h9 (a := t + 30) (k := nsA xs t) (fun _ => by omega) (by omega), Option.bind_some] at hW
  by_cases c6 : nameAt xs (t + 30) (nsA xs t) = true
  case neg =>
    have c6' : nameAt xs (t + 30) (nsA xs t) = false := by simpa using c6
    rw [c6', if_pos (show b2i false = 0 from rfl)] at hW
    exact fin τ hW h (hno (by unfold hdA; rw [c6', Bool.false_and, Bool.and_false, Bool.and_false]))
  obtain ⟨m1, m2, m3, m4⟩ := nameAt_u c6
  have hdt : hdOk xs (t + 4) = true := by
    have q := of_decide_eq_true c3
    simp only [Nat.add_assoc, Nat.reduceAdd] at q
    unfold nsA at m1 m2
    unfold hdOk
    simp only [Nat.add_assoc, Nat.reduceAdd]
    exact decide_eq_true ⟨by omega, c2, q.1, q.2.1, q.2.2.1, q.2.2.2, m1, m2, c4⟩
  have hmm : num2 xs (t + 4 + 4) = 0 ∨ num2 xs (t + 4 + 4) = 99 := (of_decide_eq_true hdt).2.2.2.1
  have hsz : f_X8_areSizes τ (nI (t + 8)) = some (b2i (szOk xs (t + 4)), τ) := m_sizes tp (a := t + 4) (by omega) hmm
  rw [c6, if_neg (show ¬ b2i true = 0 by decide), n8, hsz, Option.bind_some] at hW
  by_cases c7 : szOk xs (t + 4) = true
  case neg =>
    have c7' : szOk xs (t + 4) = false := by simpa using c7
    rw [c7', if_pos (show b2i false = 0 from rfl)] at hW
    exact fin τ hW h (hno (by unfold hdA; rw [c7', Bool.and_false, Bool.and_false, Bool.and_false, Bool.and_false]))
  have hA : hdA xs t = true := by
    unfold hdA
    rw [c1, hdt, c6, c7, decide_eq_true c5]; rfl
  have hp : t + 30 + nsA xs t + num4 xs (t + 4 + 14) ≤ xs.length := by
    rw [show t + 4 + 14 = t + 18 by omega]; exact c5
  obtain ⟨τ1, e1, x1, b1⟩ := m_unfold tp (a := t + 4) (d := t + 30 + nsA xs t) (by omega) c7 hp
  have h1 : RM τ1 (rd, xs, ou, fs) := h.x56 x1
  rw [c7, if_neg (show ¬ b2i true = 0 by decide), nI_add, show f_X8_unfold τ (nI (t + 30 + nsA xs t)) (nI (t + 8)) = _ from e1, Option.bind_some] at hW
  cases hu : upH xs (t + 4) (t + 30 + nsA xs t) with
  | none =>
    rw [hu, if_pos (show b2i (Option.isSome (none : Option (List Int32))) = 0 from rfl)] at hW
    exact fin τ1 hW h1 (svX_n (by unfold whA; rw [if_pos hA, hu]; rfl))
  | some b =>
    have hlen := up_len c7 hp hu
    have hs2 := of_decide_eq_true c7
    have hcr : f_X8_isCrc τ1 (nI (t + 8)) = some (b2i (decide (crcS b = nI (num4 xs (t + 14)))), τ1) := m_isCrc h1.tp (a := t + 4) (by omega) (b := b) (by omega) (b1 b hu)
    rw [hu, if_neg (show ¬ b2i (Option.isSome (some b)) = 0 by show ¬ b2i true = 0; decide), hcr, Option.bind_some] at hW
    by_cases c8 : crcS b = nI (num4 xs (t + 14))
    case neg =>
      rw [decide_eq_false c8, if_pos (show b2i false = 0 from rfl)] at hW
      exact fin τ1 hW h1 (svX_n (by unfold whA; rw [if_pos hA, hu, Option.bind_some, if_neg c8]))
    have hwh : whA xs t = some b := by
      unfold whA
      rw [if_pos hA, hu, Option.bind_some, if_pos c8]
    have hok := wh_ok hb hwh
    have hnm : f_X8_named τ1 (nI (t + 30)) (nI (nsA xs t)) (nI fs.length) = some (lk fs (sl xs (t + 30) (nsA xs t)), τ1) := m_named (τ := τ1) h1.tp.2.1 h9 h1.fi hw m3 m2
    rw [decide_eq_true c8, if_neg (show ¬ b2i true = 0 by decide), h1.n3, hnm, Option.bind_some, m_total h1.fi hw, Option.bind_some] at hW
    have hb20 : τ1.2 6 20 = nI b.length := (b1 b hu).1
    have c20 : (20 : Int32).toNatClampNeg = 20 := nI_clamp (n := 20) (by decide)
    have in20 : inb (20 : Int32) (capM 6) = true := inb_t (j := 20) (by omega) (by omega)
    have app : ∀ (τ2 : SM) (gs : FL), filesM τ2 gs → wfF gs → gs.length < 20 → (∀ f, f ≠ 3 → τ2.1 f = τ1.1 f) → (∀ a, a < 3 ∨ 6 < a → τ2.2 a = τ1.2 a) → wfF (gs ++ [(sl xs (t + 30) (nsA xs t), b)]) → ∃ τ', f_X8_saved_240 (nI t) τ2 (nI (nsA xs t)) (nI (cl (pkA xs t))) = some (nI (30 + nsA xs t + pkA xs t), τ') ∧ RM τ' (rd, xs, ou, gs ++ [(sl xs (t + 30) (nsA xs t), b)]) := by
      intro τ2 gs y1 y2 y3 y4 y5 y6
      obtain ⟨τ3, e3, f3, i3, a3⟩ := m_append (τ := τ2) (xs := xs) (tp.ot (by rw [y5 1 (by decide), x1.2.1 1 (by decide) (by decide)])) y1 y2 y3 (a := t + 4) (d := t + 30 + nsA xs t) (p := t + 30) (n := nsA xs t) (by omega) c7 hp m3 m2 hu
      refine ⟨τ3, ?_, h1.files y6 f3 (Or.inl rfl) (by rw [i3 1 (by decide), y4 1 (by decide)]; exact h1.n1) (by rw [i3 2 (by decide), y4 2 (by decide)]) (fun a ha => by rw [a3 a (Or.inl ha), y5 a (Or.inl ha)])⟩
      unfold f_X8_saved_240
      rw [n30, n8, nI_add, show f_X8_append τ2 (nI (t + 30)) (nI (nsA xs t)) (nI (t + 30 + nsA xs t)) (nI (t + 8)) = _ from e3, Option.bind_some, show (30 : Int32) = nI 30 from rfl, nI_add, nI_add, cl_le (by omega)]
    rw [svX_w hwh]
    unfold svA
    rcases lk_spec fs (sl xs (t + 30) (nsA xs t)) with ⟨q1, q2⟩ | ⟨i, hi, q1, q2⟩
    · have hF : isF fs.length (lk fs (sl xs (t + 30) (nsA xs t))) = false := by rw [q1]; exact isF_neg (by decide)
      rw [hF, if_neg (show ¬ false = true by decide)]
      have e60 : nI (tot fs + b.length) ≤ 6000 ↔ tot fs + b.length ≤ 6000 := nI_leI (b := 6000) (by omega) (by decide)
      have e20 : nI fs.length = 20 ↔ fs.length = 20 := nI_eq (b := 20) (by omega) (by decide)
      unfold f_X8_saved_192 f_X8_saved_210 at hW
      rw [q1, if_pos (show (-1 : Int32) = -1 from rfl), if_pos (show (-1 : Int32) = -1 from rfl), h1.n3, in20, if_pos rfl, c20, hb20, show nI (tot fs) - 0 = nI (tot fs) from pk_sub (a := tot fs) (b := 0) (Nat.zero_le _), nI_add, if_pos (show (-1 : Int32) = -1 from rfl)] at hW
      by_cases c : fs.length < 20 ∧ tot fs + b.length ≤ 6000
      · rw [if_pos c]
        obtain ⟨τ', p1, p2⟩ := app τ1 fs h1.fi hw c.1 (fun _ _ => rfl) (fun _ _ => rfl) (wf_add hw hok c.1 c.2 q2)
        refine ⟨τ', ?_, p2⟩
        rw [hW, if_neg (fun q => by have := e20.mp q; omega), if_pos (e60.mpr c.2), p1]; rfl
      · rw [if_neg c]
        refine ⟨τ1, ?_, h1⟩
        rw [hW]
        by_cases c9 : fs.length = 20
        · rw [if_pos (e20.mpr c9)]; rfl
        · rw [if_neg (fun q => c9 (e20.mp q)), if_neg (fun q => c ⟨by omega, e60.mp q⟩)]; rfl
    · have hF : isF fs.length (lk fs (sl xs (t + 30) (nsA xs t))) = true := by rw [q1, isF_n (by omega), decide_eq_true hi]
      have hN : (lk fs (sl xs (t + 30) (nsA xs t))).toInt.toNat = i := by rw [q1, nI_toInt (by omega), Int.toNat_natCast]
      have hz := ok_sz (wf_f hw hi)
      have hge := tot_ge hi
      have ht2 := tot_erase hi
      rw [hF, if_pos rfl, hN]
      have e60 : nI (tot fs - (fby fs i).length + b.length) ≤ 6000 ↔ tot fs + b.length ≤ 6000 + (fby fs i).length := by
        rw [show (6000 : Int32) = nI 6000 from rfl, nI_leI (by omega) (by decide)]
        omega
      unfold f_X8_saved_192 f_X8_saved_210 at hW
      have nm1 : ¬ nI i = -1 := fun q => m1_nI (show i < 2 ^ 31 by omega) q.symm
      rw [q1, if_neg nm1, if_pos (inb_t (by omega) (by omega)), if_neg nm1, in20, if_pos rfl, nI_clamp (by omega), (h1.fi.2 i hi).2.2.1, c20, hb20, pk_sub hge, nI_add, if_neg nm1] at hW
      by_cases c : tot fs + b.length ≤ 6000 + (fby fs i).length
      · rw [if_pos c]
        obtain ⟨τ2, k1, k2, k3, k4⟩ := m_goes h1.fi hw hi
        have hsv : svA fs (sl xs (t + 30) (nsA xs t)) b = some (fs.eraseIdx i ++ [(sl xs (t + 30) (nsA xs t), b)]) := by
          unfold svA
          rw [hF, if_pos rfl, hN, if_pos c]
        obtain ⟨τ', p1, p2⟩ := app τ2 (fs.eraseIdx i) k2 (wf_erase hw hi) (by rw [List.length_eraseIdx, if_pos hi]; omega) k3 k4 (sv_ok hw hok hsv)
        refine ⟨τ', ?_, p2⟩
        rw [hW, if_pos (e60.mpr c), k1, Option.bind_some, p1]; rfl
      · rw [if_neg c]
        refine ⟨τ1, ?_, h1⟩
        rw [hW, if_neg (fun q => c (e60.mp q))]; rfl
theorem m_save_l : ∀ (m t n : Nat) (τ : SM) (fs : FL) (c : Nat), xs.length - t ≤ m → t ≤ xs.length → m < n → RM τ (rd, xs, ou, fs) → ∃ τ', f_X8_save_9 n τ (nI c) (nI t) = some (nI (svF xs (m + 1) fs t c).2, τ') ∧ RM τ' (rd, xs, ou, (svF xs (m + 1) fs t c).1) := by
  intro m
  induction m with
  | zero =>
    intro t n τ fs c hm ht hn h
    have h9 := h.l1
    obtain ⟨i, rfl⟩ : ∃ i, n = i + 1 := ⟨n - 1, by omega⟩
    rw [svF, if_pos (by omega)]
    exact ⟨τ, by rw [f_X8_save_9, h.n1, if_pos (nI_le (by omega) (by omega))], h⟩
  | succ m ih =>
    intro t n τ fs c hm ht hn h
    have h9 := h.l1
    obtain ⟨i, rfl⟩ : ∃ i, n = i + 1 := ⟨n - 1, by omega⟩
    by_cases ct : xs.length ≤ t
    · rw [svF, if_pos ct]
      exact ⟨τ, by rw [f_X8_save_9, h.n1, if_pos (nI_le (by omega) (by omega))], h⟩
    obtain ⟨τ1, e1, h1⟩ := m_saved h (t := t) (by omega)
    rw [f_X8_save_9, h.n1, if_neg (nI_ge (by omega) (by omega)), e1, Option.bind_some, svF, if_neg ct]
    unfold f_X8_save_33 f_X8_save_45
    cases hs : svX xs fs t with
    | none =>
      rw [hs] at h1
      rw [show (if Option.isSome (none : Option FL) = true then nI (30 + nsA xs t + pkA xs t) else 0) = 0 from rfl, if_pos (show (0 : Int32) ≤ 0 by decide), if_pos (show (0 : Int32) ≤ 0 by decide), nI_1, show nI c + 0 = nI c from nI_add c 0]
      exact ih (t + 1) i τ1 fs c (by omega) (by omega) (by omega) h1
    | some gs =>
      have hle := svX_le hs
      rw [hs] at h1
      rw [show (if Option.isSome (some gs) = true then nI (30 + nsA xs t + pkA xs t) else 0) = nI (30 + nsA xs t + pkA xs t) from rfl, if_neg (nI_nle (by omega) (by omega)), if_neg (nI_nle (by omega) (by omega)), nI_1, nI_add, show t + (30 + nsA xs t + pkA xs t) = t + 30 + nsA xs t + pkA xs t by omega]
      exact ih (t + 30 + nsA xs t + pkA xs t) i τ1 gs (c + 1) (by omega) hle (by omega) h1
theorem m_save {τ : SM} (h : RM τ (rd, xs, ou, fs)) : ∃ τ', f_X8_save τ = some (nI (savS (rd, xs, ou, fs)).2, τ') ∧ RM τ' (savS (rd, xs, ou, fs)).1 := by
  have h9 := h.l1
  unfold f_X8_save
  have e := m_save_l (rd := rd) (xs := xs) (ou := ou) xs.length 0 fu (SMi τ 0 0) fs 0 (by omega) (by omega) (by unfold fu; omega) h.th
  exact e
end SAV2
