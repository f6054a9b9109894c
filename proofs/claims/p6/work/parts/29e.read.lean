/-! ===== PURE: the desk's read, whole ===== -/
theorem wf_pre {fs gs : FL} (h : wfF (fs ++ gs)) : wfF fs := by
  obtain ⟨h1, h2, h3, h4⟩ := h
  rw [List.length_append] at h1
  rw [tot_app] at h3
  refine ⟨by omega, fun f hf => h2 f (List.mem_append_left _ hf), by omega, ?_⟩
  rw [List.map_append, List.nodup_append] at h4
  exact h4.1
theorem d_load {xs : List Int32} (hb : ∀ x ∈ xs, byteP x) {e first : Nat} (he : e ≤ xs.length) (hf : first ≤ xs.length) (h9 : xs.length ≤ 9000) {L P : List Nat} (hL : L.length ≤ 20) (hl : P.length = L.length) (hc : ∀ c ∈ L, cenK xs e c = true) (hp : ∀ k, k < L.length → P.getD k 0 + lcP xs (L.getD k 0) ≤ first) : ∀ (m k s n : Nat) (σ : SD) (fs gs : FL), k + m = L.length → m < n → rowD σ 1 xs → (∃ ys, rowD σ 4 ys) → σ.1 6 0 = nI L.length → arr σ 25 L → arr σ 26 P → filesD pkS σ fs → conF xs ((L.zip P).drop k) s = some gs → wfF (fs ++ gs) → ∃ σ', f_X3_load_2 1 n σ (nI k) = some σ' ∧ filesD pkS σ' (fs ++ gs) ∧ (∀ q ys, q < 3 → rowD σ q ys → rowD σ' q ys) ∧ ∃ ys, rowD σ' 4 ys := by
  have c25 : capD 25 = 20 := rfl
  have c26 : capD 26 = 20 := rfl
  intro m
  induction m with
  | zero =>
    intro k s n σ fs gs hm hn h hu h6 hA hP hF hg hw
    obtain ⟨i, rfl⟩ : ∃ i, n = i + 1 := ⟨n - 1, by omega⟩
    rw [List.drop_of_length_le (by rw [List.length_zip]; omega), conF] at hg
    rw [← Option.some.inj hg, List.append_nil]
    exact ⟨σ, by rw [f_X3_load_2, h6, if_pos (nI_le (by omega) (by omega))], hF, fun _ _ _ q => q, hu⟩
  | succ m ih =>
    intro k s n σ fs gs hm hn h hu h6 hA hP hF hg hw
    obtain ⟨i, rfl⟩ : ∃ i, n = i + 1 := ⟨n - 1, by omega⟩
    have hck := hc _ (gN (show k < L.length by omega))
    have hAk := hA k (by omega)
    have hPk := hP k (by omega)
    have hpk := hp k (by omega)
    rw [zp hl (show k < L.length by omega)] at hg
    generalize hcc : L.getD k 0 = c at hck hAk hpk hg
    generalize hdd : P.getD k 0 = d at hPk hpk hg
    obtain ⟨-, -, k3, -, -, -, -, k8, k9⟩ := cenK_t hck
    obtain ⟨n1, n2, n3, n4⟩ := nameAt_u k9
    rw [conF] at hg
    by_cases c1 : szOk xs (c + 6) = true ∧ s + num4 xs (c + 24) ≤ 6000
    case neg => rw [if_neg c1] at hg; exact absurd hg (by simp)
    rw [if_pos c1, Option.bind_eq_some_iff] at hg
    obtain ⟨b, hu2, hg2⟩ := hg
    by_cases c2 : crcS b = nI (num4 xs (c + 16))
    case neg => rw [if_neg c2] at hg2; exact absurd hg2 (by simp)
    rw [if_pos c2, Option.map_eq_some_iff] at hg2
    obtain ⟨o, ho1, ho2⟩ := hg2
    obtain ⟨σ1, e1, x1, H1⟩ := d_parse h hb (a := c + 6) (by omega)
    have H := H1 k3
    have h1 : rowD σ1 1 xs := h.exH x1
    have u1 : ∃ ys, rowD σ1 4 ys := hu.elim fun ys hy => ⟨ys, hy.exH x1⟩
    have hns : σ1.1 14 0 = nI (cnN xs c) := by rw [H.2.2.2.2]; unfold cnN; rw [show c + 6 + 22 = c + 28 by omega]
    have hp2 : d + num4 xs (c + 6 + 14) ≤ xs.length := by
      rw [show c + 6 + 14 = c + 20 by omega]; unfold lcP at hpk; omega
    obtain ⟨σ2, e2, x2, u2, b2⟩ := d_unpack h1 hb u1 H c1.1 hp2
    have hrow := b2 b hu2
    have X2 := x1.k.tr x2.k
    have hwp : wfF fs := wf_pre hw
    have hF2 : filesD pkS σ2 fs := hF.exD hwp X2.d
    have t2 : rowD σ2 1 xs := h1.ot x2 (by decide)
    have hns2 : σ2.1 14 0 = nI (cnN xs c) := by rw [x2.1 14 0 (by omega)]; exact hns
    rw [← ho2] at hw ⊢
    have hw2 : wfF (fs ++ [(cnm xs c, b)]) := by
      rw [show fs ++ (cnm xs c, b) :: o = (fs ++ [(cnm xs c, b)]) ++ o by simp] at hw
      exact wf_pre hw
    have hl2 : fs.length < 20 := by have := hw2.1; rw [List.length_append, List.length_singleton] at this; omega
    have ht2 : tot fs + b.length ≤ 6000 := by have := hw2.2.2.1; rw [tot_app, tot_cons] at this; exact this
    obtain ⟨σ3, e3, f3, x3⟩ := d_put hF2 hwp (r := 1) (q := 4) (by decide) (by decide) t2 hrow (a := c + 46) (n := cnN xs c) (b := 0) (m := b.length) n3 n2 (by omega) hl2 ht2
    rw [List.drop_zero, List.take_length] at f3
    have n6 : nI c + 6 = nI (c + 6) := nI_add c 6
    have n46 : nI c + 46 = nI (c + 46) := nI_add c 46
    obtain ⟨σ4, e4, f4, r4, u4⟩ := ih (k + 1) (s + num4 xs (c + 24)) i σ3 (fs ++ [(cnm xs c, b)]) o (by omega) (by omega) (t2.exS x3 (by decide)) ⟨b, hrow.exS x3 (by decide)⟩ (by rw [x3.1 6 0 (Or.inr (by decide)), X2.1 6 0 (by decide) (by omega)]; exact h6) (fun j hj => by rw [x3.2.2 25 (by omega), X2.2.1 25 (by decide)]; exact hA j hj) (fun j hj => by rw [x3.2.2 26 (by omega), X2.2.1 26 (by decide)]; exact hP j hj) f3 ho1 (by rw [List.append_assoc]; exact hw)
    refine ⟨σ4, ?_, by rw [List.append_assoc] at f4; exact f4, fun q ys hq hy => r4 q ys hq ((hy.exK X2 (by omega)).exS x3 (Or.inl hq)), u4⟩
    rw [f_X3_load_2, h6, if_neg (nI_ge (by omega) (by omega)), if_pos (inb_t (by omega) (by omega)), nI_clamp (by omega), hAk, n6, e1, k3, Option.bind_some, if_neg (show ¬ b2i true = 0 by decide), if_pos (inb_t (by omega) (by omega)), show σ1.2.2.1 26 k = nI d by rw [x1.2]; exact hPk, e2, hu2, Option.bind_some, if_neg (show ¬ b2i (Option.isSome (some b)) = 0 by show ¬ b2i true = 0; decide), r_size hrow, Option.bind_some, hns2, n46, show f_X5_put σ2 1 (nI (c + 46)) (nI (cnN xs c)) 4 0 (nI b.length) = _ from e3, Option.bind_some]
    unfold f_X3_load_81
    rw [nI_1, e4]
theorem d_read {σ : SD} {rd xs ou : List Int32} {fs : FL} (h : RD pkS σ (rd, xs, ou, fs)) : ∃ σ', f_X7_read σ = some (match rdS xs with | some gs => Sum.inl (nI gs.length) | none => Sum.inr 1, σ') ∧ RD pkS σ' (rd, xs, ou, (rdS xs).getD fs) := by
  have hb := h.b1
  have h9 := h.t.le
  have x0 : exI σ (SDi (SDi (SDi σ 9 0 0) 10 0 (-1)) 11 0 (-1)) := ((exI.si (by decide)).tr (exI.si (by decide))).tr (exI.si (by decide))
  obtain ⟨σ1, e1, x1, y1⟩ := d_endPasses (h.t.exI x0) hb
  have X1 := x0.tr x1
  have hu1 : ∃ ys, rowD σ1 4 ys := h.u.elim fun ys hy => ⟨ys, hy.exI X1⟩
  have bad : ∀ σ', f_X3_passes σ 1 = some (0, σ') → exD σ σ' → (∃ ys, rowD σ' 4 ys) → rdS xs = none → ∃ σ', f_X7_read σ = some (match rdS xs with | some gs => Sum.inl (nI gs.length) | none => Sum.inr 1, σ') ∧ RD pkS σ' (rd, xs, ou, (rdS xs).getD fs) := by
    intro σ' q1 q2 q3 q4
    rw [q4]
    refine ⟨σ', ?_, h.rdr q2 q3⟩
    unfold f_X7_read
    rw [q1, Option.bind_some, if_pos (show (0 : Int32) = 0 from rfl)]
  have hW := f_X3_passes.eq_1 σ 1
  rw [e1, Option.bind_some] at hW
  by_cases c1 : eoK xs = true
  case neg =>
    have c1' : eoK xs = false := by simpa using c1
    rw [c1', if_pos (show b2i false = 0 from rfl)] at hW
    exact bad σ1 hW X1.d hu1 (by unfold rdS; rw [if_neg c1])
  obtain ⟨y6, y7, y8⟩ := y1 c1
  obtain ⟨g1, g2, g3, g4, g5, g6, g7, g8, g9⟩ := eoK_t c1
  have hE : eoE xs ≤ xs.length := by unfold eoE; omega
  have hFE : eoF xs ≤ eoE xs := by omega
  have t1 : rowD σ1 1 xs := (h.t.exI x0).exI x1
  obtain ⟨σ2, e2, x2, y2⟩ := d_cenPass hb hE g6 h9 (eoN xs) (eoF xs) fu σ1 [] (by show 0 + _ = _; omega) (by unfold fu; omega) (by omega) t1 y6 y8 (fun i hi => absurd hi (Nat.not_lt_zero i)) (fun c hc => absurd hc List.not_mem_nil)
  have hu2 : ∃ ys, rowD σ2 4 ys := hu1.elim fun ys hy => ⟨ys, hy.exC x2 (by decide)⟩
  have X2 : exD σ σ2 := X1.d.tr x2.d
  have e2' : f_X3_centralsPass σ1 1 = some (b2i (cenF xs (eoE xs) (eoN xs) (eoF xs) []).isSome, σ2) := by
    unfold f_X3_centralsPass
    rw [y7]
    exact e2
  rw [c1, if_neg (show ¬ b2i true = 0 by decide), e2', Option.bind_some] at hW
  cases hC : cenF xs (eoE xs) (eoN xs) (eoF xs) [] with
  | none =>
    rw [hC, if_pos (show b2i (Option.isSome (none : Option (List Nat))) = 0 from rfl)] at hW
    exact bad σ2 hW X2 hu2 (by unfold rdS; rw [if_pos c1, hC]; rfl)
  | some L =>
    obtain ⟨l1, l2, -⟩ := cenF_t hE _ _ _ _ ⟨fun c hc => absurd hc List.not_mem_nil, List.nodup_nil⟩ hC
    have hLN : L.length = eoN xs := by rw [l2]; show 0 + _ = _; omega
    have hA2 := y2 L hC
    have t2 : rowD σ2 1 xs := t1.exC x2 (by decide)
    have z6 : σ2.1 6 0 = nI L.length := by rw [x2.1 6 0 (by decide), y6, hLN]
    have z7 : σ2.1 7 0 = nI (eoF xs) := by rw [x2.1 7 0 (by decide), y7]
    obtain ⟨σ3, e3, x3, y3, -, w3⟩ := d_locPass hb hE (by omega) h9 (by omega) l1.1 L.length 0 0 fu σ2 (by omega) (by unfold fu; omega) (by omega) t2 z6 z7 hA2
    rw [List.drop_zero] at e3 w3
    have hu3 : ∃ ys, rowD σ3 4 ys := hu2.elim fun ys hy => ⟨ys, hy.exC x3 (by decide)⟩
    have X3 : exD σ σ3 := X2.tr x3.d
    have e3' : f_X3_localsPass σ2 1 = some (b2i (locF xs (eoF xs) L 0).isSome, σ3) := by
      unfold f_X3_localsPass
      exact e3
    rw [hC, if_neg (show ¬ b2i (Option.isSome (some L)) = 0 by show ¬ b2i true = 0; decide), e3', Option.bind_some] at hW
    cases hLc : locF xs (eoF xs) L 0 with
    | none =>
      rw [hLc, if_pos (show b2i (Option.isSome (none : Option (List Nat))) = 0 from rfl)] at hW
      exact bad σ3 hW X3 hu3 (by unfold rdS; rw [if_pos c1, hC, Option.bind_some, hLc]; rfl)
    | some P =>
      obtain ⟨m1, m2⟩ := locF_t _ _ _ hLc
      have hp : ∀ k, k < L.length → P.getD k 0 + lcP xs (L.getD k 0) ≤ eoF xs := fun k hk => by
        have := m2 (L.getD k 0, P.getD k 0) (by
          have hz := zp m1 hk
          exact List.mem_of_mem_drop (by rw [hz]; exact List.mem_cons_self))
        exact this
      have t3 : rowD σ3 1 xs := t2.exC x3 (by decide)
      have v6 : σ3.1 6 0 = nI L.length := by rw [x3.1 6 0 (by decide)]; exact z6
      have hA3 : arr σ3 25 L := fun i hi => by rw [y3]; exact hA2 i hi
      have hP3 : arr σ3 26 P := fun i hi => by
        have := w3 P hLc i hi
        rw [Nat.zero_add] at this
        exact this
      obtain ⟨σ4, e4, x4, u4⟩ := d_conPass hb hE (by omega) h9 (by omega) m1 l1.1 hp L.length 0 0 fu σ3 (by omega) (by unfold fu; omega) (by omega) t3 hu3 v6 hA3 hP3
      rw [List.drop_zero] at e4
      have X4 : exD σ σ4 := X3.tr x4.d
      have e4' : f_X3_contentsPass σ3 1 = some (b2i (conF xs (L.zip P) 0).isSome, σ4) := by
        unfold f_X3_contentsPass
        exact e4
      rw [hLc, if_neg (show ¬ b2i (Option.isSome (some P)) = 0 by show ¬ b2i true = 0; decide), e4', Option.bind_some] at hW
      have hR : rdS xs = conF xs (L.zip P) 0 := by unfold rdS; rw [if_pos c1, hC, Option.bind_some, hLc, Option.bind_some]
      cases hG : conF xs (L.zip P) 0 with
      | none =>
        rw [hG, if_pos (show b2i (Option.isSome (none : Option FL)) = 0 from rfl)] at hW
        exact bad σ4 hW X4 u4 (by rw [hR, hG])
      | some gs =>
        obtain ⟨wf, hgl⟩ := rd_ok hb (by omega : eoF xs ≤ xs.length) l1 (by omega) hLc hG
        rw [hG, if_neg (show ¬ b2i (Option.isSome (some gs)) = 0 by show ¬ b2i true = 0; decide)] at hW
        have h4 : RD pkS σ4 (rd, xs, ou, fs) := h.rdr X4 u4
        obtain ⟨h5, k1, k2, k3, all, st, k4, k5, k6, k7⟩ := filesD_en.mp h4.fi
        have r5 : rowD (SDi σ4 5 0 0) 3 all := k4.si (by decide)
        obtain ⟨σ5, e5, r6, x5⟩ := r_short0 r5
        have xs5 : exS σ4 σ5 := (exS.si (by decide)).tr (x5.s (Or.inl rfl))
        have hF5 : filesD pkS σ5 [] := by
          refine filesD_en.mpr ⟨by rw [x5.1 5 0 (by omega)]; rfl, by rw [x5.2.2.2]; exact k1, by rw [x5.2.2.2]; exact k2, fun e he => ?_, [], fun _ => 0, r6, rfl, fun k hk => absurd hk (Nat.not_lt_zero k), fun i j hi => absurd hi (Nat.not_lt_zero i)⟩
          obtain ⟨ys, hy⟩ := k3 e he
          exact ⟨ys, (hy.si (by decide)).ot x5 (by omega)⟩
        obtain ⟨σ6, e6, f6, r7, u6⟩ := d_load hb hE (by omega : eoF xs ≤ xs.length) h9 (by omega) m1 l1.1 hp L.length 0 0 fu σ5 [] gs (by omega) (by unfold fu; omega) (h4.t.exS xs5 (by decide)) (u4.elim fun ys hy => ⟨ys, hy.exS xs5 (by decide)⟩) (by rw [xs5.1 6 0 (Or.inr (by decide)), x4.1 6 0 (by decide) (by omega)]; exact v6) (fun j hj => by rw [xs5.2.2 25 (by omega), x4.2.1 25 (by decide)]; exact hA3 j hj) (fun j hj => by rw [xs5.2.2 26 (by omega), x4.2.1 26 (by decide)]; exact hP3 j hj) hF5 (by rw [List.drop_zero]; exact hG) (by rw [List.nil_append]; exact wf)
        rw [List.nil_append] at f6
        rw [hR, hG]
        refine ⟨σ6, ?_, ?_⟩
        · unfold f_X7_read f_X5_takeOutAll f_X5_count f_X3_load
          rw [hW, Option.bind_some, if_neg (show ¬ (1 : Int32) = 0 by decide), e5, Option.bind_some, Option.bind_some, show f_X3_load_2 1 fu σ5 0 = _ from e6, Option.bind_some, Option.bind_some, f6.1]
        · obtain ⟨⟨w1, w2, w3', w4, w5, w6, w7⟩, a0, a1, a2, -, -⟩ := h4
          exact ⟨⟨w1, w2, w3', wf, w5, w6, w7⟩, r7 0 _ (by decide) (a0.exS xs5 (by decide)), r7 1 _ (by decide) (a1.exS xs5 (by decide)), r7 2 _ (by decide) (a2.exS xs5 (by decide)), u6, f6⟩
