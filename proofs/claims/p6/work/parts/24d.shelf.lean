/-! ===== PURE: the desk: a file taken out, new bytes, a new name ===== -/
def tgt (p : Nat → Nat) (k j i : Nat) : Nat := if k ≤ i ∧ i + 1 < j then p (i + 1) else p i
/-- which of the old places place i has after file k of n went -/
def rho (k n i : Nat) : Nat := if i < k then i else if i + 1 < n then i + 1 else if i + 1 = n then k else i
theorem rho_inj {k n i j : Nat} (hk : k < n) (h : rho k n i = rho k n j) : i = j := by
  unfold rho at h
  (repeat' split at h) <;> omega
theorem rho_lt {k n i : Nat} (hk : k < n) (hn : n ≤ 20) (hi : i < 20) : rho k n i < 20 := by
  unfold rho
  (repeat' split) <;> omega
theorem out_l {len k e : Nat} {p : Nat → Nat} (hlen : len ≤ 20) (hk : k < len) (hp20 : ∀ k, k < 20 → p k < 20) (x1 : Int32) : ∀ (m j n : Nat) (σ : SD), j + m = len → k + 1 ≤ j → m < n → σ.1 5 0 = nI len → σ.2.2.2 = tgt p k j → f_X5_takeOut_20 x1 n σ e (nI j) = some (SDi (σ.1, σ.2.1, σ.2.2.1, va_up (tgt p k len) (len - 1) e) 5 0 (nI (len - 1))) := by
  intro m
  induction m with
  | zero =>
    intro j n σ hj hkj hn h1 h2
    obtain ⟨i, rfl⟩ : ∃ i, n = i + 1 := ⟨n - 1, by omega⟩
    obtain rfl : j = len := by omega
    rw [f_X5_takeOut_20, h1, if_pos (nI_le (Nat.le_refl _) (by omega)), show (1 : Int32) = nI 1 from rfl, pk_sub (by omega), if_pos (inb_t (by omega) (by omega)), nI_clamp (by omega), show (SDe σ (j - 1) e).1 5 0 = nI j from h1, pk_sub (by omega)]
    unfold SDe
    rw [h2]
  | succ m ih =>
    intro j n σ hj hkj hn h1 h2
    obtain ⟨i, rfl⟩ : ∃ i, n = i + 1 := ⟨n - 1, by omega⟩
    have hqj : σ.2.2.2 j = p j := by
      rw [h2]
      unfold tgt
      rw [if_neg (by omega)]
    have hq : (SDe σ (j - 1) (p j)).2.2.2 = tgt p k (j + 1) := by
      show va_up σ.2.2.2 (j - 1) (p j) = _
      rw [h2]
      funext x
      unfold va_up tgt
      by_cases c : x = j - 1
      · rw [if_pos c, if_pos (by omega), show x + 1 = j by omega]
      · rw [if_neg c]
        by_cases c2 : k ≤ x ∧ x + 1 < j
        · rw [if_pos c2, if_pos (by omega)]
        · rw [if_neg c2, if_neg (by omega)]
    rw [f_X5_takeOut_20, h1, if_neg (nI_ge (by omega) (by omega)), if_pos (inb_t (by omega) (by omega)), nI_clamp (by omega), hqj, if_pos (hp20 j (by omega)), show (1 : Int32) = nI 1 from rfl, pk_sub (by omega), if_pos (inb_t (by omega) (by omega)), nI_clamp (by omega), nI_add, ih (j + 1) i (SDe σ (j - 1) (p j)) (by omega) (by omega) (by omega) h1 hq]
    rfl
theorem out_rho {len k : Nat} {p : Nat → Nat} (hk : k < len) (i : Nat) : va_up (tgt p k len) (len - 1) (p k) i = p (rho k len i) := by
  unfold va_up tgt rho
  by_cases c1 : i = len - 1
  · rw [if_pos c1]
    by_cases c2 : i < k
    · omega
    · rw [if_neg c2, if_neg (by omega), if_pos (by omega)]
  · rw [if_neg c1]
    by_cases c2 : i < k
    · rw [if_pos c2, if_neg (by omega)]
    · rw [if_neg c2]
      by_cases c3 : i + 1 < len
      · rw [if_pos c3, if_pos ⟨by omega, c3⟩]
      · rw [if_neg c3, if_neg (by omega), if_neg (by omega)]
section DSK6
variable {σ : SD} {fs : FL}
theorem fby_erase {k j : Nat} : fby (fs.eraseIdx k) j = if j < k then fby fs j else fby fs (j + 1) := by
  unfold fby
  rw [getD_erase]
  by_cases c : j < k
  · rw [if_pos c, if_pos c]
  · rw [if_neg c, if_neg c]
theorem d_takeOut (h : filesD pkS σ fs) (hw : wfF fs) {k : Nat} (hk : k < fs.length) : ∃ σ', f_X5_takeOut σ (nI k) = some σ' ∧ filesD pkS σ' (fs.eraseIdx k) ∧ exS σ σ' := by
  have h20 := hw.1
  obtain ⟨h1, h2, h3, h4, all, st, h5, h6, h7, h8⟩ := filesD_en.mp h
  obtain ⟨σ1, e1, r1, y1, y2, y3, y4, y5⟩ := d_release h hw hk h5 h7 h8
  have hpk := h2 k (by omega)
  have e2 := out_l (len := fs.length) (k := k) (e := σ.2.2.2 k) (p := σ.2.2.2) h20 hk h2 (nI k) (fs.length - (k + 1)) (k + 1) fu σ1 (by omega) (Nat.le_refl _) (by unfold fu; omega) (by rw [y2 5 0 (by omega) (by decide)]; exact h1) (by
    rw [y5]
    funext x
    unfold tgt
    rw [if_neg (by omega)])
  have hl : (fs.eraseIdx k).length = fs.length - 1 := by rw [List.length_eraseIdx, if_pos hk]
  have hrho : ∀ i, i < fs.length - 1 → rho k fs.length i = if i < k then i else i + 1 := fun i hi => by
    unfold rho
    by_cases c : i < k
    · rw [if_pos c, if_pos c]
    · rw [if_neg c, if_neg c, if_pos (by omega)]
  have hrl : ∀ i, i < fs.length - 1 → rho k fs.length i < fs.length ∧ rho k fs.length i ≠ k ∧ (fs.eraseIdx k).getD i ([], []) = fs.getD (rho k fs.length i) ([], []) := fun i hi => by
    rw [hrho i hi, getD_erase]
    by_cases c : i < k
    · rw [if_pos c, if_pos c]; exact ⟨by omega, by omega, rfl⟩
    · rw [if_neg c, if_neg c]; exact ⟨by omega, by omega, rfl⟩
  have a6 : st k + (fby fs k).length ≤ all.length := (h7 k hk).2.2.2.2.2.1
  have hte := tot_erase hk
  have r1' : rowD (σ1.1, σ1.2.1, σ1.2.2.1, va_up (tgt σ.2.2.2 k fs.length) (fs.length - 1) (σ.2.2.2 k)) 3 (all.take (st k) ++ all.drop (st k + (fby fs k).length)) := r1
  refine ⟨SDi (σ1.1, σ1.2.1, σ1.2.2.1, va_up (tgt σ.2.2.2 k fs.length) (fs.length - 1) (σ.2.2.2 k)) 5 0 (nI (fs.length - 1)), ?_, filesD_en.mpr ⟨?_, fun i hi => ?_, fun i j hi hj q => ?_, fun e he => ?_, _, fun i => nst (st k) (fby fs k).length (st (rho k fs.length i)), r1'.si (by decide), ?_, fun i hi => ?_, fun i j hi hj hij => ?_⟩, ?_⟩
  · unfold f_X5_takeOut
    rw [d_entry h hw, Option.bind_some, isF_n (by omega), decide_eq_true hk, if_pos rfl, nI_toInt (by omega), Int.toNat_natCast]
    show (if σ.2.2.2 k < 20 then _ else _) = _
    rw [if_pos hpk, e1, Option.bind_some, nI_1]
    exact e2
  · rw [SDi_g, hl]
  · show va_up (tgt σ.2.2.2 k fs.length) (fs.length - 1) (σ.2.2.2 k) i < 20
    rw [out_rho hk]
    exact h2 _ (rho_lt hk h20 hi)
  · have q2 : va_up (tgt σ.2.2.2 k fs.length) (fs.length - 1) (σ.2.2.2 k) i = va_up (tgt σ.2.2.2 k fs.length) (fs.length - 1) (σ.2.2.2 k) j := q
    rw [out_rho hk, out_rho hk] at q2
    exact rho_inj hk (h3 _ _ (rho_lt hk h20 hi) (rho_lt hk h20 hj) q2)
  · obtain ⟨xs, hx⟩ := h4 e he
    exact ⟨xs, ⟨by rw [SDi_n (by omega)]; show σ1.1 0 (5 + e) = _; rw [y2 0 _ (by omega) (by decide)]; exact hx.1, hx.2.1, fun i hi => by show σ1.2.2.1 (5 + e) i = _; rw [y4 _ (by omega)]; exact hx.2.2 i hi⟩⟩
  · rw [List.length_append, List.length_take, List.length_drop]
    omega
  · rw [hl] at hi
    obtain ⟨q1, q2, q3⟩ := hrl i hi
    rw [q3]
    show enD _ _ (va_up (tgt σ.2.2.2 k fs.length) (fs.length - 1) (σ.2.2.2 k) i) _ _
    rw [out_rho hk]
    have hen := y1 _ q1 q2
    obtain ⟨b1, b2⟩ := hen
    refine ⟨⟨?_, b1.2⟩, b2⟩
    rw [SDi_n (by omega)]
    exact b1.1
  · rw [hl] at hi hj
    obtain ⟨q1, q2, q3⟩ := hrl i hi
    obtain ⟨p1, p2, p3⟩ := hrl j hj
    have hne : rho k fs.length i ≠ rho k fs.length j := fun q => hij (rho_inj hk q)
    show nst _ _ (st (rho k fs.length i)) + (fby (fs.eraseIdx k) i).length ≤ nst _ _ (st (rho k fs.length j)) ∨ nst _ _ (st (rho k fs.length j)) + (fby (fs.eraseIdx k) j).length ≤ nst _ _ (st (rho k fs.length i))
    rw [show fby (fs.eraseIdx k) i = fby fs (rho k fs.length i) by unfold fby; rw [q3], show fby (fs.eraseIdx k) j = fby fs (rho k fs.length j) by unfold fby; rw [p3]]
    have d1 := h8 _ _ q1 p1 hne
    have d2 := h8 _ _ hk q1 (fun e => q2 e.symm)
    have d3 := h8 _ _ hk p1 (fun e => p2 e.symm)
    unfold nst
    (repeat' split) <;> omega
  · refine ⟨fun f i hfi => ?_, y3, fun a ha => y4 a (by omega)⟩
    rw [SDi_n (by omega)]
    exact y2 f i (by omega) (by omega)
theorem d_takeOutN (h : filesD pkS σ fs) (hw : wfF fs) {x : Int32} (hx : isF fs.length x = false) : f_X5_takeOut σ x = some σ := by
  unfold f_X5_takeOut
  rw [d_entry h hw, Option.bind_some, hx]
  rfl
theorem fby_set {k j : Nat} {f : List Int32 × List Int32} (hk : k < fs.length) : fby (fs.set k f) j = if j = k then f.2 else fby fs j := by
  unfold fby
  rw [getD_set hk]
  by_cases c : j = k
  · rw [if_pos c, if_pos c]
  · rw [if_neg c, if_neg c]
theorem d_changeBytes (h : filesD pkS σ fs) (hw : wfF fs) {k : Nat} (hk : k < fs.length) {r : Nat} (hr : r < 3 ∨ r = 4) {ys : List Int32} (g : rowD σ r ys) (h6k : tot fs + ys.length ≤ 6000 + (fby fs k).length) : ∃ σ', f_X5_changeBytes σ (nI k) r = some σ' ∧ filesD pkS σ' (fs.set k (fnm fs k, ys)) ∧ exS σ σ' := by
  have h20 := hw.1
  obtain ⟨h1, h2, h3, h4, all, st, h5, h6, h7, h8⟩ := filesD_en.mp h
  obtain ⟨σ1, e1, r1, y1, y2, y3, y4, y5⟩ := d_release h hw hk h5 h7 h8
  have hpk := h2 k (by omega)
  have a6 : st k + (fby fs k).length ≤ all.length := (h7 k hk).2.2.2.2.2.1
  have hl : (all.take (st k) ++ all.drop (st k + (fby fs k).length)).length = all.length - (fby fs k).length := by
    rw [List.length_append, List.length_take, List.length_drop]
    omega
  have g1 : rowD σ1 r ys := ⟨by rw [y2 0 r (by omega) (by decide)]; exact g.1, g.2.1, fun i hi => by rw [y4 r (by omega)]; exact g.2.2 i hi⟩
  obtain ⟨σ2, e2, r2, s1, s2, s3, s4, z1, z2, z3, z4⟩ := d_fill (e := σ.2.2.2 k) (show r ≠ 3 by omega) r1 g1 (a := 0) (n := ys.length) (by omega) (by omega)
  rw [List.drop_zero, List.take_length] at r2 s3 s4
  rw [hl] at s1
  have hp2 : σ2.2.2.2 = σ.2.2.2 := z4.trans y5
  have hts := tot_set hk (fnm fs k, ys)
  have hts2 : tot (fs.set k (fnm fs k, ys)) + (fby fs k).length = tot fs + ys.length := hts
  have hnm : rowD σ2 (5 + σ.2.2.2 k) (fnm fs k) := by
    have hx := (h7 k hk).1
    exact ⟨by rw [z1 0 _ (by omega) (by omega), y2 0 _ (by omega) (by decide)]; exact hx.1, hx.2.1, fun i hi => by rw [z3 _ (by omega), y4 _ (by omega)]; exact hx.2.2 i hi⟩
  refine ⟨σ2, ?_, filesD_en.mpr ⟨?_, ?_, ?_, fun e he => ?_, _, fun i => if i = k then all.length - (fby fs k).length else nst (st k) (fby fs k).length (st i), r2, ?_, fun i hi => ?_, fun i j hi hj hij => ?_⟩, ?_⟩
  · unfold f_X5_changeBytes
    rw [d_entry h hw, Option.bind_some, isF_n (by omega), decide_eq_true hk, if_pos rfl, nI_toInt (by omega), Int.toNat_natCast]
    show (if σ.2.2.2 k < 20 then _ else _) = _
    rw [if_pos hpk, e1, Option.bind_some, r_size g1, Option.bind_some, show (0 : Int32) = nI 0 from rfl, e2, Option.bind_some]
  · rw [z1 5 0 (by omega) (by omega), y2 5 0 (by omega) (by decide), List.length_set]; exact h1
  · rw [hp2]; exact h2
  · rw [hp2]; exact h3
  · obtain ⟨xs, hx⟩ := h4 e he
    exact ⟨xs, ⟨by rw [z1 0 _ (by omega) (by omega), y2 0 _ (by omega) (by decide)]; exact hx.1, hx.2.1, fun i hi => by rw [z3 _ (by omega), y4 _ (by omega)]; exact hx.2.2 i hi⟩⟩
  · rw [List.length_append, hl]
    omega
  · rw [List.length_set] at hi
    rw [hp2, getD_set hk]
    by_cases c : i = k
    · subst c
      rw [if_pos rfl]
      show enD σ2 _ _ _ (if i = i then _ else _)
      rw [if_pos rfl]
      refine ⟨hnm, s1, s2, s3, s4, ?_, ?_⟩
      · show _ + ys.length ≤ _
        rw [List.length_append, hl]
        exact Nat.le_refl _
      · show (List.drop _ _).take ys.length = ys
        rw [← hl, List.drop_left, List.take_length]
    · rw [if_neg c]
      show enD σ2 _ _ _ (if i = k then _ else _)
      rw [if_neg c]
      have hne : σ.2.2.2 i ≠ σ.2.2.2 k := fun q => c (h3 i k (by omega) (by omega) q)
      have hk3 := y1 i hi c
      have hkb := hk3.2.2.2.2.2.1
      refine hk3.ot ?_ ?_ ?_ ?_ ?_ ?_ (by rw [List.length_append]; omega) (sl_app hkb)
      · rw [z1 _ _ (by omega) (by omega)]
      · rw [z1 _ _ (by omega) (by omega)]
      · rw [z1 _ _ (by omega) (by omega)]
      · rw [z1 _ _ (by omega) (by omega)]
      · rw [z1 _ _ (by omega) (by omega)]
      · rw [z3 _ (by omega)]
  · rw [List.length_set] at hi hj
    show (if i = k then _ else _) + _ ≤ (if j = k then _ else _) ∨ (if j = k then _ else _) + _ ≤ (if i = k then _ else _)
    rw [fby_set hk, fby_set hk]
    by_cases ci : i = k
    · have cj : ¬ j = k := fun q => hij (ci.trans q.symm)
      have hkb := (y1 j hj cj).2.2.2.2.2.1
      rw [hl] at hkb
      rw [if_pos ci, if_neg cj, if_neg cj]
      exact Or.inr hkb
    · rw [if_neg ci, if_neg ci]
      by_cases cj : j = k
      · have hkb := (y1 i hi ci).2.2.2.2.2.1
        rw [hl] at hkb
        rw [if_pos cj]
        exact Or.inl hkb
      · rw [if_neg cj, if_neg cj]
        have d1 := h8 _ _ hi hj hij
        have d2 := h8 _ _ hk hi (fun e => ci e.symm)
        have d3 := h8 _ _ hk hj (fun e => cj e.symm)
        unfold nst
        (repeat' split) <;> omega
  · refine ⟨fun f i hfi => ?_, z2.trans y3, fun a ha => (z3 a (by omega)).trans (y4 a (by omega))⟩
    rw [z1 f i (by omega) (by omega), y2 f i (by omega) (by omega)]
theorem d_changeName (h : filesD pkS σ fs) (hw : wfF fs) {k : Nat} (hk : k < fs.length) {r : Nat} (hr : r < 3 ∨ r = 4) {ys : List Int32} (g : rowD σ r ys) (h30 : ys.length ≤ 30) : ∃ σ', f_X5_changeName σ (nI k) r = some σ' ∧ filesD pkS σ' (fs.set k (ys, fby fs k)) ∧ exS σ σ' := by
  have h20 := hw.1
  obtain ⟨h1, h2, h3, h4, all, st, h5, h6, h7, h8⟩ := filesD_en.mp h
  have hpk := h2 k (by omega)
  have hen := h7 k hk
  obtain ⟨σ1, e1, r1, x1⟩ := d_setName hpk (show r ≠ 5 + σ.2.2.2 k by omega) hen.1 g (a := 0) (n := ys.length) (by omega) h30
  rw [List.drop_zero, List.take_length] at r1
  have hts : tot (fs.set k (ys, fby fs k)) + (fby fs k).length = tot fs + (fby fs k).length := tot_set hk (ys, fby fs k)
  refine ⟨σ1, ?_, filesD_en.mpr ⟨?_, ?_, ?_, fun e he => ?_, all, st, h5.ot x1 (by omega), by omega, fun i hi => ?_, fun i j hi hj hij => ?_⟩, x1.s (by omega)⟩
  · unfold f_X5_changeName
    rw [d_entry h hw, Option.bind_some, isF_n (by omega), decide_eq_true hk, if_pos rfl, nI_toInt (by omega), Int.toNat_natCast]
    show (if σ.2.2.2 k < 20 then _ else _) = _
    rw [if_pos hpk, r_size g, Option.bind_some, show (0 : Int32) = nI 0 from rfl, e1, Option.bind_some]
  · rw [x1.1 5 0 (by omega), List.length_set]; exact h1
  · rw [x1.2.2.2]; exact h2
  · rw [x1.2.2.2]; exact h3
  · by_cases c : e = σ.2.2.2 k
    · subst c; exact ⟨_, r1⟩
    · obtain ⟨xs, hx⟩ := h4 e he
      exact ⟨xs, hx.ot x1 (by omega)⟩
  · rw [List.length_set] at hi
    rw [x1.2.2.2, getD_set hk]
    by_cases c : i = k
    · subst c
      rw [if_pos rfl]
      obtain ⟨b1, b2, b3, b4, b5, b6, b7⟩ := hen
      refine ⟨r1, ?_, ?_, ?_, ?_, b6, b7⟩
      · rw [x1.1 _ _ (by omega)]; exact b2
      · rw [x1.1 _ _ (by omega)]; exact b3
      · rw [x1.1 _ _ (by omega)]; exact b4
      · rw [x1.1 _ _ (by omega)]; exact b5
    · rw [if_neg c]
      have hne : σ.2.2.2 i ≠ σ.2.2.2 k := fun q => c (h3 i k (by omega) (by omega) q)
      refine (h7 i hi).ot ?_ ?_ ?_ ?_ ?_ ?_ (h7 i hi).2.2.2.2.2.1 rfl
      · rw [x1.1 _ _ (by omega)]
      · rw [x1.1 _ _ (by omega)]
      · rw [x1.1 _ _ (by omega)]
      · rw [x1.1 _ _ (by omega)]
      · rw [x1.1 _ _ (by omega)]
      · rw [x1.2.2.1 _ (by omega)]
  · rw [List.length_set] at hi hj
    have e : ∀ i, fby (fs.set k (ys, fby fs k)) i = fby fs i := fun i => by
      rw [fby_set hk]
      by_cases c : i = k
      · rw [if_pos c, c]
      · rw [if_neg c]
    rw [e, e]
    exact h8 i j hi hj hij
end DSK6
