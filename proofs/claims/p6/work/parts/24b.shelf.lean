/-! ===== PURE: the desk's shelf: files come ===== -/
theorem rowD.si {σ : SD} {r f i : Nat} {v : Int32} {xs : List Int32} (h : rowD σ r xs) (hf : f ≠ 0) : rowD (SDi σ f i v) r xs := ⟨by simp only [SDi, u2]; rw [if_neg (fun q => hf q.1.symm)]; exact h.1, h.2⟩
theorem SDi_g {σ : SD} {f i : Nat} {v : Int32} : (SDi σ f i v).1 f i = v := if_pos ⟨rfl, rfl⟩
theorem SDi_n {σ : SD} {f i g j : Nat} {v : Int32} (h : ¬ (g = f ∧ j = i)) : (SDi σ f i v).1 g j = σ.1 g j := if_neg h
/-- all but the shelf is as it was -/
def exS (σ σ' : SD) : Prop := (∀ f i, (f = 0 ∧ (i < 3 ∨ i = 4)) ∨ 6 ≤ f → σ'.1 f i = σ.1 f i) ∧ σ'.2.1 = σ.2.1 ∧ ∀ a, a < 3 ∨ a = 4 ∨ 25 ≤ a → σ'.2.2.1 a = σ.2.2.1 a
theorem exS.rf {σ : SD} : exS σ σ := ⟨fun _ _ _ => rfl, rfl, fun _ _ => rfl⟩
theorem exS.tr {σ1 σ2 σ3 : SD} (h : exS σ1 σ2) (g : exS σ2 σ3) : exS σ1 σ3 := ⟨fun f i n => (g.1 f i n).trans (h.1 f i n), g.2.1.trans h.2.1, fun a n => (g.2.2 a n).trans (h.2.2 a n)⟩
theorem exR.s {σ σ' : SD} {r : Nat} (h : exR σ σ' r) (hr : r = 3 ∨ (5 ≤ r ∧ r < 25)) : exS σ σ' := ⟨fun f i n => h.1 f i (by omega), h.2.1, fun a n => h.2.2.1 a (by omega)⟩
theorem exS.si {σ : SD} {f i : Nat} {v : Int32} (hf : 1 ≤ f ∧ f ≤ 5) : exS σ (SDi σ f i v) := ⟨fun g j n => SDi_n (by omega), rfl, fun _ _ => rfl⟩
theorem exS.se {σ : SD} {k e : Nat} : exS σ (SDe σ k e) := ⟨fun _ _ _ => rfl, rfl, fun _ _ => rfl⟩
theorem rowD.exS {σ σ' : SD} {q : Nat} {xs : List Int32} (h : rowD σ q xs) (e : exS σ σ') (hq : q < 3 ∨ q = 4) : rowD σ' q xs := ⟨(e.1 0 q (Or.inl ⟨rfl, hq⟩)).trans h.1, h.2.1, fun i hi => by rw [e.2.2 q (by omega)]; exact h.2.2 i hi⟩
theorem d_setName {σ : SD} {e r : Nat} {nm ys : List Int32} (he : e < 20) (hr : r ≠ 5 + e) (h : rowD σ (5 + e) nm) (g : rowD σ r ys) {a n : Nat} (hn : a + n ≤ ys.length) (h30 : n ≤ 30) : ∃ σ', f_X1_setName σ e r (nI a) (nI n) = some σ' ∧ rowD σ' (5 + e) ((ys.drop a).take n) ∧ exR σ σ' (5 + e) := by
  have hcap : capD (5 + e) = 30 := by
    unfold capD
    rw [if_neg (by omega), if_neg (by omega), if_neg (by omega), if_neg (by omega), if_neg (by omega), if_pos (by omega)]
  obtain ⟨σ1, e1, r1, x1⟩ := r_short0 h
  obtain ⟨σ2, e2, r2, x2⟩ := r_append r1 (g.ot x1 hr) (a := a) (n := n) hn (by rw [hcap]; show 0 + n ≤ 30; omega)
  refine ⟨σ2, ?_, by simpa using r2, x1.tr x2⟩
  unfold f_X1_setName
  rw [e1, Option.bind_some, e2, Option.bind_some]
theorem d_fill {σ : SD} {e r : Nat} {all ys : List Int32} (hr : r ≠ 3) (h : rowD σ 3 all) (g : rowD σ r ys) {a n : Nat} (hn : a + n ≤ ys.length) (hc : all.length + n ≤ 6000) : ∃ σ', f_X5_fill σ e r (nI a) (nI n) = some σ' ∧ rowD σ' 3 (all ++ (ys.drop a).take n) ∧ σ'.1 1 e = nI all.length ∧ σ'.1 2 e = nI n ∧ σ'.1 3 e = nI (pkS ((ys.drop a).take n)) ∧ σ'.1 4 e = crcS ((ys.drop a).take n) ∧ (∀ f i, ¬ (f = 0 ∧ i = 3) → ¬ (1 ≤ f ∧ f ≤ 4 ∧ i = e) → σ'.1 f i = σ.1 f i) ∧ σ'.2.1 = σ.2.1 ∧ (∀ b, b ≠ 3 → σ'.2.2.1 b = σ.2.2.1 b) ∧ σ'.2.2.2 = σ.2.2.2 := by
  have g9 := g.le
  have hcap : capD 3 = 6000 := rfl
  have hl : ((ys.drop a).take n).length = n := sl_len hn
  have h1 : rowD (SDi σ 1 e (nI all.length)) 3 all := h.si (by decide)
  have g1 : rowD (SDi σ 1 e (nI all.length)) r ys := g.si (by decide)
  obtain ⟨σ2, e2, r2, x2⟩ := r_append h1 g1 (a := a) (n := n) hn (by rw [hcap]; exact hc)
  have hs2 : σ2.1 1 e = nI all.length := by rw [x2.1 1 e (by omega)]; exact SDi_g
  have r3 : rowD (SDi σ2 2 e (nI n)) 3 (all ++ (ys.drop a).take n) := r2.si (by decide)
  have r4 : rowD (SDi (SDi σ2 2 e (nI n)) 4 e (crcS ((ys.drop a).take n))) 3 (all ++ (ys.drop a).take n) := r3.si (by decide)
  have hlen : (all ++ (ys.drop a).take n).length = all.length + n := by rw [List.length_append, hl]
  have hsl : ((all ++ (ys.drop a).take n).drop all.length).take n = (ys.drop a).take n := by
    rw [List.drop_left, List.take_of_length_le (by omega)]
  have e3 := d_crc r3 (a := all.length) (k := n) (by omega)
  have e4 := d_fsz r4 (s := all.length) (n := n) (by omega)
  rw [hsl] at e3 e4
  have f2 : (foldB ((ys.drop a).take n)).length < 2 ^ 31 := by
    have := (foldB_len _ ((ys.drop a).take n) (Nat.le_refl _)).1
    omega
  have hmin : (if nI (foldB ((ys.drop a).take n)).length < nI n then nI (foldB ((ys.drop a).take n)).length else nI n) = nI (pkS ((ys.drop a).take n)) := by
    unfold pkS
    rw [hl]
    by_cases c : (foldB ((ys.drop a).take n)).length < n
    · rw [if_pos (nI_lt c (by omega)), Nat.min_eq_right (by omega)]
    · rw [if_neg (nI_nlt (by omega) f2), Nat.min_eq_left (by omega)]
  refine ⟨SDi (SDi (SDi σ2 2 e (nI n)) 4 e (crcS ((ys.drop a).take n))) 3 e (nI (pkS ((ys.drop a).take n))), ?_, r4.si (by decide), ?_, ?_, SDi_g, ?_, fun f i n1 n2 => ?_, x2.2.1, x2.2.2.1, x2.2.2.2⟩
  · unfold f_X5_fill
    rw [r_size h, Option.bind_some, e2, Option.bind_some, r_size r2, Option.bind_some, hs2, hlen, pk_sub (by omega), Nat.add_sub_cancel_left]
    rw [show (SDi σ2 2 e (nI n)).1 1 e = nI all.length from hs2, SDi_g, e3, Option.bind_some]
    rw [show (SDi (SDi σ2 2 e (nI n)) 4 e (crcS ((ys.drop a).take n))).1 1 e = nI all.length from hs2, show (SDi (SDi σ2 2 e (nI n)) 4 e (crcS ((ys.drop a).take n))).1 2 e = nI n from SDi_g (σ := σ2), e4, Option.bind_some, hmin]
  · exact hs2
  · exact SDi_g (σ := σ2)
  · exact SDi_g (σ := SDi σ2 2 e (nI n))
  · rw [SDi_n (by omega), SDi_n (by omega), SDi_n (by omega), x2.1 f i n1, SDi_n (by omega)]
theorem sl_app {xs ys : List Int32} {s n : Nat} (h : s + n ≤ xs.length) : ((xs ++ ys).drop s).take n = (xs.drop s).take n := by
  rw [List.drop_append_of_le_length (by omega), List.take_append_of_le_length (by rw [List.length_drop]; omega)]
/-- an entry is as it was where its cells are, and its bytes -/
theorem enD.ot {σ σ' : SD} {all all' : List Int32} {e s : Nat} {f : List Int32 × List Int32} (h : enD σ all e f s) (h0 : σ'.1 0 (5 + e) = σ.1 0 (5 + e)) (h1 : σ'.1 1 e = σ.1 1 e) (h2 : σ'.1 2 e = σ.1 2 e) (h3 : σ'.1 3 e = σ.1 3 e) (h4 : σ'.1 4 e = σ.1 4 e) (hA : σ'.2.2.1 (5 + e) = σ.2.2.1 (5 + e)) (hl : s + f.2.length ≤ all'.length) (hs : (all'.drop s).take f.2.length = (all.drop s).take f.2.length) : enD σ' all' e f s := by
  obtain ⟨⟨a1, a2, a3⟩, a4, a5, a6, a7, a8, a9⟩ := h
  exact ⟨⟨h0.trans a1, a2, fun i hi => by rw [hA]; exact a3 i hi⟩, h1.trans a4, h2.trans a5, h3.trans a6, h4.trans a7, hl, hs.trans a9⟩
section DSK4
variable {σ : SD} {fs : FL}
theorem d_put (h : filesD pkS σ fs) (hw : wfF fs) {r q : Nat} (hr : r < 3 ∨ r = 4) (hq : q < 3 ∨ q = 4) {ns ys : List Int32} (g1 : rowD σ r ns) (g2 : rowD σ q ys) {a n b m : Nat} (ha : a + n ≤ ns.length) (h30 : n ≤ 30) (hb : b + m ≤ ys.length) (h20 : fs.length < 20) (h6 : tot fs + m ≤ 6000) : ∃ σ', f_X5_put σ r (nI a) (nI n) q (nI b) (nI m) = some σ' ∧ filesD pkS σ' (fs ++ [((ns.drop a).take n, (ys.drop b).take m)]) ∧ exS σ σ' := by
  obtain ⟨h1, h2, h3, h4, all, st, h5, h6', h7, h8⟩ := filesD_en.mp h
  have he := h2 fs.length h20
  obtain ⟨nm0, hnm0⟩ := h4 (σ.2.2.2 fs.length) he
  obtain ⟨σ1, e1, r1, x1⟩ := d_setName he (by omega) hnm0 g1 ha h30
  have h51 : rowD σ1 3 all := h5.ot x1 (by omega)
  have g21 : rowD σ1 q ys := g2.ot x1 (by omega)
  obtain ⟨σ2, e2, r2, s1, s2, s3, s4, y1, y2, y3, y4⟩ := d_fill (e := σ.2.2.2 fs.length) (show q ≠ 3 by omega) h51 g21 hb (by omega)
  have hl : ((ys.drop b).take m).length = m := sl_len hb
  have hl2 : ((ns.drop a).take n).length = n := sl_len ha
  have hp2 : σ2.2.2.2 = σ.2.2.2 := y4.trans x1.2.2.2
  have h2c : σ2.1 5 0 = nI fs.length := by rw [y1 5 0 (by omega) (by omega), x1.1 5 0 (by omega)]; exact h1
  have hen : enD σ2 (all ++ (ys.drop b).take m) (σ.2.2.2 fs.length) ((ns.drop a).take n, (ys.drop b).take m) all.length := by
    refine ⟨⟨?_, r1.2.1, fun i hi => ?_⟩, s1, ?_, s3, s4, ?_, ?_⟩
    · rw [y1 0 _ (by omega) (by omega)]; exact r1.1
    · rw [y3 _ (by omega)]; exact r1.2.2 i hi
    · show σ2.1 2 _ = nI ((ys.drop b).take m).length
      rw [hl]; exact s2
    · show all.length + ((ys.drop b).take m).length ≤ _
      rw [List.length_append]; exact Nat.le_refl _
    · show ((all ++ (ys.drop b).take m).drop all.length).take ((ys.drop b).take m).length = _
      rw [List.drop_left, List.take_length]
  refine ⟨SDi σ2 5 0 (nI (fs.length + 1)), ?_, filesD_en.mpr ⟨?_, ?_, ?_, fun e he2 => ?_, all ++ (ys.drop b).take m, fun k => if k = fs.length then all.length else st k, r2.si (by decide), ?_, fun k hk => ?_, fun i j hi hj hij => ?_⟩, ?_⟩
  · unfold f_X5_put
    rw [h1, if_pos (show nI fs.length < 20 from nI_lt (b := 20) h20 (by decide)), if_pos (inb_t h20 (by omega)), nI_clamp (by omega), if_pos he, e1, Option.bind_some, e2, Option.bind_some, h2c, nI_1]
  · rw [SDi_g, List.length_append]; rfl
  · show ∀ k, k < 20 → σ2.2.2.2 k < 20
    rw [hp2]; exact h2
  · show ∀ i j, i < 20 → j < 20 → σ2.2.2.2 i = σ2.2.2.2 j → i = j
    rw [hp2]; exact h3
  · by_cases c : e = σ.2.2.2 fs.length
    · subst c
      exact ⟨_, hen.1.si (by decide)⟩
    · obtain ⟨xs, hx⟩ := h4 e he2
      have hx1 := hx.ot x1 (show 5 + e ≠ 5 + σ.2.2.2 fs.length by omega)
      have hx2 : rowD σ2 (5 + e) xs := ⟨by rw [y1 0 _ (by omega) (by omega)]; exact hx1.1, hx1.2.1, fun i hi => by rw [y3 _ (by omega)]; exact hx1.2.2 i hi⟩
      exact ⟨xs, hx2.si (by decide)⟩
  · rw [List.length_append, hl, tot_app, tot_cons, h6']
    show _ = tot fs + (((ys.drop b).take m).length + 0)
    rw [hl]
    omega
  · rw [List.length_append] at hk
    have hk2 : k < fs.length + 1 := hk
    show enD (SDi σ2 5 0 _) _ (σ2.2.2.2 k) _ (if k = fs.length then all.length else st k)
    rw [hp2]
    by_cases c : k = fs.length
    · subst c
      rw [if_pos rfl, List.getD_eq_getElem?_getD, List.getElem?_append_right (Nat.le_refl _), Nat.sub_self]
      obtain ⟨a1, a2⟩ := hen
      exact ⟨a1.si (by decide), a2⟩
    · rw [if_neg c, List.getD_eq_getElem?_getD, List.getElem?_append_left (by omega), ← List.getD_eq_getElem?_getD]
      have hk3 := h7 k (by omega)
      have hne : σ.2.2.2 k ≠ σ.2.2.2 fs.length := fun q => c (h3 k fs.length (by omega) h20 q)
      have hkb := hk3.2.2.2.2.2.1
      refine hk3.ot ?_ ?_ ?_ ?_ ?_ ?_ (by rw [List.length_append]; omega) (sl_app hkb)
      · rw [SDi_n (by omega), y1 _ _ (by omega) (by omega), x1.1 _ _ (by omega)]
      · rw [SDi_n (by omega), y1 _ _ (by omega) (by omega), x1.1 _ _ (by omega)]
      · rw [SDi_n (by omega), y1 _ _ (by omega) (by omega), x1.1 _ _ (by omega)]
      · rw [SDi_n (by omega), y1 _ _ (by omega) (by omega), x1.1 _ _ (by omega)]
      · rw [SDi_n (by omega), y1 _ _ (by omega) (by omega), x1.1 _ _ (by omega)]
      · show σ2.2.2.1 _ = _
        rw [y3 _ (by omega), x1.2.2.1 _ (by omega)]
  · have hi2 : i < fs.length + 1 := by rw [List.length_append] at hi; exact hi
    have hj2 : j < fs.length + 1 := by rw [List.length_append] at hj; exact hj
    have hby : ∀ i, i < fs.length → fby (fs ++ [((ns.drop a).take n, (ys.drop b).take m)]) i = fby fs i := fun i hi => by
      unfold fby
      rw [List.getD_eq_getElem?_getD, List.getElem?_append_left hi, ← List.getD_eq_getElem?_getD]
    show (if i = fs.length then all.length else st i) + _ ≤ (if j = fs.length then all.length else st j) ∨ (if j = fs.length then all.length else st j) + _ ≤ (if i = fs.length then all.length else st i)
    by_cases ci : i = fs.length
    · rw [if_pos ci, if_neg (by omega), hby j (by omega)]
      have hkb := (h7 j (by omega)).2.2.2.2.2.1
      exact Or.inr hkb
    · rw [if_neg ci, hby i (by omega)]
      by_cases cj : j = fs.length
      · rw [if_pos cj]
        have hkb := (h7 i (by omega)).2.2.2.2.2.1
        exact Or.inl hkb
      · rw [if_neg cj, hby j (by omega)]
        exact h8 i j (by omega) (by omega) hij
  · refine (x1.s (by omega)).tr ⟨fun f i hfi => ?_, y2, fun a ha => y3 a (by omega)⟩
    rw [SDi_n (by omega), y1 f i (by omega) (by omega)]
end DSK4
