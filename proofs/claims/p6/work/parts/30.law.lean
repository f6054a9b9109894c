/-! ===== PURE: the law, call by call ===== -/
theorem addK_c (tp : List Int32) (fs : FL) (x : Int32) : addK tp fs x = 0 ∨ addK tp fs x = 1 ∨ addK tp fs x = 2 := by
  unfold addK
  (repeat' split) <;> simp
theorem repK_c (tp : List Int32) (fs : FL) (x : Int32) : repK tp fs x = 0 ∨ repK tp fs x = 1 ∨ repK tp fs x = 2 ∨ repK tp fs x = 3 := by
  unfold repK
  (repeat' split) <;> simp
theorem renK_c (tp : List Int32) (fs : FL) (x : Int32) : renK tp fs x = 0 ∨ renK tp fs x = 1 ∨ renK tp fs x = 2 ∨ renK tp fs x = 3 := by
  unfold renK
  (repeat' split) <;> simp
theorem remK_c (fs : FL) (x : Int32) : remK fs x = 0 ∨ remK fs x = 1 := by
  unfold remK
  (repeat' split) <;> simp
theorem ok_addS (tp : List Int32) (fs : FL) (x : Int32) : ok_add (if addK tp fs x = 0 then Sum.inl (nI fs.length) else Sum.inr (2 - addK tp fs x)) = true := by
  rcases addK_c tp fs x with q | q | q <;> rw [q] <;> rfl
theorem ok_repS (tp : List Int32) (fs : FL) (x : Int32) : ok_replace (if repK tp fs x = 0 then Sum.inl () else Sum.inr (3 - repK tp fs x)) = true := by
  rcases repK_c tp fs x with q | q | q | q <;> rw [q] <;> rfl
theorem ok_renS (tp : List Int32) (fs : FL) (x : Int32) : ok_rename (if renK tp fs x = 0 then Sum.inl () else Sum.inr (3 - renK tp fs x)) = true := by
  rcases renK_c tp fs x with q | q | q | q <;> rw [q] <;> rfl
theorem ok_remS (fs : FL) (x : Int32) : ok_remove (if remK fs x = 0 then Sum.inl () else Sum.inr (3 - remK fs x)) = true := by
  rcases remK_c fs x with q | q <;> rw [q] <;> rfl
section LAW
variable {L n i : Nat} {xs : Nat → Int32} {st : SL} {rd tp ou : List Int32} {fs : FL}
theorem lw_in (hi : i + 6 ≤ L) (hL : L ≤ 3072) {k : Nat} (hk : k < 6) : inb (nI (i + k)) L = true := inb_t (by omega) (by omega)
theorem lw_end (hi : i + 6 ≤ L) (hL : L ≤ 3072) : ¬ nI L - 6 < nI i := by
  rw [show nI L - 6 = nI (L - 6) from pk_sub (b := 6) (by omega)]
  exact nI_nlt (by omega) (by omega)
theorem lw_0 (hi : i + 6 ≤ L) (hL : L ≤ 3072) (hD : RD pkS st.1 (rd, tp, ou, fs)) (hM : RM st.2.1 (rd, tp, ou, fs)) (ih : ∀ (st : SL) (s : SP), RD pkS st.1 s → RM st.2.1 s → f_L_law_23 L xs n st (nI (i + 6)) = some ()) (hw : xs i &&& 31 = nI 0) : f_L_law_23 L xs (n + 1) st (nI i) = some () := by
  rw [f_L_law_23, ofNat_nI, if_neg (lw_end hi hL), if_pos (show inb (nI i) L = true from lw_in hi hL (k := 0) (by decide)), nI_clamp (by omega), hw, if_neg (show ¬ ((nI 0).toInt < 0 ∨ 20 < (nI 0).toInt) by decide), if_pos (show nI 0 = 0 from rfl), show nI i + 6 = nI (i + 6) from nI_add i 6]
  rw [show nI i + 1 = nI (i + 1) from nI_add i 1, show nI i + 2 = nI (i + 2) from nI_add i 2, show nI i + 3 = nI (i + 3) from nI_add i 3, show nI i + 4 = nI (i + 4) from nI_add i 4, show nI i + 5 = nI (i + 5) from nI_add i 5, if_pos (lw_in hi hL (k := 1) (by decide)), if_pos (lw_in hi hL (k := 2) (by decide)), if_pos (lw_in hi hL (k := 3) (by decide)), if_pos (lw_in hi hL (k := 4) (by decide)), if_pos (lw_in hi hL (k := 5) (by decide))]
  obtain ⟨σ1, e1, h1⟩ := d_feed hD (xs (nI (i + 1)).toNatClampNeg) (xs (nI (i + 2)).toNatClampNeg) (xs (nI (i + 3)).toNatClampNeg) (xs (nI (i + 4)).toNatClampNeg) (xs (nI (i + 5)).toNatClampNeg)
  obtain ⟨τ1, e2, h2⟩ := m_feed hM (xs (nI (i + 1)).toNatClampNeg) (xs (nI (i + 2)).toNatClampNeg) (xs (nI (i + 3)).toNatClampNeg) (xs (nI (i + 4)).toNatClampNeg) (xs (nI (i + 5)).toNatClampNeg)
  rw [e1, Option.bind_some, if_pos (lw_in hi hL (k := 1) (by decide)), if_pos (lw_in hi hL (k := 2) (by decide)), if_pos (lw_in hi hL (k := 3) (by decide)), if_pos (lw_in hi hL (k := 4) (by decide)), if_pos (lw_in hi hL (k := 5) (by decide)), e2, Option.bind_some]
  exact ih _ _ h1 h2
theorem lw_1 (hi : i + 6 ≤ L) (hL : L ≤ 3072) (hD : RD pkS st.1 (rd, tp, ou, fs)) (hM : RM st.2.1 (rd, tp, ou, fs)) (ih : ∀ (st : SL) (s : SP), RD pkS st.1 s → RM st.2.1 s → f_L_law_23 L xs n st (nI (i + 6)) = some ()) (hw : xs i &&& 31 = nI 1) : f_L_law_23 L xs (n + 1) st (nI i) = some () := by
  rw [f_L_law_23, ofNat_nI, if_neg (lw_end hi hL), if_pos (show inb (nI i) L = true from lw_in hi hL (k := 0) (by decide)), nI_clamp (by omega), hw, if_neg (show ¬ ((nI 1).toInt < 0 ∨ 20 < (nI 1).toInt) by decide), if_neg (show ¬ nI 1 = 0 by decide), if_pos (show nI 1 = 1 from rfl), show nI i + 6 = nI (i + 6) from nI_add i 6]
  rw [show nI i + 1 = nI (i + 1) from nI_add i 1, show nI i + 2 = nI (i + 2) from nI_add i 2, if_pos (lw_in hi hL (k := 1) (by decide)), if_pos (lw_in hi hL (k := 2) (by decide))]
  obtain ⟨σ1, e1, h1⟩ := d_end hD (xs (nI (i + 1)).toNatClampNeg) (xs (nI (i + 2)).toNatClampNeg)
  obtain ⟨τ1, e2, h2⟩ := m_end hM (xs (nI (i + 1)).toNatClampNeg) (xs (nI (i + 2)).toNatClampNeg)
  rw [e1, Option.bind_some, if_pos (lw_in hi hL (k := 1) (by decide)), if_pos (lw_in hi hL (k := 2) (by decide)), e2, Option.bind_some]
  exact ih _ _ h1 h2
theorem lw_2 (hi : i + 6 ≤ L) (hL : L ≤ 3072) (hD : RD pkS st.1 (rd, tp, ou, fs)) (hM : RM st.2.1 (rd, tp, ou, fs)) (ih : ∀ (st : SL) (s : SP), RD pkS st.1 s → RM st.2.1 s → f_L_law_23 L xs n st (nI (i + 6)) = some ()) (hw : xs i &&& 31 = nI 2) : f_L_law_23 L xs (n + 1) st (nI i) = some () := by
  rw [f_L_law_23, ofNat_nI, if_neg (lw_end hi hL), if_pos (show inb (nI i) L = true from lw_in hi hL (k := 0) (by decide)), nI_clamp (by omega), hw, if_neg (show ¬ ((nI 2).toInt < 0 ∨ 20 < (nI 2).toInt) by decide), if_neg (show ¬ nI 2 = 0 by decide), if_neg (show ¬ nI 2 = 1 by decide), if_pos (show nI 2 = 2 from rfl), show nI i + 6 = nI (i + 6) from nI_add i 6]
  rw [show nI i + 1 = nI (i + 1) from nI_add i 1, if_pos (lw_in hi hL (k := 1) (by decide))]
  obtain ⟨σ1, e1, h1⟩ := d_cut hD (xs (nI (i + 1)).toNatClampNeg)
  obtain ⟨τ1, e2, h2⟩ := m_cut hM (xs (nI (i + 1)).toNatClampNeg)
  rw [e1, Option.bind_some, if_pos (lw_in hi hL (k := 1) (by decide)), e2, Option.bind_some]
  exact ih _ _ h1 h2
theorem lw_3 (hi : i + 6 ≤ L) (hL : L ≤ 3072) (hD : RD pkS st.1 (rd, tp, ou, fs)) (hM : RM st.2.1 (rd, tp, ou, fs)) (ih : ∀ (st : SL) (s : SP), RD pkS st.1 s → RM st.2.1 s → f_L_law_23 L xs n st (nI (i + 6)) = some ()) (hw : xs i &&& 31 = nI 3) : f_L_law_23 L xs (n + 1) st (nI i) = some () := by
  rw [f_L_law_23, ofNat_nI, if_neg (lw_end hi hL), if_pos (show inb (nI i) L = true from lw_in hi hL (k := 0) (by decide)), nI_clamp (by omega), hw, if_neg (show ¬ ((nI 3).toInt < 0 ∨ 20 < (nI 3).toInt) by decide), if_neg (show ¬ nI 3 = 0 by decide), if_neg (show ¬ nI 3 = 1 by decide), if_neg (show ¬ nI 3 = 2 by decide), if_pos (show nI 3 = 3 from rfl), show nI i + 6 = nI (i + 6) from nI_add i 6]
  rw [show nI i + 1 = nI (i + 1) from nI_add i 1, if_pos (lw_in hi hL (k := 1) (by decide))]
  obtain ⟨σ1, e1, h1⟩ := d_drop hD (xs (nI (i + 1)).toNatClampNeg)
  obtain ⟨τ1, e2, h2⟩ := m_drop hM (xs (nI (i + 1)).toNatClampNeg)
  rw [e1, Option.bind_some, if_pos (lw_in hi hL (k := 1) (by decide)), e2, Option.bind_some]
  exact ih _ _ h1 h2
theorem lw_4 (hi : i + 6 ≤ L) (hL : L ≤ 3072) (hD : RD pkS st.1 (rd, tp, ou, fs)) (hM : RM st.2.1 (rd, tp, ou, fs)) (ih : ∀ (st : SL) (s : SP), RD pkS st.1 s → RM st.2.1 s → f_L_law_23 L xs n st (nI (i + 6)) = some ()) (hw : xs i &&& 31 = nI 4) : f_L_law_23 L xs (n + 1) st (nI i) = some () := by
  rw [f_L_law_23, ofNat_nI, if_neg (lw_end hi hL), if_pos (show inb (nI i) L = true from lw_in hi hL (k := 0) (by decide)), nI_clamp (by omega), hw, if_neg (show ¬ ((nI 4).toInt < 0 ∨ 20 < (nI 4).toInt) by decide), if_neg (show ¬ nI 4 = 0 by decide), if_neg (show ¬ nI 4 = 1 by decide), if_neg (show ¬ nI 4 = 2 by decide), if_neg (show ¬ nI 4 = 3 by decide), if_pos (show nI 4 = 4 from rfl), show nI i + 6 = nI (i + 6) from nI_add i 6]
  rw [show nI i + 1 = nI (i + 1) from nI_add i 1, show nI i + 2 = nI (i + 2) from nI_add i 2, if_pos (lw_in hi hL (k := 1) (by decide)), if_pos (lw_in hi hL (k := 2) (by decide))]
  obtain ⟨σ1, e1, h1⟩ := d_flip hD (xs (nI (i + 1)).toNatClampNeg) (xs (nI (i + 2)).toNatClampNeg)
  obtain ⟨τ1, e2, h2⟩ := m_flip hM (xs (nI (i + 1)).toNatClampNeg) (xs (nI (i + 2)).toNatClampNeg)
  rw [e1, Option.bind_some, if_pos (lw_in hi hL (k := 1) (by decide)), if_pos (lw_in hi hL (k := 2) (by decide)), e2, Option.bind_some, if_pos rfl]
  exact ih _ _ h1 h2
theorem lw_5 (hi : i + 6 ≤ L) (hL : L ≤ 3072) (hD : RD pkS st.1 (rd, tp, ou, fs)) (hM : RM st.2.1 (rd, tp, ou, fs)) (ih : ∀ (st : SL) (s : SP), RD pkS st.1 s → RM st.2.1 s → f_L_law_23 L xs n st (nI (i + 6)) = some ()) (hw : xs i &&& 31 = nI 5) : f_L_law_23 L xs (n + 1) st (nI i) = some () := by
  rw [f_L_law_23, ofNat_nI, if_neg (lw_end hi hL), if_pos (show inb (nI i) L = true from lw_in hi hL (k := 0) (by decide)), nI_clamp (by omega), hw, if_neg (show ¬ ((nI 5).toInt < 0 ∨ 20 < (nI 5).toInt) by decide), if_neg (show ¬ nI 5 = 0 by decide), if_neg (show ¬ nI 5 = 1 by decide), if_neg (show ¬ nI 5 = 2 by decide), if_neg (show ¬ nI 5 = 3 by decide), if_neg (show ¬ nI 5 = 4 by decide), if_pos (show nI 5 = 5 from rfl), show nI i + 6 = nI (i + 6) from nI_add i 6]
  by_cases c : tp.length + ou.length ≤ 9000
  · obtain ⟨σ1, e1, h1⟩ := d_take1 hD c
    obtain ⟨τ1, e2, h2, h3⟩ := m_take1 hM c
    rw [e1, Option.bind_some, if_pos (show ok_take (Sum.inl (nI (tp.length + ou.length))) = true from rfl), e2, Option.bind_some]
    exact ih _ _ h1 h2
  · rw [d_take2 hD c, Option.bind_some, if_pos (show ok_take (Sum.inr 0) = true from rfl), m_take2 hM c, Option.bind_some]
    exact ih _ _ hD hM.th
theorem lw_6 (hi : i + 6 ≤ L) (hL : L ≤ 3072) (hD : RD pkS st.1 (rd, tp, ou, fs)) (hM : RM st.2.1 (rd, tp, ou, fs)) (ih : ∀ (st : SL) (s : SP), RD pkS st.1 s → RM st.2.1 s → f_L_law_23 L xs n st (nI (i + 6)) = some ()) (hw : xs i &&& 31 = nI 6) : f_L_law_23 L xs (n + 1) st (nI i) = some () := by
  rw [f_L_law_23, ofNat_nI, if_neg (lw_end hi hL), if_pos (show inb (nI i) L = true from lw_in hi hL (k := 0) (by decide)), nI_clamp (by omega), hw, if_neg (show ¬ ((nI 6).toInt < 0 ∨ 20 < (nI 6).toInt) by decide), if_neg (show ¬ nI 6 = 0 by decide), if_neg (show ¬ nI 6 = 1 by decide), if_neg (show ¬ nI 6 = 2 by decide), if_neg (show ¬ nI 6 = 3 by decide), if_neg (show ¬ nI 6 = 4 by decide), if_neg (show ¬ nI 6 = 5 by decide), if_pos (show nI 6 = 6 from rfl), show nI i + 6 = nI (i + 6) from nI_add i 6]
  rw [show nI i + 1 = nI (i + 1) from nI_add i 1, if_pos (lw_in hi hL (k := 1) (by decide))]
  obtain ⟨σ1, e1, h1⟩ := d_add hD (xs (nI (i + 1)).toNatClampNeg)
  obtain ⟨v, τ1, e2, g1, g2, h2⟩ := m_add hM (xs (nI (i + 1)).toNatClampNeg)
  rw [e1, Option.bind_some, if_pos (ok_addS tp fs _), if_pos (lw_in hi hL (k := 1) (by decide)), e2, Option.bind_some]
  exact ih _ _ h1 h2
theorem lw_7 (hi : i + 6 ≤ L) (hL : L ≤ 3072) (hD : RD pkS st.1 (rd, tp, ou, fs)) (hM : RM st.2.1 (rd, tp, ou, fs)) (ih : ∀ (st : SL) (s : SP), RD pkS st.1 s → RM st.2.1 s → f_L_law_23 L xs n st (nI (i + 6)) = some ()) (hw : xs i &&& 31 = nI 7) : f_L_law_23 L xs (n + 1) st (nI i) = some () := by
  rw [f_L_law_23, ofNat_nI, if_neg (lw_end hi hL), if_pos (show inb (nI i) L = true from lw_in hi hL (k := 0) (by decide)), nI_clamp (by omega), hw, if_neg (show ¬ ((nI 7).toInt < 0 ∨ 20 < (nI 7).toInt) by decide), if_neg (show ¬ nI 7 = 0 by decide), if_neg (show ¬ nI 7 = 1 by decide), if_neg (show ¬ nI 7 = 2 by decide), if_neg (show ¬ nI 7 = 3 by decide), if_neg (show ¬ nI 7 = 4 by decide), if_neg (show ¬ nI 7 = 5 by decide), if_neg (show ¬ nI 7 = 6 by decide), if_pos (show nI 7 = 7 from rfl), show nI i + 6 = nI (i + 6) from nI_add i 6]
  rw [show nI i + 1 = nI (i + 1) from nI_add i 1, if_pos (lw_in hi hL (k := 1) (by decide))]
  obtain ⟨σ1, e1, h1⟩ := d_replace hD (xs (nI (i + 1)).toNatClampNeg)
  obtain ⟨τ1, e2, g1, h2⟩ := m_replace hM (xs (nI (i + 1)).toNatClampNeg)
  rw [e1, Option.bind_some, if_pos (ok_repS tp fs _), if_pos (lw_in hi hL (k := 1) (by decide)), e2, Option.bind_some]
  exact ih _ _ h1 h2
theorem lw_8 (hi : i + 6 ≤ L) (hL : L ≤ 3072) (hD : RD pkS st.1 (rd, tp, ou, fs)) (hM : RM st.2.1 (rd, tp, ou, fs)) (ih : ∀ (st : SL) (s : SP), RD pkS st.1 s → RM st.2.1 s → f_L_law_23 L xs n st (nI (i + 6)) = some ()) (hw : xs i &&& 31 = nI 8) : f_L_law_23 L xs (n + 1) st (nI i) = some () := by
  rw [f_L_law_23, ofNat_nI, if_neg (lw_end hi hL), if_pos (show inb (nI i) L = true from lw_in hi hL (k := 0) (by decide)), nI_clamp (by omega), hw, if_neg (show ¬ ((nI 8).toInt < 0 ∨ 20 < (nI 8).toInt) by decide), if_neg (show ¬ nI 8 = 0 by decide), if_neg (show ¬ nI 8 = 1 by decide), if_neg (show ¬ nI 8 = 2 by decide), if_neg (show ¬ nI 8 = 3 by decide), if_neg (show ¬ nI 8 = 4 by decide), if_neg (show ¬ nI 8 = 5 by decide), if_neg (show ¬ nI 8 = 6 by decide), if_neg (show ¬ nI 8 = 7 by decide), if_pos (show nI 8 = 8 from rfl), show nI i + 6 = nI (i + 6) from nI_add i 6]
  rw [show nI i + 1 = nI (i + 1) from nI_add i 1, if_pos (lw_in hi hL (k := 1) (by decide))]
  obtain ⟨σ1, e1, h1⟩ := d_rename hD (xs (nI (i + 1)).toNatClampNeg)
  obtain ⟨τ1, e2, g1, h2⟩ := m_rename hM (xs (nI (i + 1)).toNatClampNeg)
  rw [e1, Option.bind_some, if_pos (ok_renS tp fs _), if_pos (lw_in hi hL (k := 1) (by decide)), e2, Option.bind_some]
  exact ih _ _ h1 h2
theorem lw_9 (hi : i + 6 ≤ L) (hL : L ≤ 3072) (hD : RD pkS st.1 (rd, tp, ou, fs)) (hM : RM st.2.1 (rd, tp, ou, fs)) (ih : ∀ (st : SL) (s : SP), RD pkS st.1 s → RM st.2.1 s → f_L_law_23 L xs n st (nI (i + 6)) = some ()) (hw : xs i &&& 31 = nI 9) : f_L_law_23 L xs (n + 1) st (nI i) = some () := by
  rw [f_L_law_23, ofNat_nI, if_neg (lw_end hi hL), if_pos (show inb (nI i) L = true from lw_in hi hL (k := 0) (by decide)), nI_clamp (by omega), hw, if_neg (show ¬ ((nI 9).toInt < 0 ∨ 20 < (nI 9).toInt) by decide), if_neg (show ¬ nI 9 = 0 by decide), if_neg (show ¬ nI 9 = 1 by decide), if_neg (show ¬ nI 9 = 2 by decide), if_neg (show ¬ nI 9 = 3 by decide), if_neg (show ¬ nI 9 = 4 by decide), if_neg (show ¬ nI 9 = 5 by decide), if_neg (show ¬ nI 9 = 6 by decide), if_neg (show ¬ nI 9 = 7 by decide), if_neg (show ¬ nI 9 = 8 by decide), if_pos (show nI 9 = 9 from rfl), show nI i + 6 = nI (i + 6) from nI_add i 6]
  rw [show nI i + 1 = nI (i + 1) from nI_add i 1, if_pos (lw_in hi hL (k := 1) (by decide))]
  obtain ⟨σ1, e1, h1⟩ := d_remove hD (xs (nI (i + 1)).toNatClampNeg)
  obtain ⟨τ1, e2, g1, h2⟩ := m_remove hM (xs (nI (i + 1)).toNatClampNeg)
  rw [e1, Option.bind_some, if_pos (ok_remS fs _), if_pos (lw_in hi hL (k := 1) (by decide)), e2, Option.bind_some]
  exact ih _ _ h1 h2
theorem lw_10 (hi : i + 6 ≤ L) (hL : L ≤ 3072) (hD : RD pkS st.1 (rd, tp, ou, fs)) (hM : RM st.2.1 (rd, tp, ou, fs)) (ih : ∀ (st : SL) (s : SP), RD pkS st.1 s → RM st.2.1 s → f_L_law_23 L xs n st (nI (i + 6)) = some ()) (hw : xs i &&& 31 = nI 10) : f_L_law_23 L xs (n + 1) st (nI i) = some () := by
  rw [f_L_law_23, ofNat_nI, if_neg (lw_end hi hL), if_pos (show inb (nI i) L = true from lw_in hi hL (k := 0) (by decide)), nI_clamp (by omega), hw, if_neg (show ¬ ((nI 10).toInt < 0 ∨ 20 < (nI 10).toInt) by decide), if_neg (show ¬ nI 10 = 0 by decide), if_neg (show ¬ nI 10 = 1 by decide), if_neg (show ¬ nI 10 = 2 by decide), if_neg (show ¬ nI 10 = 3 by decide), if_neg (show ¬ nI 10 = 4 by decide), if_neg (show ¬ nI 10 = 5 by decide), if_neg (show ¬ nI 10 = 6 by decide), if_neg (show ¬ nI 10 = 7 by decide), if_neg (show ¬ nI 10 = 8 by decide), if_neg (show ¬ nI 10 = 9 by decide), if_pos (show nI 10 = 10 from rfl), show nI i + 6 = nI (i + 6) from nI_add i 6]
  obtain ⟨σ1, gs, e1, p1, s1, h1⟩ := d_sort hD
  obtain ⟨τ1, gs2, e2, p2, s2, h2⟩ := m_sort hM
  have e : gs = gs2 := sort_one (p1.trans p2.symm) s1 s2
  subst e
  rw [e1, Option.bind_some, e2, Option.bind_some]
  exact ih _ _ h1 h2
theorem lw_11 (hi : i + 6 ≤ L) (hL : L ≤ 3072) (hD : RD pkS st.1 (rd, tp, ou, fs)) (hM : RM st.2.1 (rd, tp, ou, fs)) (ih : ∀ (st : SL) (s : SP), RD pkS st.1 s → RM st.2.1 s → f_L_law_23 L xs n st (nI (i + 6)) = some ()) (hw : xs i &&& 31 = nI 11) : f_L_law_23 L xs (n + 1) st (nI i) = some () := by
  rw [f_L_law_23, ofNat_nI, if_neg (lw_end hi hL), if_pos (show inb (nI i) L = true from lw_in hi hL (k := 0) (by decide)), nI_clamp (by omega), hw, if_neg (show ¬ ((nI 11).toInt < 0 ∨ 20 < (nI 11).toInt) by decide), if_neg (show ¬ nI 11 = 0 by decide), if_neg (show ¬ nI 11 = 1 by decide), if_neg (show ¬ nI 11 = 2 by decide), if_neg (show ¬ nI 11 = 3 by decide), if_neg (show ¬ nI 11 = 4 by decide), if_neg (show ¬ nI 11 = 5 by decide), if_neg (show ¬ nI 11 = 6 by decide), if_neg (show ¬ nI 11 = 7 by decide), if_neg (show ¬ nI 11 = 8 by decide), if_neg (show ¬ nI 11 = 9 by decide), if_neg (show ¬ nI 11 = 10 by decide), if_pos (show nI 11 = 11 from rfl), show nI i + 6 = nI (i + 6) from nI_add i 6]
  obtain ⟨σ1, e1, h1⟩ := d_clear hD
  obtain ⟨τ1, e2, h2⟩ := m_clear hM
  rw [e1, Option.bind_some, e2, Option.bind_some]
  exact ih _ _ h1 h2
theorem lw_12 (hi : i + 6 ≤ L) (hL : L ≤ 3072) (hD : RD pkS st.1 (rd, tp, ou, fs)) (hM : RM st.2.1 (rd, tp, ou, fs)) (ih : ∀ (st : SL) (s : SP), RD pkS st.1 s → RM st.2.1 s → f_L_law_23 L xs n st (nI (i + 6)) = some ()) (hw : xs i &&& 31 = nI 12) : f_L_law_23 L xs (n + 1) st (nI i) = some () := by
  rw [f_L_law_23, ofNat_nI, if_neg (lw_end hi hL), if_pos (show inb (nI i) L = true from lw_in hi hL (k := 0) (by decide)), nI_clamp (by omega), hw, if_neg (show ¬ ((nI 12).toInt < 0 ∨ 20 < (nI 12).toInt) by decide), if_neg (show ¬ nI 12 = 0 by decide), if_neg (show ¬ nI 12 = 1 by decide), if_neg (show ¬ nI 12 = 2 by decide), if_neg (show ¬ nI 12 = 3 by decide), if_neg (show ¬ nI 12 = 4 by decide), if_neg (show ¬ nI 12 = 5 by decide), if_neg (show ¬ nI 12 = 6 by decide), if_neg (show ¬ nI 12 = 7 by decide), if_neg (show ¬ nI 12 = 8 by decide), if_neg (show ¬ nI 12 = 9 by decide), if_neg (show ¬ nI 12 = 10 by decide), if_neg (show ¬ nI 12 = 11 by decide), if_pos (show nI 12 = 12 from rfl), show nI i + 6 = nI (i + 6) from nI_add i 6]
  obtain ⟨σ1, e1, h1⟩ := d_make hD
  obtain ⟨τ1, e2, h2⟩ := m_make hM
  rw [e1, Option.bind_some, e2, Option.bind_some]
  exact ih _ _ h1 h2
theorem lw_13 (hi : i + 6 ≤ L) (hL : L ≤ 3072) (hD : RD pkS st.1 (rd, tp, ou, fs)) (hM : RM st.2.1 (rd, tp, ou, fs)) (ih : ∀ (st : SL) (s : SP), RD pkS st.1 s → RM st.2.1 s → f_L_law_23 L xs n st (nI (i + 6)) = some ()) (hw : xs i &&& 31 = nI 13) : f_L_law_23 L xs (n + 1) st (nI i) = some () := by
  rw [f_L_law_23, ofNat_nI, if_neg (lw_end hi hL), if_pos (show inb (nI i) L = true from lw_in hi hL (k := 0) (by decide)), nI_clamp (by omega), hw, if_neg (show ¬ ((nI 13).toInt < 0 ∨ 20 < (nI 13).toInt) by decide), if_neg (show ¬ nI 13 = 0 by decide), if_neg (show ¬ nI 13 = 1 by decide), if_neg (show ¬ nI 13 = 2 by decide), if_neg (show ¬ nI 13 = 3 by decide), if_neg (show ¬ nI 13 = 4 by decide), if_neg (show ¬ nI 13 = 5 by decide), if_neg (show ¬ nI 13 = 6 by decide), if_neg (show ¬ nI 13 = 7 by decide), if_neg (show ¬ nI 13 = 8 by decide), if_neg (show ¬ nI 13 = 9 by decide), if_neg (show ¬ nI 13 = 10 by decide), if_neg (show ¬ nI 13 = 11 by decide), if_neg (show ¬ nI 13 = 12 by decide), if_pos (show nI 13 = 13 from rfl), show nI i + 6 = nI (i + 6) from nI_add i 6]
  obtain ⟨σ1, e1, h1⟩ := d_read hD
  obtain ⟨v, τ1, e2, g1, g2, h2⟩ := m_read hM
  cases hr : rdS tp with
  | none =>
    have e1r : f_X7_read st.1 = some (Sum.inr 1, σ1) := by rw [e1, hr]
    rw [hr] at g1 h1 h2
    rw [e1r, Option.bind_some, if_pos (show ok_read (Sum.inr 1) = true from rfl), e2, Option.bind_some]
    exact ih _ _ h1 h2
  | some gs =>
    have e1r : f_X7_read st.1 = some (Sum.inl (nI gs.length), σ1) := by rw [e1, hr]
    have g3 := g2 gs hr
    rw [hr] at g1 h1 h2
    rw [e1r, Option.bind_some, if_pos (show ok_read (Sum.inl (nI gs.length)) = true from rfl), e2, Option.bind_some]
    exact ih _ _ h1 h2
theorem lw_14 (hi : i + 6 ≤ L) (hL : L ≤ 3072) (hD : RD pkS st.1 (rd, tp, ou, fs)) (hM : RM st.2.1 (rd, tp, ou, fs)) (ih : ∀ (st : SL) (s : SP), RD pkS st.1 s → RM st.2.1 s → f_L_law_23 L xs n st (nI (i + 6)) = some ()) (hw : xs i &&& 31 = nI 14) : f_L_law_23 L xs (n + 1) st (nI i) = some () := by
  rw [f_L_law_23, ofNat_nI, if_neg (lw_end hi hL), if_pos (show inb (nI i) L = true from lw_in hi hL (k := 0) (by decide)), nI_clamp (by omega), hw, if_neg (show ¬ ((nI 14).toInt < 0 ∨ 20 < (nI 14).toInt) by decide), if_neg (show ¬ nI 14 = 0 by decide), if_neg (show ¬ nI 14 = 1 by decide), if_neg (show ¬ nI 14 = 2 by decide), if_neg (show ¬ nI 14 = 3 by decide), if_neg (show ¬ nI 14 = 4 by decide), if_neg (show ¬ nI 14 = 5 by decide), if_neg (show ¬ nI 14 = 6 by decide), if_neg (show ¬ nI 14 = 7 by decide), if_neg (show ¬ nI 14 = 8 by decide), if_neg (show ¬ nI 14 = 9 by decide), if_neg (show ¬ nI 14 = 10 by decide), if_neg (show ¬ nI 14 = 11 by decide), if_neg (show ¬ nI 14 = 12 by decide), if_neg (show ¬ nI 14 = 13 by decide), if_pos (show nI 14 = 14 from rfl), show nI i + 6 = nI (i + 6) from nI_add i 6]
  rw [show nI i + 1 = nI (i + 1) from nI_add i 1, if_pos (lw_in hi hL (k := 1) (by decide))]
  obtain ⟨v1, e1⟩ := d_fault (σ := st.1) (xs (nI (i + 1)).toNatClampNeg)
  obtain ⟨v2, e2⟩ := m_fault (τ := st.2.1) (xs (nI (i + 1)).toNatClampNeg)
  rw [e1, Option.bind_some, if_pos (lw_in hi hL (k := 1) (by decide)), e2, Option.bind_some]
  exact ih _ _ hD hM.th
theorem lw_15 (hi : i + 6 ≤ L) (hL : L ≤ 3072) (hD : RD pkS st.1 (rd, tp, ou, fs)) (hM : RM st.2.1 (rd, tp, ou, fs)) (ih : ∀ (st : SL) (s : SP), RD pkS st.1 s → RM st.2.1 s → f_L_law_23 L xs n st (nI (i + 6)) = some ()) (hw : xs i &&& 31 = nI 15) : f_L_law_23 L xs (n + 1) st (nI i) = some () := by
  rw [f_L_law_23, ofNat_nI, if_neg (lw_end hi hL), if_pos (show inb (nI i) L = true from lw_in hi hL (k := 0) (by decide)), nI_clamp (by omega), hw, if_neg (show ¬ ((nI 15).toInt < 0 ∨ 20 < (nI 15).toInt) by decide), if_neg (show ¬ nI 15 = 0 by decide), if_neg (show ¬ nI 15 = 1 by decide), if_neg (show ¬ nI 15 = 2 by decide), if_neg (show ¬ nI 15 = 3 by decide), if_neg (show ¬ nI 15 = 4 by decide), if_neg (show ¬ nI 15 = 5 by decide), if_neg (show ¬ nI 15 = 6 by decide), if_neg (show ¬ nI 15 = 7 by decide), if_neg (show ¬ nI 15 = 8 by decide), if_neg (show ¬ nI 15 = 9 by decide), if_neg (show ¬ nI 15 = 10 by decide), if_neg (show ¬ nI 15 = 11 by decide), if_neg (show ¬ nI 15 = 12 by decide), if_neg (show ¬ nI 15 = 13 by decide), if_neg (show ¬ nI 15 = 14 by decide), if_pos (show nI 15 = 15 from rfl), show nI i + 6 = nI (i + 6) from nI_add i 6]
  obtain ⟨σ1, e1, h1⟩ := d_save hD
  obtain ⟨τ1, e2, h2⟩ := m_save hM
  rw [e1, Option.bind_some, e2, Option.bind_some]
  exact ih _ _ h1 h2
theorem lw_16 (hi : i + 6 ≤ L) (hL : L ≤ 3072) (hD : RD pkS st.1 (rd, tp, ou, fs)) (hM : RM st.2.1 (rd, tp, ou, fs)) (ih : ∀ (st : SL) (s : SP), RD pkS st.1 s → RM st.2.1 s → f_L_law_23 L xs n st (nI (i + 6)) = some ()) (hw : xs i &&& 31 = nI 16) : f_L_law_23 L xs (n + 1) st (nI i) = some () := by
  rw [f_L_law_23, ofNat_nI, if_neg (lw_end hi hL), if_pos (show inb (nI i) L = true from lw_in hi hL (k := 0) (by decide)), nI_clamp (by omega), hw, if_neg (show ¬ ((nI 16).toInt < 0 ∨ 20 < (nI 16).toInt) by decide), if_neg (show ¬ nI 16 = 0 by decide), if_neg (show ¬ nI 16 = 1 by decide), if_neg (show ¬ nI 16 = 2 by decide), if_neg (show ¬ nI 16 = 3 by decide), if_neg (show ¬ nI 16 = 4 by decide), if_neg (show ¬ nI 16 = 5 by decide), if_neg (show ¬ nI 16 = 6 by decide), if_neg (show ¬ nI 16 = 7 by decide), if_neg (show ¬ nI 16 = 8 by decide), if_neg (show ¬ nI 16 = 9 by decide), if_neg (show ¬ nI 16 = 10 by decide), if_neg (show ¬ nI 16 = 11 by decide), if_neg (show ¬ nI 16 = 12 by decide), if_neg (show ¬ nI 16 = 13 by decide), if_neg (show ¬ nI 16 = 14 by decide), if_neg (show ¬ nI 16 = 15 by decide), if_pos (show nI 16 = 16 from rfl), show nI i + 6 = nI (i + 6) from nI_add i 6]
  rw [show nI i + 1 = nI (i + 1) from nI_add i 1, show nI i + 2 = nI (i + 2) from nI_add i 2, if_pos (lw_in hi hL (k := 1) (by decide)), if_pos (lw_in hi hL (k := 2) (by decide))]
  obtain ⟨τ1, e2, h2⟩ := m_file hM (xs (nI (i + 1)).toNatClampNeg) (xs (nI (i + 2)).toNatClampNeg)
  rw [d_file hD, Option.bind_some, if_pos (lw_in hi hL (k := 1) (by decide)), if_pos (lw_in hi hL (k := 2) (by decide)), e2, Option.bind_some]
  exact ih _ _ hD h2
theorem lw_17 (hi : i + 6 ≤ L) (hL : L ≤ 3072) (hD : RD pkS st.1 (rd, tp, ou, fs)) (hM : RM st.2.1 (rd, tp, ou, fs)) (ih : ∀ (st : SL) (s : SP), RD pkS st.1 s → RM st.2.1 s → f_L_law_23 L xs n st (nI (i + 6)) = some ()) (hw : xs i &&& 31 = nI 17) : f_L_law_23 L xs (n + 1) st (nI i) = some () := by
  rw [f_L_law_23, ofNat_nI, if_neg (lw_end hi hL), if_pos (show inb (nI i) L = true from lw_in hi hL (k := 0) (by decide)), nI_clamp (by omega), hw, if_neg (show ¬ ((nI 17).toInt < 0 ∨ 20 < (nI 17).toInt) by decide), if_neg (show ¬ nI 17 = 0 by decide), if_neg (show ¬ nI 17 = 1 by decide), if_neg (show ¬ nI 17 = 2 by decide), if_neg (show ¬ nI 17 = 3 by decide), if_neg (show ¬ nI 17 = 4 by decide), if_neg (show ¬ nI 17 = 5 by decide), if_neg (show ¬ nI 17 = 6 by decide), if_neg (show ¬ nI 17 = 7 by decide), if_neg (show ¬ nI 17 = 8 by decide), if_neg (show ¬ nI 17 = 9 by decide), if_neg (show ¬ nI 17 = 10 by decide), if_neg (show ¬ nI 17 = 11 by decide), if_neg (show ¬ nI 17 = 12 by decide), if_neg (show ¬ nI 17 = 13 by decide), if_neg (show ¬ nI 17 = 14 by decide), if_neg (show ¬ nI 17 = 15 by decide), if_neg (show ¬ nI 17 = 16 by decide), if_pos (show nI 17 = 17 from rfl), show nI i + 6 = nI (i + 6) from nI_add i 6]
  rw [show nI i + 1 = nI (i + 1) from nI_add i 1, show nI i + 2 = nI (i + 2) from nI_add i 2, show nI i + 3 = nI (i + 3) from nI_add i 3, if_pos (lw_in hi hL (k := 1) (by decide)), if_pos (lw_in hi hL (k := 2) (by decide))]
  by_cases c : xs (nI (i + 2)).toNatClampNeg = 0
  · rw [if_pos c, if_pos (lw_in hi hL (k := 3) (by decide)), d_letter hD, Option.bind_some, if_pos (lw_in hi hL (k := 1) (by decide)), if_pos (lw_in hi hL (k := 2) (by decide)), if_pos c, if_pos (lw_in hi hL (k := 3) (by decide)), m_letter hM, Option.bind_some]
    exact ih _ _ hD hM.th
  · rw [if_neg c, if_pos (lw_in hi hL (k := 3) (by decide)), d_letter hD, Option.bind_some, if_pos (lw_in hi hL (k := 1) (by decide)), if_pos (lw_in hi hL (k := 2) (by decide)), if_neg c, if_pos (lw_in hi hL (k := 3) (by decide)), m_letter hM, Option.bind_some]
    exact ih _ _ hD hM.th
theorem lw_18 (hi : i + 6 ≤ L) (hL : L ≤ 3072) (hD : RD pkS st.1 (rd, tp, ou, fs)) (hM : RM st.2.1 (rd, tp, ou, fs)) (ih : ∀ (st : SL) (s : SP), RD pkS st.1 s → RM st.2.1 s → f_L_law_23 L xs n st (nI (i + 6)) = some ()) (hw : xs i &&& 31 = nI 18) : f_L_law_23 L xs (n + 1) st (nI i) = some () := by
  rw [f_L_law_23, ofNat_nI, if_neg (lw_end hi hL), if_pos (show inb (nI i) L = true from lw_in hi hL (k := 0) (by decide)), nI_clamp (by omega), hw, if_neg (show ¬ ((nI 18).toInt < 0 ∨ 20 < (nI 18).toInt) by decide), if_neg (show ¬ nI 18 = 0 by decide), if_neg (show ¬ nI 18 = 1 by decide), if_neg (show ¬ nI 18 = 2 by decide), if_neg (show ¬ nI 18 = 3 by decide), if_neg (show ¬ nI 18 = 4 by decide), if_neg (show ¬ nI 18 = 5 by decide), if_neg (show ¬ nI 18 = 6 by decide), if_neg (show ¬ nI 18 = 7 by decide), if_neg (show ¬ nI 18 = 8 by decide), if_neg (show ¬ nI 18 = 9 by decide), if_neg (show ¬ nI 18 = 10 by decide), if_neg (show ¬ nI 18 = 11 by decide), if_neg (show ¬ nI 18 = 12 by decide), if_neg (show ¬ nI 18 = 13 by decide), if_neg (show ¬ nI 18 = 14 by decide), if_neg (show ¬ nI 18 = 15 by decide), if_neg (show ¬ nI 18 = 16 by decide), if_neg (show ¬ nI 18 = 17 by decide), if_pos (show nI 18 = 18 from rfl), show nI i + 6 = nI (i + 6) from nI_add i 6]
  rw [d_find hD, Option.bind_some, m_find hM, Option.bind_some]
  exact ih _ _ hD hM.th
theorem lw_19 (hi : i + 6 ≤ L) (hL : L ≤ 3072) (hD : RD pkS st.1 (rd, tp, ou, fs)) (hM : RM st.2.1 (rd, tp, ou, fs)) (ih : ∀ (st : SL) (s : SP), RD pkS st.1 s → RM st.2.1 s → f_L_law_23 L xs n st (nI (i + 6)) = some ()) (hw : xs i &&& 31 = nI 19) : f_L_law_23 L xs (n + 1) st (nI i) = some () := by
  rw [f_L_law_23, ofNat_nI, if_neg (lw_end hi hL), if_pos (show inb (nI i) L = true from lw_in hi hL (k := 0) (by decide)), nI_clamp (by omega), hw, if_neg (show ¬ ((nI 19).toInt < 0 ∨ 20 < (nI 19).toInt) by decide), if_neg (show ¬ nI 19 = 0 by decide), if_neg (show ¬ nI 19 = 1 by decide), if_neg (show ¬ nI 19 = 2 by decide), if_neg (show ¬ nI 19 = 3 by decide), if_neg (show ¬ nI 19 = 4 by decide), if_neg (show ¬ nI 19 = 5 by decide), if_neg (show ¬ nI 19 = 6 by decide), if_neg (show ¬ nI 19 = 7 by decide), if_neg (show ¬ nI 19 = 8 by decide), if_neg (show ¬ nI 19 = 9 by decide), if_neg (show ¬ nI 19 = 10 by decide), if_neg (show ¬ nI 19 = 11 by decide), if_neg (show ¬ nI 19 = 12 by decide), if_neg (show ¬ nI 19 = 13 by decide), if_neg (show ¬ nI 19 = 14 by decide), if_neg (show ¬ nI 19 = 15 by decide), if_neg (show ¬ nI 19 = 16 by decide), if_neg (show ¬ nI 19 = 17 by decide), if_neg (show ¬ nI 19 = 18 by decide), if_pos (show nI 19 = 19 from rfl), show nI i + 6 = nI (i + 6) from nI_add i 6]
  rw [show nI i + 1 = nI (i + 1) from nI_add i 1, if_pos (lw_in hi hL (k := 1) (by decide)), d_output hD, Option.bind_some, if_pos (lw_in hi hL (k := 1) (by decide)), m_output hM, Option.bind_some]
  exact ih _ _ hD hM.th
theorem lw_20 (hi : i + 6 ≤ L) (hL : L ≤ 3072) (hD : RD pkS st.1 (rd, tp, ou, fs)) (hM : RM st.2.1 (rd, tp, ou, fs)) (ih : ∀ (st : SL) (s : SP), RD pkS st.1 s → RM st.2.1 s → f_L_law_23 L xs n st (nI (i + 6)) = some ()) (hw : xs i &&& 31 = nI 20) : f_L_law_23 L xs (n + 1) st (nI i) = some () := by
  rw [f_L_law_23, ofNat_nI, if_neg (lw_end hi hL), if_pos (show inb (nI i) L = true from lw_in hi hL (k := 0) (by decide)), nI_clamp (by omega), hw, if_neg (show ¬ ((nI 20).toInt < 0 ∨ 20 < (nI 20).toInt) by decide), if_neg (show ¬ nI 20 = 0 by decide), if_neg (show ¬ nI 20 = 1 by decide), if_neg (show ¬ nI 20 = 2 by decide), if_neg (show ¬ nI 20 = 3 by decide), if_neg (show ¬ nI 20 = 4 by decide), if_neg (show ¬ nI 20 = 5 by decide), if_neg (show ¬ nI 20 = 6 by decide), if_neg (show ¬ nI 20 = 7 by decide), if_neg (show ¬ nI 20 = 8 by decide), if_neg (show ¬ nI 20 = 9 by decide), if_neg (show ¬ nI 20 = 10 by decide), if_neg (show ¬ nI 20 = 11 by decide), if_neg (show ¬ nI 20 = 12 by decide), if_neg (show ¬ nI 20 = 13 by decide), if_neg (show ¬ nI 20 = 14 by decide), if_neg (show ¬ nI 20 = 15 by decide), if_neg (show ¬ nI 20 = 16 by decide), if_neg (show ¬ nI 20 = 17 by decide), if_neg (show ¬ nI 20 = 18 by decide), if_neg (show ¬ nI 20 = 19 by decide), if_pos (show nI 20 = 20 from rfl), show nI i + 6 = nI (i + 6) from nI_add i 6]
  rw [show nI i + 1 = nI (i + 1) from nI_add i 1, if_pos (lw_in hi hL (k := 1) (by decide)), d_about hD, Option.bind_some, if_pos (lw_in hi hL (k := 1) (by decide)), m_about hM, Option.bind_some]
  exact ih _ _ hD hM.th
end LAW
theorem law_l {L : Nat} (hL : L ≤ 3072) (xs : Nat → Int32) : ∀ (n i : Nat) (st : SL) (s : SP), L + 6 ≤ i + 6 * n → i ≤ L → RD pkS st.1 s → RM st.2.1 s → f_L_law_23 L xs n st (nI i) = some () := by
  intro n
  induction n with
  | zero =>
    intro i st s h h2 hD hM
    exact absurd h (by omega)
  | succ n ih =>
    intro i st s h h2 hD hM
    obtain ⟨rd, tp, ou, fs⟩ := s
    by_cases hi : i + 6 ≤ L
    · have ih2 : ∀ (st : SL) (s : SP), RD pkS st.1 s → RM st.2.1 s → f_L_law_23 L xs n st (nI (i + 6)) = some () := fun st s a b => ih (i + 6) st s (by omega) (by omega) a b
      obtain ⟨v, hv, hw⟩ := pk_andE (xs i) (m := 31) 5 (by decide +kernel)
      have hv2 : v < 32 := hv
      by_cases c : 20 < v
      · rw [f_L_law_23, ofNat_nI, if_neg (lw_end hi hL), if_pos (show inb (nI i) L = true from lw_in hi hL (k := 0) (by decide)), nI_clamp (by omega), hw, if_pos (Or.inr (by rw [nI_toInt (by omega)]; omega)), show nI i + 6 = nI (i + 6) from nI_add i 6]
        exact ih2 st _ hD hM
      · rcases (show v = 0 ∨ v = 1 ∨ v = 2 ∨ v = 3 ∨ v = 4 ∨ v = 5 ∨ v = 6 ∨ v = 7 ∨ v = 8 ∨ v = 9 ∨ v = 10 ∨ v = 11 ∨ v = 12 ∨ v = 13 ∨ v = 14 ∨ v = 15 ∨ v = 16 ∨ v = 17 ∨ v = 18 ∨ v = 19 ∨ v = 20 by omega) with rfl | rfl | rfl | rfl | rfl | rfl | rfl | rfl | rfl | rfl | rfl | rfl | rfl | rfl | rfl | rfl | rfl | rfl | rfl | rfl | rfl
        · exact lw_0 hi hL hD hM ih2 hw
        · exact lw_1 hi hL hD hM ih2 hw
        · exact lw_2 hi hL hD hM ih2 hw
        · exact lw_3 hi hL hD hM ih2 hw
        · exact lw_4 hi hL hD hM ih2 hw
        · exact lw_5 hi hL hD hM ih2 hw
        · exact lw_6 hi hL hD hM ih2 hw
        · exact lw_7 hi hL hD hM ih2 hw
        · exact lw_8 hi hL hD hM ih2 hw
        · exact lw_9 hi hL hD hM ih2 hw
        · exact lw_10 hi hL hD hM ih2 hw
        · exact lw_11 hi hL hD hM ih2 hw
        · exact lw_12 hi hL hD hM ih2 hw
        · exact lw_13 hi hL hD hM ih2 hw
        · exact lw_14 hi hL hD hM ih2 hw
        · exact lw_15 hi hL hD hM ih2 hw
        · exact lw_16 hi hL hD hM ih2 hw
        · exact lw_17 hi hL hD hM ih2 hw
        · exact lw_18 hi hL hD hM ih2 hw
        · exact lw_19 hi hL hD hM ih2 hw
        · exact lw_20 hi hL hD hM ih2 hw
    · rw [f_L_law_23, ofNat_nI, if_pos]
      rw [Int32.lt_iff_toInt_lt, show (6 : Int32) = nI 6 from rfl, pk_sub_toInt (by omega) (by decide), nI_toInt (by omega)]
      omega
theorem rd_start : ∃ σ1 : SD, f_X4_blank σ0 0 = some σ1 ∧ (∀ k, k < 20 → σ1.2.2.2 k < 20) ∧ RD pkS σ1 (blank20, [], [], []) := by
  obtain ⟨σ1, e1, r1, x1⟩ := r_blank σ0 0
  have z : ∀ r, rowD σ0 r [] := fun r => ⟨by show (if 0 = 9 ∨ 0 = 10 ∨ 0 = 11 then (-1 : Int32) else 0) = nI 0; rfl, Nat.zero_le _, fun i hi => absurd hi (Nat.not_lt_zero i)⟩
  have hp : σ1.2.2.2 = fun k => k := x1.2.2.2
  refine ⟨σ1, e1, fun k hk => by rw [hp]; exact hk, ⟨by simp [blank20], Nat.zero_le _, Nat.zero_le _, wf_nil, blank_byte, fun x hx => absurd hx List.not_mem_nil, fun x hx => absurd hx List.not_mem_nil⟩, r1, (z 1).ot x1 (by decide), (z 2).ot x1 (by decide), ⟨[], (z 4).ot x1 (by decide)⟩, filesD_en.mpr ⟨?_, fun k hk => by rw [hp]; exact hk, fun i j _ _ q => by rw [hp] at q; exact q, fun e he => ⟨[], (z (5 + e)).ot x1 (by omega)⟩, [], fun _ => 0, (z 3).ot x1 (by decide), rfl, fun k hk => absurd hk (Nat.not_lt_zero k), fun i j hi => absurd hi (Nat.not_lt_zero i)⟩⟩
  rw [x1.1 5 0 (by omega)]
  rfl
theorem rm_start : RM τ0 (blank20, [], [], []) := by
  refine ⟨⟨by simp [blank20], Nat.zero_le _, Nat.zero_le _, wf_nil, blank_byte, fun x hx => absurd hx List.not_mem_nil, fun x hx => absurd hx List.not_mem_nil⟩, ⟨by simp [blank20]; decide, fun i hi => ?_⟩, rfl, ⟨Nat.zero_le _, fun i hi => absurd hi (Nat.not_lt_zero i)⟩, rfl, ⟨Nat.zero_le _, fun i hi => absurd hi (Nat.not_lt_zero i)⟩, rfl, fun k hk => absurd hk (Nat.not_lt_zero k)⟩
  have hi2 : i < 20 := by simpa [blank20] using hi
  show (0 : Int32) = blank20.getD i 0
  unfold blank20
  rw [List.getD_eq_getElem?_getD, List.getElem?_replicate, if_pos hi2]
  rfl
theorem pure_law : PureLaw := by
  obtain ⟨σ1, e1, e2, h1⟩ := rd_start
  refine ⟨σ1, e1, e2, fun L xs hL => ?_⟩
  exact law_l hL xs 600 0 (σ1, τ0, fun _ => 0) (blank20, [], [], []) (by omega) (Nat.zero_le _) h1 rm_start
