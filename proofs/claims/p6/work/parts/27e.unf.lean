/-! ===== PURE: the reference: a file's bytes unpacked ===== -/
/-- only file 20's bytes and their number changed -/
def ex56 (τ τ' : SM) : Prop := τ'.1 = τ.1 ∧ (∀ a, a ≠ 5 → a ≠ 6 → τ'.2 a = τ.2 a) ∧ (∀ p, p < 30000 ∨ 31500 ≤ p → τ'.2 5 p = τ.2 5 p) ∧ ∀ p, p ≠ 20 → τ'.2 6 p = τ.2 6 p
theorem ex56.rf {τ : SM} : ex56 τ τ := ⟨rfl, fun _ _ _ => rfl, fun _ _ => rfl, fun _ _ => rfl⟩
theorem ex56.tr {τ1 τ2 τ3 : SM} (h : ex56 τ1 τ2) (g : ex56 τ2 τ3) : ex56 τ1 τ3 := ⟨g.1.trans h.1, fun a n m => (g.2.1 a n m).trans (h.2.1 a n m), fun p n => (g.2.2.1 p n).trans (h.2.2.1 p n), fun p n => (g.2.2.2 p n).trans (h.2.2.2 p n)⟩
theorem ex56.c {τ : SM} {g : Nat → Int32} (h : ex20 τ g) : ex56 τ (SMc τ 5 g) := ⟨rfl, fun a n _ => SMc_n n, fun p hp => by rw [SMc_g]; exact h p hp, fun p _ => rfl⟩
theorem ex56.fl {τ τ' : SM} (e : ex56 τ τ') {k : Nat} (hk : k < 20) {f : List Int32 × List Int32} (hz : fSz f) (h : flM τ k f) : flM τ' k f := by
  have z2 := hz.2
  refine ⟨?_, fun i hi => ?_, ?_, fun i hi => ?_⟩
  · rw [e.2.1 4 (by decide) (by decide)]; exact h.1
  · rw [e.2.1 3 (by decide) (by decide)]; exact h.2.1 i hi
  · rw [e.2.2.2 k (by omega)]; exact h.2.2.1
  · rw [e.2.2.1 _ (by omega)]; exact h.2.2.2 i hi
theorem ex56.fi {τ τ' : SM} (e : ex56 τ τ') {fs : FL} (hw : wfF fs) (h : filesM τ fs) : filesM τ' fs := by
  have h20 := hw.1
  exact ⟨by rw [e.1]; exact h.1, fun k hk => e.fl (by omega) (ok_sz (wf_f hw hk)) (h.2 k hk)⟩
theorem ex56.tp {τ τ' : SM} (e : ex56 τ τ') {xs : List Int32} (h : tpM τ xs) : tpM τ' xs := h.ot (e.2.1 1 (by decide) (by decide))
def okU (o : Option (List Int32)) (L N : Nat) : Bool := match o with
  | some out => decide (L + out.length = N)
  | none => false
theorem okU_map {o : Option (List Int32)} {L N : Nat} {p : List Int32} : okU (o.map (p ++ ·)) L N = okU o (L + p.length) N := by
  cases o with
  | none => rfl
  | some z =>
    show decide (L + (p ++ z).length = N) = decide (L + p.length + z.length = N)
    rw [List.length_append, Nat.add_assoc]
theorem m_unf_l {xs : List Int32} {E N : Nat} (hE : E ≤ xs.length) (hN : N ≤ 1500) (x1 x2 : Int32) : ∀ (m q n : Nat) (τ : SM) (ys : List Int32), tpM τ xs → u20 τ ys → ys.length ≤ N → q ≤ E → E - q ≤ m → m < n → ∃ τ', f_X8_unfold_53 x1 x2 n τ (nI N) (nI ys.length) (nI q) (nI E) = some (b2i (okU (unfF (m + 1) ((xs.take E).drop q) (N - ys.length)) ys.length N), τ') ∧ ex56 τ τ' ∧ ∀ out, unfF (m + 1) ((xs.take E).drop q) (N - ys.length) = some out → τ'.2 6 20 = nI (ys.length + out.length) ∧ u20 τ' (ys ++ out) := by
  have C := cms
  have stop : ∀ (q n : Nat) (τ : SM) (ys : List Int32), u20 τ ys → ys.length ≤ N → E ≤ q → q ≤ 9000 → ∃ τ', f_X8_unfold_53 x1 x2 (n + 1) τ (nI N) (nI ys.length) (nI q) (nI E) = some (b2i (okU (some []) ys.length N), τ') ∧ ex56 τ τ' ∧ ∀ out, some [] = some out → τ'.2 6 20 = nI (ys.length + out.length) ∧ u20 τ' (ys ++ out) := by
    intro q n τ ys u hy hq hq9
    refine ⟨SMc τ 6 (upd (τ.2 6) 20 (nI ys.length)), ?_, ⟨rfl, fun a _ n => SMc_n n, fun p hp => rfl, fun p hp => by rw [SMc_g]; exact pk_un hp⟩, fun out ho => ?_⟩
    · rw [f_X8_unfold_53, if_pos (nI_le hq (by omega)), show inb (20 : Int32) (capM 6) = true from inb_t (j := 20) (by omega) (by omega), if_pos rfl, show (20 : Int32).toNatClampNeg = 20 from nI_clamp (n := 20) (by decide)]
      show _ = some (b2i (decide (ys.length + 0 = N)), _)
      by_cases c : ys.length = N
      · rw [if_pos (by rw [c]), decide_eq_true (by omega)]; rfl
      · rw [if_neg (fun z => c ((nI_eq (by omega) (by omega)).mp z)), decide_eq_false (by omega)]; rfl
    · rw [← Option.some.inj ho, List.append_nil]
      exact ⟨by rw [SMc_g, pk_us]; rfl, u⟩
  intro m
  induction m with
  | zero =>
    intro q n τ ys h u hy hq hm hn
    have h9 := h.1
    obtain ⟨i, rfl⟩ : ∃ i, n = i + 1 := ⟨n - 1, by omega⟩
    have e : (xs.take E).drop q = [] := List.drop_of_length_le (by rw [List.length_take]; omega)
    rw [e, unfF]
    exact stop q i τ ys u hy (by omega) (by omega)
  | succ m ih =>
    intro q n τ ys h u hy hq hm hn
    have h9 := h.1
    obtain ⟨i, rfl⟩ : ∃ i, n = i + 1 := ⟨n - 1, by omega⟩
    by_cases cq : q = E
    · have e : (xs.take E).drop q = [] := List.drop_of_length_le (by rw [List.length_take]; omega)
      rw [e, unfF]
      exact stop q i τ ys u hy (by omega) (by omega)
    obtain ⟨v1, v2⟩ := bN_of (i := q) h.2.2
    generalize hv : bN xs q = v at v1 v2
    have hvN : vN (nI v) = v := pk_tn (by omega)
    have hzl : ((xs.take E).drop (q + 1)).length = E - (q + 1) := dt_len hE
    rw [dt_cons hE (by omega), v2, unfF, hvN, hzl]
    rw [f_X8_unfold_53, if_neg (nI_ge (by omega) (by omega)), if_pos (inb_t (by omega) (by omega)), nI_clamp (by omega), h.2.1 _ (by omega), v2]
    unfold f_X8_unfold_102 f_X8_unfold_130
    have e128 : (128 : Int32) ≤ nI v ↔ 128 ≤ v := nI_leI (a := 128) (by decide) (by omega)
    have q128 : nI v = 128 ↔ v = 128 := nI_eq (b := 128) (by omega) (by decide)
    by_cases c1 : v < 128
    · rw [if_neg (fun z => by have := e128.mp z; omega), if_neg (fun z => by have := e128.mp z; omega), if_pos c1, nI_1, nI_1, nI_add, nI_add]
      by_cases c2 : v + 1 ≤ E - (q + 1)
      · rw [if_neg (nI_nlt (by omega) (by omega))]
        by_cases c3 : v + 1 ≤ N - ys.length
        · rw [if_pos (nI_le (by omega) (by omega)), if_pos ⟨c2, c3⟩]
          have hsl : ((xs.take E).drop (q + 1)).take (v + 1) = (xs.drop (q + 1)).take (v + 1) := by
            rw [List.drop_take, List.take_take, Nat.min_eq_left (by omega)]
          have hll : ((xs.drop (q + 1)).take (v + 1)).length = v + 1 := sl_len (by omega)
          obtain ⟨g, e1, e2, e3⟩ := m_158 (xs := xs) (ds := (xs.drop (q + 1)).take (v + 1)) (ys := ys) (q := q) (c := v) (t := v + 1) (N := N) (by rw [hll]; omega) (by omega) (by rw [hll, if_pos c1]; omega) (fun x hx => by rw [hll] at hx; rw [sl_get hx, if_pos c1]) x1 x2 (nI N) (nI E) (f_X8_unfold_53 x1 x2 i) h9 (by omega) (v + 1) 0 fu τ (by omega) (by unfold fu; omega) h (by rw [List.take_zero, List.append_nil]; exact u)
          rw [hll] at e1
          obtain ⟨τ2, f1, f2, f3⟩ := ih (q + (1 + (v + 1))) i (SMc τ 5 g) (ys ++ (xs.drop (q + 1)).take (v + 1)) (h.ot rfl) e3 (by rw [List.length_append, hll]; omega) (by omega) (by omega) (by omega)
          rw [List.length_append, hll, show (xs.take E).drop (q + (1 + (v + 1))) = ((xs.take E).drop (q + 1)).drop (v + 1) by rw [List.drop_drop]; congr 1; omega, show N - (ys.length + (v + 1)) = N - ys.length - (v + 1) by omega] at f1 f3
          refine ⟨τ2, ?_, (ex56.c e2).tr f2, fun out ho => ?_⟩
          · rw [show (0 : Int32) = nI 0 from rfl, e1, f1, okU_map, hsl, hll]
          · rw [Option.map_eq_some_iff] at ho
            obtain ⟨o, ho1, ho2⟩ := ho
            obtain ⟨k1, k2⟩ := f3 o ho1
            rw [← ho2, hsl]
            rw [List.append_assoc] at k2
            refine ⟨?_, k2⟩
            rw [k1, List.length_append, hll, Nat.add_assoc]
        · rw [if_neg (nI_ge (by omega) (by omega)), if_neg (fun z => c3 z.2)]
          exact ⟨τ, rfl, ex56.rf, fun out ho => absurd ho (by simp)⟩
      · rw [if_pos (nI_lt (by omega) (by omega)), if_neg (fun z => c2 z.1)]
        exact ⟨τ, rfl, ex56.rf, fun out ho => absurd ho (by simp)⟩
    · rw [if_pos (e128.mpr (by omega)), if_neg c1]
      by_cases c3 : v = 128
      · rw [if_pos (q128.mpr c3), if_pos (e128.mpr (by omega)), if_pos (q128.mpr c3), if_pos c3, show (0 : Int32) = nI 0 from rfl, nI_1, nI_add, nI_add, if_neg (nI_nlt (by omega) (by omega)), if_pos (nI_le (by omega) (by omega))]
        obtain ⟨g, e1, e2, e3⟩ := m_158 (xs := xs) (ds := []) (ys := ys) (q := q) (c := v) (t := 0) (N := N) (by show ys.length + 0 ≤ 1500; omega) (by omega) (by rw [if_neg c1, if_pos (show ([] : List Int32).length = 0 from rfl)]; omega) (fun x hx => absurd hx (Nat.not_lt_zero x)) x1 x2 (nI N) (nI E) (f_X8_unfold_53 x1 x2 i) h9 (by omega) 0 0 fu τ rfl (by unfold fu; omega) h (by rw [List.take_zero, List.append_nil]; exact u)
        rw [List.append_nil] at e3
        obtain ⟨τ2, f1, f2, f3⟩ := ih (q + 1) i (SMc τ 5 g) ys (h.ot rfl) e3 hy (by omega) (by omega) (by omega)
        refine ⟨τ2, ?_, (ex56.c e2).tr f2, f3⟩
        rw [show f_X8_unfold_158 x1 x2 (f_X8_unfold_53 x1 x2 i) fu τ (nI N) (nI ys.length) (nI q) (nI E) (nI v) (nI 0) (nI 0) (nI 0) = _ from e1]
        exact f1
      · rw [if_neg (fun z => c3 (q128.mp z)), if_pos (e128.mpr (by omega)), if_neg (fun z => c3 (q128.mp z)), if_neg c3, show (257 : Int32) = nI 257 from rfl, pk_sub (by omega), nI_1, nI_1, nI_add]
        by_cases c2 : 1 ≤ E - (q + 1)
        · rw [if_neg (nI_nlt (by omega) (by omega))]
          by_cases c4 : 257 - v ≤ N - ys.length
          · rw [if_pos (nI_le (by omega) (by omega)), if_pos ⟨c2, c4⟩]
            have hll : (List.replicate (257 - v) (xs.getD (q + 1) 0)).length = 257 - v := List.length_replicate
            obtain ⟨g, e1, e2, e3⟩ := m_158 (xs := xs) (ds := List.replicate (257 - v) (xs.getD (q + 1) 0)) (ys := ys) (q := q) (c := v) (t := 1) (N := N) (by rw [hll]; omega) (by omega) (by rw [hll, if_neg c1, if_neg (by omega)]; omega) (fun x hx => by rw [hll] at hx; rw [if_neg c1, Nat.add_zero, List.getD_eq_getElem?_getD, List.getElem?_replicate, if_pos hx]; rfl) x1 x2 (nI N) (nI E) (f_X8_unfold_53 x1 x2 i) h9 (by omega) (257 - v) 0 fu τ (by omega) (by unfold fu; omega) h (by rw [List.take_zero, List.append_nil]; exact u)
            rw [hll] at e1
            obtain ⟨τ2, f1, f2, f3⟩ := ih (q + (1 + 1)) i (SMc τ 5 g) (ys ++ List.replicate (257 - v) (xs.getD (q + 1) 0)) (h.ot rfl) e3 (by rw [List.length_append, hll]; omega) (by omega) (by omega) (by omega)
            rw [List.length_append, hll, show (xs.take E).drop (q + (1 + 1)) = ((xs.take E).drop (q + 1)).drop 1 by rw [List.drop_drop], show N - (ys.length + (257 - v)) = N - ys.length - (257 - v) by omega] at f1 f3
            have hg0 : ((xs.take E).drop (q + 1)).getD 0 0 = xs.getD (q + 1) 0 := dt_get (by omega)
            refine ⟨τ2, ?_, (ex56.c e2).tr f2, fun out ho => ?_⟩
            · rw [show f_X8_unfold_158 x1 x2 (f_X8_unfold_53 x1 x2 i) fu τ (nI N) (nI ys.length) (nI q) (nI E) (nI v) (nI (257 - v)) 1 0 = _ from e1, f1, okU_map, hg0, hll]
            · rw [Option.map_eq_some_iff] at ho
              obtain ⟨o, ho1, ho2⟩ := ho
              obtain ⟨k1, k2⟩ := f3 o ho1
              rw [← ho2, hg0]
              rw [List.append_assoc] at k2
              refine ⟨?_, k2⟩
              rw [k1, List.length_append, hll, Nat.add_assoc]
          · rw [if_neg (nI_ge (by omega) (by omega)), if_neg (fun z => c4 z.2)]
            exact ⟨τ, rfl, ex56.rf, fun out ho => absurd ho (by simp)⟩
        · rw [if_pos (nI_lt (by omega) (by omega)), if_neg (fun z => c2 z.1)]
          exact ⟨τ, rfl, ex56.rf, fun out ho => absurd ho (by simp)⟩
theorem cl_le {n : Nat} (h : n ≤ 2147483647) : cl n = n := Nat.min_eq_left h
theorem m_unfold {τ : SM} {xs : List Int32} (h : tpM τ xs) {a d : Nat} (ha : a + 26 ≤ xs.length) (hs : szOk xs a = true) (hd : d + num4 xs (a + 14) ≤ xs.length) : ∃ τ', f_X8_unfold τ (nI d) (nI (a + 4)) = some (b2i (upH xs a d).isSome, τ') ∧ ex56 τ τ' ∧ ∀ b, upH xs a d = some b → byM τ' 20 b := by
  have hs2 := of_decide_eq_true hs
  have h9 := h.1
  unfold f_X8_unfold
  have i1 : f_X8_is τ (nI (a + 4)) 2 0 = some (b2i (decide (num2 xs (a + 4) = 0)), τ) := m_is2 h (v := 0) (by omega) (by decide)
  rw [show (14 : Int32) = nI 14 from rfl, show (10 : Int32) = nI 10 from rfl, nI_add, nI_add, m_num4 h (by omega), Option.bind_some, m_num4 h (by omega), Option.bind_some, i1, Option.bind_some, show a + 4 + 14 = a + 18 by omega, show a + 4 + 10 = a + 14 by omega, cl_le (by omega), cl_le (by omega)]
  unfold upH upS
  by_cases c : num2 xs (a + 4) = 0
  · have hpn := hs2.2 c
    rw [decide_eq_true c, if_neg (show ¬ b2i true = 0 by decide), if_pos c, show (20 : Int32) = nI 20 from rfl, m_setBytes (by decide) hs2.1 (by omega), Option.bind_some]
    refine ⟨_, rfl, ⟨rfl, fun b h5 h6 => by rw [SMc_n h6, SMc_n h5], fun p hp => ?_, fun p hp => ?_⟩, fun b q => ?_⟩
    · show va_cpy (τ.2 1) (τ.2 5) d (1500 * 20) _ p = _
      rw [pk_cpy_out (by omega)]
    · show upd (τ.2 6) 20 _ p = _
      rw [pk_un hp]
    · rw [← Option.some.inj q]
      refine ⟨?_, fun i hi => ?_⟩
      · show upd (τ.2 6) 20 (nI (num4 xs (a + 18))) 20 = _
        rw [pk_us, slx_len hd, hpn]
      · rw [slx_len hd] at hi
        show va_cpy (τ.2 1) (τ.2 5) d (1500 * 20) _ (1500 * 20 + i) = _
        rw [pk_cpy_in (by omega) (by omega), show d + (1500 * 20 + i - 1500 * 20) = d + i by omega, h.2.1 _ (by omega)]
        unfold sl
        rw [sl_get hi]
  · rw [decide_eq_false c, if_pos (show b2i false = 0 from rfl), if_neg c, nI_add]
    obtain ⟨τ1, e1, e2, e3⟩ := m_unf_l (xs := xs) (E := d + num4 xs (a + 14)) (N := num4 xs (a + 18)) hd hs2.1 (nI d) (nI (a + 4)) (num4 xs (a + 14)) d fu τ [] h (fun i hi => absurd hi (Nat.not_lt_zero i)) (Nat.zero_le _) (by omega) (by omega) (by unfold fu; omega)
    rw [sl_dt, show num4 xs (a + 18) - ([] : List Int32).length = num4 xs (a + 18) from rfl] at e1 e3
    refine ⟨τ1, ?_, e2, fun b q => ?_⟩
    · rw [show f_X8_unfold_53 (nI d) (nI (a + 4)) fu τ (nI (num4 xs (a + 18))) 0 (nI d) (nI (d + num4 xs (a + 14))) = _ from e1]
      congr 3
      cases unfF (num4 xs (a + 14) + 1) (sl xs d (num4 xs (a + 14))) (num4 xs (a + 18)) with
      | none => rfl
      | some o =>
        show decide (0 + o.length = _) = _
        rw [Option.bind_some, Nat.zero_add]
        by_cases cl : o.length = num4 xs (a + 18)
        · rw [decide_eq_true cl, if_pos cl]; rfl
        · rw [decide_eq_false cl, if_neg cl]; rfl
    · rw [Option.bind_eq_some_iff] at q
      obtain ⟨o, q1, q2⟩ := q
      by_cases cl : o.length = num4 xs (a + 18)
      · rw [if_pos cl] at q2
        obtain ⟨k1, k2⟩ := e3 o q1
        rw [← Option.some.inj q2]
        rw [List.nil_append] at k2
        refine ⟨?_, fun i hi => k2 i hi⟩
        rw [k1, show ([] : List Int32).length = 0 from rfl, Nat.zero_add]
      · rw [if_neg cl] at q2; exact absurd q2 (by simp)
