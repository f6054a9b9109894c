/-! ===== PURE: a file's bytes unpacked, on both sides ===== -/
theorem sl_dt {xs : List Int32} {d p : Nat} : (xs.take (d + p)).drop d = sl xs d p := dt_eq
theorem slx_len {xs : List Int32} {d p : Nat} (h : d + p ≤ xs.length) : (sl xs d p).length = p := sl_len h
/-- whether header h goes with a file whose bytes begin at d: sizes, then the bytes, then the sum -/
def szOk (xs : List Int32) (h : Nat) : Bool := decide (num4 xs (h + 18) ≤ 1500 ∧ (num2 xs (h + 4) = 0 → num4 xs (h + 14) = num4 xs (h + 18)))
def upH (xs : List Int32) (h d : Nat) : Option (List Int32) := upS xs d (num2 xs (h + 4)) (num4 xs (h + 14)) (num4 xs (h + 18))
theorem up_len {xs : List Int32} {h d : Nat} (hs : szOk xs h = true) (hd : d + num4 xs (h + 14) ≤ xs.length) {b : List Int32} (hu : upH xs h d = some b) : b.length = num4 xs (h + 18) := by
  have hs2 := of_decide_eq_true hs
  unfold upH upS at hu
  by_cases c : num2 xs (h + 4) = 0
  · rw [if_pos c] at hu
    rw [← Option.some.inj hu, slx_len hd, hs2.2 c]
  · rw [if_neg c, Option.bind_eq_some_iff] at hu
    obtain ⟨o, h1, h2⟩ := hu
    by_cases c2 : o.length = num4 xs (h + 18)
    · rw [if_pos c2] at h2
      rw [← Option.some.inj h2]; exact c2
    · rw [if_neg c2] at h2; exact absurd h2 (by simp)
theorem up_byte {xs : List Int32} (hb : ∀ x ∈ xs, byteP x) {h d : Nat} {b : List Int32} (hu : upH xs h d = some b) : ∀ x ∈ b, byteP x := by
  unfold upH upS at hu
  by_cases c : num2 xs (h + 4) = 0
  · rw [if_pos c] at hu
    rw [← Option.some.inj hu]; exact sl_byte hb
  · rw [if_neg c, Option.bind_eq_some_iff] at hu
    obtain ⟨o, h1, h2⟩ := hu
    by_cases c2 : o.length = num4 xs (h + 18)
    · rw [if_pos c2] at h2
      rw [← Option.some.inj h2]; exact unf_byte _ _ _ _ (sl_byte hb) h1
    · rw [if_neg c2] at h2; exact absurd h2 (by simp)
theorem d_unpack {σ : SD} {xs : List Int32} (h : rowD σ 1 xs) (hb : ∀ x ∈ xs, byteP x) (g : ∃ ys, rowD σ 4 ys) {a d : Nat} (H : hdr σ xs a) (hs : szOk xs a = true) (hd : d + num4 xs (a + 14) ≤ xs.length) : ∃ σ', f_X3_unpack σ 1 (nI d) = some (b2i (upH xs a d).isSome, σ') ∧ exR σ σ' 4 ∧ (∃ ys, rowD σ' 4 ys) ∧ ∀ b, upH xs a d = some b → rowD σ' 4 b := by
  have hs2 := of_decide_eq_true hs
  have h9 := h.le
  obtain ⟨ys, g⟩ := g
  have hcap : capD 4 = 1500 := rfl
  have L2 := num2_lt hb (a + 4)
  obtain ⟨σ1, e1, r1, x1⟩ := r_short0 g
  have h1 : rowD σ1 1 xs := h.ot x1 (by decide)
  have m1 : σ1.1 12 0 = nI (num2 xs (a + 4)) := by rw [x1.1 12 0 (by omega)]; exact H.1
  have p1 : σ1.2.1 0 = lN (num4 xs (a + 14)) := by rw [x1.2.1]; exact H.2.2.1
  have tail : ∀ (σ' : SD) (zs : List Int32), rowD σ' 4 zs → exR σ1 σ' 4 → f_X3_unpack_53 1 (nI d) σ' = some (b2i (decide (zs.length = num4 xs (a + 18))), σ') := by
    intro σ' zs hz hx
    have z9 := hz.le
    unfold f_X3_unpack_53
    have s1 : σ'.2.1 1 = lN (num4 xs (a + 18)) := by rw [hx.2.1, x1.2.1]; exact H.2.2.2.1
    rw [r_size hz, Option.bind_some, s1, nI_l (by omega)]
    have e : lg_cmp (lN zs.length) (lN (num4 xs (a + 18))) = 0 ↔ zs.length = num4 xs (a + 18) := by rw [lg_cmp_eq, pk_lEQ (by omega) (by omega)]
    by_cases c : zs.length = num4 xs (a + 18)
    · rw [if_pos (e.mpr c), decide_eq_true c]; rfl
    · rw [if_neg (fun q => c (e.mp q)), decide_eq_false c]; rfl
  unfold f_X3_unpack f_X3_packedSize
  rw [e1, Option.bind_some, m1]
  unfold upH upS
  by_cases c : num2 xs (a + 4) = 0
  · have hpn := hs2.2 c
    rw [if_pos (by rw [c]; rfl), if_pos c, Option.bind_some, p1, lN_i]
    obtain ⟨σ2, e2, r2, x2⟩ := r_append r1 h1 (a := d) (n := num4 xs (a + 14)) hd (by rw [hcap]; show 0 + _ ≤ _; omega)
    rw [List.nil_append] at r2
    refine ⟨σ2, ?_, x1.tr x2, ⟨_, r2⟩, fun b q => ?_⟩
    · rw [e2, Option.bind_some, tail σ2 _ r2 x2, decide_eq_true (by rw [sl_len hd]; exact hpn)]; rfl
    · rw [← Option.some.inj q]; exact r2
  · rw [if_neg (show ¬ nI (num2 xs (a + 4)) = 0 from fun q => c ((nI_eq (b := 0) (by omega) (by decide)).mp q)), if_neg c, Option.bind_some, p1, lN_i]
    unfold f_X0_unfold
    rw [r_holds h1, hb_n (by omega) (by omega), decide_eq_true hd, Option.bind_some, if_pos rfl, if_neg (show ¬ (1 : Int32) = 0 by decide), nI_add]
    obtain ⟨σ2, e2, x2, zs, r2, o2⟩ := d_unf_l hb hd (nI d) (nI (num4 xs (a + 14))) (num4 xs (a + 14)) d fu σ1 [] h1 r1 (by decide) (by omega) (by omega) (by unfold fu; omega)
    rw [sl_dt] at e2 o2
    have o3 : ∀ out, unfF (num4 xs (a + 14) + 1) (sl xs d (num4 xs (a + 14))) 1500 = some out → zs = out := fun out ho => by
      have := o2 out ho
      rw [List.nil_append] at this
      exact this
    refine ⟨σ2, ?_, x1.tr x2, ⟨_, r2⟩, fun b q => ?_⟩
    · rw [e2, Option.bind_some]
      show (if b2i (unfF (num4 xs (a + 14) + 1) (sl xs d (num4 xs (a + 14))) 1500).isSome = 0 then some (0, σ2) else f_X3_unpack_53 1 (nI d) σ2) = _
      rw [tail σ2 zs r2 x2]
      cases hu : unfF (num4 xs (a + 14) + 1) (sl xs d (num4 xs (a + 14))) 1500 with
      | none =>
        have hn : unfF (num4 xs (a + 14) + 1) (sl xs d (num4 xs (a + 14))) (num4 xs (a + 18)) = none := by
          cases hk : unfF (num4 xs (a + 14) + 1) (sl xs d (num4 xs (a + 14))) (num4 xs (a + 18)) with
          | none => rfl
          | some o =>
            have l1 := unf_len _ _ _ _ hk
            rw [unf_any _ _ _ 1500 _ hk (by omega)] at hu
            exact absurd hu (by simp)
        rw [hn, if_pos (show b2i (Option.isSome (none : Option (List Int32))) = 0 from rfl)]
        rfl
      | some o =>
        have ho := o3 o hu
        rw [if_neg (show ¬ b2i (Option.isSome (some o)) = 0 by show ¬ b2i true = 0; decide), ho]
        by_cases cl : o.length = num4 xs (a + 18)
        · rw [unf_any _ _ _ (num4 xs (a + 18)) _ hu (by omega), decide_eq_true cl, Option.bind_some, if_pos cl]; rfl
        · rw [decide_eq_false cl]
          cases hk : unfF (num4 xs (a + 14) + 1) (sl xs d (num4 xs (a + 14))) (num4 xs (a + 18)) with
          | none => rfl
          | some o' =>
            have l1 := unf_len _ _ _ _ hk
            have := unf_any _ _ _ 1500 _ hk (by omega)
            rw [hu] at this
            have := Option.some.inj this
            subst this
            rw [Option.bind_some, if_neg cl]; rfl
    · rw [Option.bind_eq_some_iff] at q
      obtain ⟨o, q1, q2⟩ := q
      have l1 := unf_len _ _ _ _ q1
      have := o3 o (unf_any _ _ _ 1500 _ q1 (by omega))
      by_cases cl : o.length = num4 xs (a + 18)
      · rw [if_pos cl] at q2
        rw [← Option.some.inj q2, ← this]; exact r2
      · rw [if_neg cl] at q2; exact absurd q2 (by simp)
theorem d_crcAgrees {σ : SD} {xs b : List Int32} (g : rowD σ 4 b) {a : Nat} (H : σ.1 13 0 = nI (num4 xs (a + 10))) : f_X3_crcAgrees σ = some (b2i (decide (crcS b = nI (num4 xs (a + 10)))), σ) := by
  unfold f_X3_crcAgrees
  have e := d_crc g (a := 0) (k := b.length) (by omega)
  rw [List.drop_zero, List.take_length] at e
  rw [r_size g, Option.bind_some, show f_X0_crc σ 4 0 (nI b.length) = _ from e, Option.bind_some, H]
  by_cases c : crcS b = nI (num4 xs (a + 10))
  · rw [if_pos c, decide_eq_true c]; rfl
  · rw [if_neg c, decide_eq_false c]; rfl
/-! the reference -/
/-- the row that file 20 is unfolded to -/
def u20 (τ : SM) (ys : List Int32) : Prop := ∀ i, i < ys.length → τ.2 5 (30000 + i) = ys.getD i 0
/-- only the bytes of file 20 changed -/
def ex20 (τ : SM) (g : Nat → Int32) : Prop := ∀ p, p < 30000 ∨ 31500 ≤ p → g p = τ.2 5 p
theorem m_158 {xs ds ys : List Int32} {q c t N : Nat} (hl : ys.length + ds.length ≤ 1500) (hc : c < 256) (hq : q + 1 + (if c < 128 then ds.length else if ds.length = 0 then 0 else 1) ≤ xs.length) (hds : ∀ x, x < ds.length → ds.getD x 0 = xs.getD (q + 1 + (if c < 128 then x else 0)) 0) (x1 x2 x3 x7 : Int32) (kk : SM → Int32 → Int32 → Int32 → Int32 → Option (Int32 × SM)) (h9 : xs.length ≤ 9000) (hN : t ≤ 9000) : ∀ (m x n : Nat) (τ : SM), x + m = ds.length → m < n → tpM τ xs → u20 τ (ys ++ ds.take x) → ∃ g, f_X8_unfold_158 x1 x2 kk n τ x3 (nI ys.length) (nI q) x7 (nI c) (nI ds.length) (nI t) (nI x) = kk (SMc τ 5 g) x3 (nI (ys.length + ds.length)) (nI (q + (1 + t))) x7 ∧ ex20 τ g ∧ u20 (SMc τ 5 g) (ys ++ ds) := by
  have C := cms
  intro m
  induction m with
  | zero =>
    intro x n τ hx hn h u
    obtain ⟨i, rfl⟩ : ∃ i, n = i + 1 := ⟨n - 1, by omega⟩
    refine ⟨τ.2 5, ?_, fun _ _ => rfl, ?_⟩
    · rw [f_X8_unfold_158, if_pos (nI_le (by omega) (by omega)), SMc_id, nI_add, show (1 : Int32) = nI 1 from rfl, nI_add, nI_add]
    · rw [List.take_of_length_le (by omega)] at u
      rw [SMc_id]; exact u
  | succ m ih =>
    intro x n τ hx hn h u
    obtain ⟨i, rfl⟩ : ∃ i, n = i + 1 := ⟨n - 1, by omega⟩
    have hlen : (ys ++ ds.take x).length = ys.length + x := by rw [List.length_append, List.length_take]; omega
    obtain ⟨g, e1, e2, e3⟩ := ih (x + 1) i (SMc τ 5 (upd (τ.2 5) (30000 + ys.length + x) (ds.getD x 0))) (by omega) (by omega) (h.ot rfl) (fun j hj => by
      rw [List.length_append, List.length_take] at hj
      rw [SMc_g]
      by_cases cj : j = ys.length + x
      · subst cj
        rw [← Nat.add_assoc, pk_us, getD_app, if_neg (by omega), Nat.add_sub_cancel_left]
        simp only [List.getD_eq_getElem?_getD, List.getElem?_take]
        rw [if_pos (by omega)]
      · rw [pk_un (by omega), u j (by omega), getD_app, getD_app]
        by_cases c2 : j < ys.length
        · rw [if_pos c2, if_pos c2]
        · rw [if_neg c2, if_neg c2]
          simp only [List.getD_eq_getElem?_getD, List.getElem?_take]
          rw [if_pos (by omega), if_pos (by omega)])
    rw [SMc_c] at e1 e3
    refine ⟨g, ?_, fun p hp => ?_, e3⟩
    · rw [f_X8_unfold_158, if_neg (nI_ge (by omega) (by omega))]
      unfold f_X8_unfold_200
      rw [show (30000 : Int32) = nI 30000 from rfl, nI_add, nI_add, nI_1, nI_1]
      have e128 : (128 : Int32) ≤ nI c ↔ 128 ≤ c := nI_leI (a := 128) (by decide) (by omega)
      have hd := hds x (by omega)
      by_cases c1 : c < 128
      · rw [if_pos c1] at hd hq
        rw [if_neg (fun z => by have := e128.mp z; omega), nI_add, if_pos (inb_t (by omega) (by omega)), if_pos (inb_t (by omega) (by omega)), nI_clamp (by omega), nI_clamp (by omega), h.2.1 _ (by omega), ← hd, e1]
      · rw [if_neg c1] at hd hq
        rw [if_neg (by omega)] at hq
        rw [Nat.add_zero] at hd
        rw [if_pos (e128.mpr (by omega)), show (0 : Int32) = nI 0 from rfl, nI_add, Nat.add_zero, if_pos (inb_t (by omega) (by omega)), if_pos (inb_t (by omega) (by omega)), nI_clamp (by omega), nI_clamp (by omega), h.2.1 _ (by omega), ← hd, e1]
    · rw [e2 p hp, SMc_g, pk_un (by omega)]
