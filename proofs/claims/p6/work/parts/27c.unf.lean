/-! ===== PURE: what undoes the folding ===== -/
def vN (c : Int32) : Nat := c.toBitVec.toNat
def unfF : Nat → List Int32 → Nat → Option (List Int32)
  | 0, _, _ => none
  | _ + 1, [], _ => some []
  | n + 1, c :: zs, r => if vN c < 128 then (if vN c + 1 ≤ zs.length ∧ vN c + 1 ≤ r then (unfF n (zs.drop (vN c + 1)) (r - (vN c + 1))).map (zs.take (vN c + 1) ++ ·) else none) else if vN c = 128 then unfF n zs r else (if 1 ≤ zs.length ∧ 257 - vN c ≤ r then (unfF n (zs.drop 1) (r - (257 - vN c))).map (List.replicate (257 - vN c) (zs.getD 0 0) ++ ·) else none)
theorem unf_len : ∀ (n : Nat) (zs : List Int32) (r : Nat) (out : List Int32), unfF n zs r = some out → out.length ≤ r := by
  intro n
  induction n with
  | zero => intro zs r out h; exact absurd h (by simp [unfF])
  | succ n ih =>
    intro zs r out h
    cases zs with
    | nil =>
      rw [unfF] at h
      rw [← Option.some.inj h]; exact Nat.zero_le _
    | cons c zs =>
      rw [unfF] at h
      by_cases c1 : vN c < 128
      · rw [if_pos c1] at h
        by_cases c2 : vN c + 1 ≤ zs.length ∧ vN c + 1 ≤ r
        · rw [if_pos c2, Option.map_eq_some_iff] at h
          obtain ⟨o, h1, h2⟩ := h
          have := ih _ _ _ h1
          rw [← h2, List.length_append, List.length_take]
          omega
        · rw [if_neg c2] at h; exact absurd h (by simp)
      · rw [if_neg c1] at h
        by_cases c3 : vN c = 128
        · rw [if_pos c3] at h; exact ih _ _ _ h
        · rw [if_neg c3] at h
          by_cases c2 : 1 ≤ zs.length ∧ 257 - vN c ≤ r
          · rw [if_pos c2, Option.map_eq_some_iff] at h
            obtain ⟨o, h1, h2⟩ := h
            have := ih _ _ _ h1
            rw [← h2, List.length_append, List.length_replicate]
            omega
          · rw [if_neg c2] at h; exact absurd h (by simp)
theorem unf_any : ∀ (n : Nat) (zs : List Int32) (r r' : Nat) (out : List Int32), unfF n zs r = some out → out.length ≤ r' → unfF n zs r' = some out := by
  intro n
  induction n with
  | zero => intro zs r r' out h; exact absurd h (by simp [unfF])
  | succ n ih =>
    intro zs r r' out h hl
    cases zs with
    | nil => rw [unfF] at h ⊢; exact h
    | cons c zs =>
      rw [unfF] at h ⊢
      by_cases c1 : vN c < 128
      · rw [if_pos c1] at h ⊢
        by_cases c2 : vN c + 1 ≤ zs.length ∧ vN c + 1 ≤ r
        · rw [if_pos c2, Option.map_eq_some_iff] at h
          obtain ⟨o, h1, h2⟩ := h
          rw [← h2, List.length_append, List.length_take, Nat.min_eq_left c2.1] at hl
          rw [if_pos ⟨c2.1, by omega⟩, ih _ _ (r' - (vN c + 1)) _ h1 (by omega), Option.map_some, h2]
        · rw [if_neg c2] at h; exact absurd h (by simp)
      · rw [if_neg c1] at h ⊢
        by_cases c3 : vN c = 128
        · rw [if_pos c3] at h ⊢; exact ih _ _ _ _ h hl
        · rw [if_neg c3] at h ⊢
          by_cases c2 : 1 ≤ zs.length ∧ 257 - vN c ≤ r
          · rw [if_pos c2, Option.map_eq_some_iff] at h
            obtain ⟨o, h1, h2⟩ := h
            rw [← h2, List.length_append, List.length_replicate] at hl
            rw [if_pos ⟨c2.1, by omega⟩, ih _ _ (r' - (257 - vN c)) _ h1 (by omega), Option.map_some, h2]
          · rw [if_neg c2] at h; exact absurd h (by simp)
theorem unf_fuel : ∀ (n m : Nat) (zs : List Int32) (r : Nat), zs.length < n → zs.length < m → unfF n zs r = unfF m zs r := by
  intro n
  induction n with
  | zero => intro m zs r h; exact absurd h (Nat.not_lt_zero _)
  | succ n ih =>
    intro m zs r h1 h2
    obtain ⟨p, rfl⟩ : ∃ p, m = p + 1 := ⟨m - 1, by omega⟩
    cases zs with
    | nil => rw [unfF, unfF]
    | cons c zs =>
      rw [List.length_cons] at h1 h2
      rw [unfF, unfF, ih p (zs.drop (vN c + 1)) _ (by rw [List.length_drop]; omega) (by rw [List.length_drop]; omega), ih p zs r (by omega) (by omega), ih p (zs.drop 1) _ (by rw [List.length_drop]; omega) (by rw [List.length_drop]; omega)]
theorem unf_byte : ∀ (n : Nat) (zs : List Int32) (r : Nat) (out : List Int32), (∀ x ∈ zs, byteP x) → unfF n zs r = some out → ∀ x ∈ out, byteP x := by
  intro n
  induction n with
  | zero => intro zs r out _ h; exact absurd h (by simp [unfF])
  | succ n ih =>
    intro zs r out hb h
    cases zs with
    | nil =>
      rw [unfF] at h
      rw [← Option.some.inj h]; intro x hx; exact absurd hx List.not_mem_nil
    | cons c zs =>
      have hb2 : ∀ x ∈ zs, byteP x := fun x hx => hb x (List.mem_cons_of_mem _ hx)
      rw [unfF] at h
      by_cases c1 : vN c < 128
      · rw [if_pos c1] at h
        by_cases c2 : vN c + 1 ≤ zs.length ∧ vN c + 1 ≤ r
        · rw [if_pos c2, Option.map_eq_some_iff] at h
          obtain ⟨o, h1, h2⟩ := h
          rw [← h2]
          exact app_byte (fun x hx => hb2 x (List.mem_of_mem_take hx)) (ih _ _ _ (fun x hx => hb2 x (List.mem_of_mem_drop hx)) h1)
        · rw [if_neg c2] at h; exact absurd h (by simp)
      · rw [if_neg c1] at h
        by_cases c3 : vN c = 128
        · rw [if_pos c3] at h; exact ih _ _ _ hb2 h
        · rw [if_neg c3] at h
          by_cases c2 : 1 ≤ zs.length ∧ 257 - vN c ≤ r
          · rw [if_pos c2, Option.map_eq_some_iff] at h
            obtain ⟨o, h1, h2⟩ := h
            rw [← h2]
            refine app_byte (fun x hx => ?_) (ih _ _ _ (fun x hx => hb2 x (List.mem_of_mem_drop hx)) h1)
            rw [List.mem_replicate] at hx
            rw [hx.2]
            exact get_byte hb2 0
          · rw [if_neg c2] at h; exact absurd h (by simp)
/-- the bytes of a file: method, where its bytes are, how many packed and unpacked -/
def upS (xs : List Int32) (d m p n : Nat) : Option (List Int32) := if m = 0 then some (sl xs d p) else (unfF (p + 1) (sl xs d p) n).bind fun out => if out.length = n then some out else none
theorem r_repeat_l {x : Int32} {k : Nat} (hk : k ≤ 1500) : ∀ (m j n : Nat) (σ : SD) (ys : List Int32), j + m = k → m < n → rowD σ 4 ys → ys.length + m ≤ 1500 → ∃ σ', f_X0_repeat_2 x (nI k) 4 n σ (nI j) = some σ' ∧ rowD σ' 4 (ys ++ List.replicate m (x &&& 255)) ∧ exR σ σ' 4 := by
  intro m
  induction m with
  | zero =>
    intro j n σ ys hj hn h hl
    obtain ⟨i, rfl⟩ : ∃ i, n = i + 1 := ⟨n - 1, by omega⟩
    refine ⟨σ, by rw [f_X0_repeat_2, if_pos (nI_le (by omega) (by omega))], ?_, exR.rf⟩
    rw [List.replicate_zero, List.append_nil]; exact h
  | succ m ih =>
    intro j n σ ys hj hn h hl
    obtain ⟨i, rfl⟩ : ∃ i, n = i + 1 := ⟨n - 1, by omega⟩
    obtain ⟨σ1, e1, r1, x1⟩ := r_push h x (show ys.length < 1500 by omega)
    obtain ⟨σ2, e2, r2, x2⟩ := ih (j + 1) i σ1 _ (by omega) (by omega) r1 (by rw [List.length_append, List.length_singleton]; omega)
    refine ⟨σ2, by rw [f_X0_repeat_2, if_neg (nI_ge (by omega) (by omega)), e1, Option.bind_some, nI_1, e2], ?_, x1.tr x2⟩
    rw [List.replicate_succ]
    rw [List.append_assoc] at r2
    exact r2
theorem r_repeat {σ : SD} {ys : List Int32} (h : rowD σ 4 ys) (x : Int32) {k : Nat} (hk : ys.length + k ≤ 1500) : ∃ σ', f_X0_repeat σ x (nI k) 4 = some σ' ∧ rowD σ' 4 (ys ++ List.replicate k (x &&& 255)) ∧ exR σ σ' 4 := by
  unfold f_X0_repeat
  exact r_repeat_l (by omega) k 0 fu σ ys (by omega) (by unfold fu; omega) h hk
theorem dt_cons {xs : List Int32} {E q : Nat} (hE : E ≤ xs.length) (hq : q < E) : (xs.take E).drop q = xs.getD q 0 :: (xs.take E).drop (q + 1) := by
  rw [dr_cons (by rw [List.length_take]; omega)]
  congr 1
  rw [List.getD_eq_getElem?_getD, List.getD_eq_getElem?_getD, List.getElem?_take, if_pos hq]
theorem d_unf_l {xs : List Int32} (hb : ∀ x ∈ xs, byteP x) {E : Nat} (hE : E ≤ xs.length) (x1 x2 : Int32) : ∀ (m q n : Nat) (σ : SD) (ys : List Int32), rowD σ 1 xs → rowD σ 4 ys → ys.length ≤ 1500 → q ≤ E → E - q ≤ m → m < n → ∃ σ', f_X0_unfold_19 1 x1 x2 4 n σ (nI E) (nI q) = some (b2i (unfF (m + 1) ((xs.take E).drop q) (1500 - ys.length)).isSome, σ') ∧ exR σ σ' 4 ∧ ∃ zs, rowD σ' 4 zs ∧ ∀ out, unfF (m + 1) ((xs.take E).drop q) (1500 - ys.length) = some out → zs = ys ++ out := by
  intro m
  induction m with
  | zero =>
    intro q n σ ys h g hy hq hm hn
    have h9 := h.le
    obtain ⟨i, rfl⟩ : ∃ i, n = i + 1 := ⟨n - 1, by omega⟩
    have e : (xs.take E).drop q = [] := List.drop_of_length_le (by rw [List.length_take]; omega)
    rw [e, unfF, f_X0_unfold_19, if_pos (nI_le (by omega) (by omega))]
    exact ⟨σ, rfl, exR.rf, ys, g, fun out ho => by rw [← Option.some.inj ho, List.append_nil]⟩
  | succ m ih =>
    intro q n σ ys h g hy hq hm hn
    have h9 := h.le
    obtain ⟨i, rfl⟩ : ∃ i, n = i + 1 := ⟨n - 1, by omega⟩
    by_cases cq : q = E
    · have e : (xs.take E).drop q = [] := List.drop_of_length_le (by rw [List.length_take]; omega)
      rw [e, unfF, f_X0_unfold_19, if_pos (nI_le (by omega) (by omega))]
      exact ⟨σ, rfl, exR.rf, ys, g, fun out ho => by rw [← Option.some.inj ho, List.append_nil]⟩
    obtain ⟨v1, v2⟩ := bN_of (i := q) hb
    generalize hv : bN xs q = v at v1 v2
    have hvN : vN (nI v) = v := pk_tn (by omega)
    have hzl : ((xs.take E).drop (q + 1)).length = E - (q + 1) := dt_len hE
    have hcap : capD 4 = 1500 := rfl
    rw [dt_cons hE (by omega), v2, unfF, hvN, hzl]
    rw [f_X0_unfold_19, if_neg (nI_ge (by omega) (by omega)), r_atn h (by omega), Option.bind_some, v2]
    unfold f_X0_unfold_62 f_X0_unfold_97 f_X0_unfold_158
    have e128 : (128 : Int32) ≤ nI v ↔ 128 ≤ v := nI_leI (a := 128) (by decide) (by omega)
    have q128 : nI v = 128 ↔ v = 128 := nI_eq (b := 128) (by omega) (by decide)
    have esub : nI E - nI q - 1 = nI (E - (q + 1)) := by
      rw [pk_sub (by omega), show (1 : Int32) = nI 1 from rfl, pk_sub (by omega), Nat.sub_sub]
    by_cases c1 : v < 128
    · rw [if_neg (fun z => by have := e128.mp z; omega), if_neg (fun z => by have := e128.mp z; omega), if_pos c1, esub, nI_1, nI_1]
      by_cases c2 : v + 1 ≤ E - (q + 1)
      · rw [if_neg (nI_nlt c2 (by omega)), r_room g, Option.bind_some, hcap]
        by_cases c3 : v + 1 ≤ 1500 - ys.length
        · rw [if_pos (nI_le c3 (by omega)), if_neg (fun z => by have := e128.mp z; omega), if_pos ⟨c2, c3⟩]
          obtain ⟨σ1, e1, r1, x1'⟩ := r_append g h (a := q + 1) (n := v + 1) (by omega) (by rw [hcap]; omega)
          have hsl : ((xs.take E).drop (q + 1)).take (v + 1) = (xs.drop (q + 1)).take (v + 1) := by
            rw [List.drop_take, List.take_take, Nat.min_eq_left (by omega)]
          have hll : ((xs.drop (q + 1)).take (v + 1)).length = v + 1 := sl_len (by omega)
          obtain ⟨σ2, e2, x2', zs, r2, o2⟩ := ih (q + (v + 1) + 1) i σ1 _ (h.ot x1' (by decide)) r1 (by rw [List.length_append, hll]; omega) (by omega) (by omega) (by omega)
          rw [List.length_append, hll, show (xs.take E).drop (q + (v + 1) + 1) = ((xs.take E).drop (q + 1)).drop (v + 1) by rw [List.drop_drop]; congr 1; omega, show 1500 - (ys.length + (v + 1)) = 1500 - ys.length - (v + 1) by omega] at e2 o2
          refine ⟨σ2, ?_, x1'.tr x2', zs, r2, fun out ho => ?_⟩
          · rw [e1, Option.bind_some, nI_add, nI_1, e2, Option.isSome_map]
          · rw [Option.map_eq_some_iff] at ho
            obtain ⟨o, ho1, ho2⟩ := ho
            rw [o2 o ho1, ← ho2, hsl, List.append_assoc]
        · rw [if_neg (nI_ge (by omega) (by omega)), if_neg (fun z => c3 z.2)]
          exact ⟨σ, rfl, exR.rf, ys, g, fun out ho => absurd ho (by simp)⟩
      · rw [if_pos (nI_lt (by omega) (by omega)), if_neg (fun z => c2 z.1)]
        exact ⟨σ, rfl, exR.rf, ys, g, fun out ho => absurd ho (by simp)⟩
    · rw [if_pos (e128.mpr (by omega)), if_neg c1]
      by_cases c3 : v = 128
      · rw [if_pos (q128.mpr c3), if_pos (e128.mpr (by omega)), if_pos (q128.mpr c3), if_pos c3, esub, show (0 : Int32) = nI 0 from rfl, if_neg (nI_nlt (Nat.zero_le _) (by omega)), r_room g, Option.bind_some, hcap, if_pos (nI_le (Nat.zero_le _) (by omega)), if_pos (e128.mpr (by omega)), r_at h, Option.bind_some]
        obtain ⟨σ1, e1, r1, x1'⟩ := r_repeat g (atx xs (nI q + 1)) (k := 0) (by omega)
        rw [List.replicate_zero, List.append_nil] at r1
        obtain ⟨σ2, e2, x2', zs, r2, o2⟩ := ih (q + 1) i σ1 ys (h.ot x1' (by decide)) r1 hy (by omega) (by omega) (by omega)
        refine ⟨σ2, ?_, x1'.tr x2', zs, r2, o2⟩
        rw [e1, Option.bind_some, nI_add, nI_1, Nat.add_zero, e2]
      · rw [if_neg (fun z => c3 (q128.mp z)), if_pos (e128.mpr (by omega)), if_neg (fun z => c3 (q128.mp z)), if_neg c3, esub, show (257 : Int32) = nI 257 from rfl, pk_sub (by omega)]
        by_cases c2 : 1 ≤ E - (q + 1)
        · rw [if_neg (show ¬ nI (E - (q + 1)) < 1 from nI_nlt (b := 1) c2 (by omega)), r_room g, Option.bind_some, hcap]
          by_cases c4 : 257 - v ≤ 1500 - ys.length
          · rw [if_pos (nI_le c4 (by omega)), if_pos (e128.mpr (by omega)), nI_1, r_atn h (by omega), Option.bind_some, if_pos ⟨c2, c4⟩]
            obtain ⟨σ1, e1, r1, x1'⟩ := r_repeat g (xs.getD (q + 1) 0) (k := 257 - v) (by omega)
            rw [byte255 (get_byte hb (q + 1))] at r1
            obtain ⟨σ2, e2, x2', zs, r2, o2⟩ := ih (q + 1 + 1) i σ1 _ (h.ot x1' (by decide)) r1 (by rw [List.length_append, List.length_replicate]; omega) (by omega) (by omega) (by omega)
            rw [List.length_append, List.length_replicate, show (xs.take E).drop (q + 1 + 1) = ((xs.take E).drop (q + 1)).drop 1 by rw [List.drop_drop], show 1500 - (ys.length + (257 - v)) = 1500 - ys.length - (257 - v) by omega] at e2 o2
            refine ⟨σ2, ?_, x1'.tr x2', zs, r2, fun out ho => ?_⟩
            · rw [e1, Option.bind_some, nI_1, e2, Option.isSome_map]
            · rw [Option.map_eq_some_iff] at ho
              obtain ⟨o, ho1, ho2⟩ := ho
              rw [o2 o ho1, ← ho2, dt_get (by omega), Nat.add_zero, List.append_assoc]
          · rw [if_neg (nI_ge (by omega) (by omega)), if_neg (fun z => c4 z.2)]
            exact ⟨σ, rfl, exR.rf, ys, g, fun out ho => absurd ho (by simp)⟩
        · rw [if_pos (show nI (E - (q + 1)) < 1 from nI_lt (b := 1) (by omega) (by decide)), if_neg (fun z => c2 z.1)]
          exact ⟨σ, rfl, exR.rf, ys, g, fun out ho => absurd ho (by simp)⟩
