/-! ===== PURE: read: what a whole archive is ===== -/
def eoE (xs : List Int32) : Nat := xs.length - 22
def eoN (xs : List Int32) : Nat := num2 xs (eoE xs + 8)
def eoF (xs : List Int32) : Nat := num4 xs (eoE xs + 16)
def eoK (xs : List Int32) : Bool := decide (22 ≤ xs.length) && (sigAt xs (eoE xs) 5 6 && decide (num2 xs (eoE xs + 4) = 0 ∧ num2 xs (eoE xs + 6) = 0 ∧ num2 xs (eoE xs + 20) = 0 ∧ eoN xs ≤ 20 ∧ eoN xs = num2 xs (eoE xs + 10) ∧ eoF xs + num4 xs (eoE xs + 12) = eoE xs ∧ (0 < eoN xs ∨ eoE xs = 0)))
def cnN (xs : List Int32) (c : Nat) : Nat := num2 xs (c + 28)
def cnm (xs : List Int32) (c : Nat) : List Int32 := sl xs (c + 46) (cnN xs c)
/-- a central header at a, its name not looked at among the others -/
def cenK (xs : List Int32) (e a : Nat) : Bool := sigAt xs a 1 2 && (t2 xs (a + 4) 20 && (hdOk xs (a + 6) && (t2 xs (a + 32) 0 && (t2 xs (a + 34) 0 && (t2 xs (a + 36) 0 && (t4 xs (a + 38) 0 && (decide (a + 46 + cnN xs a ≤ e) && nameAt xs (a + 46) (cnN xs a))))))))
def era (xs : List Int32) (cs : List Nat) (a : Nat) : Bool := cs.any fun c => decide (cnN xs c = cnN xs a ∧ sl xs (c + 46) (cnN xs a) = sl xs (a + 46) (cnN xs a))
def cenF (xs : List Int32) (e : Nat) : Nat → Nat → List Nat → Option (List Nat)
  | 0, _, cs => some cs
  | m + 1, a, cs => if cenK xs e a = true ∧ era xs cs a = false ∧ (m = 0 → a + 46 + cnN xs a = e) then cenF xs e m (a + 46 + cnN xs a) (cs ++ [a]) else none
def lcP (xs : List Int32) (c : Nat) : Nat := num4 xs (c + 20)
def locK (xs : List Int32) (first t c : Nat) : Bool := t4 xs (c + 42) t && (sigAt xs t 3 4 && (decide (t + 4 + 26 ≤ xs.length ∧ c + 6 + 26 ≤ xs.length ∧ sl xs (t + 4) 26 = sl xs (c + 6) 26) && (decide (t + 30 + cnN xs c ≤ xs.length ∧ c + 46 + cnN xs c ≤ xs.length ∧ sl xs (t + 30) (cnN xs c) = sl xs (c + 46) (cnN xs c)) && decide (t + 30 + cnN xs c + lcP xs c ≤ first))))
def locF (xs : List Int32) (first : Nat) : List Nat → Nat → Option (List Nat)
  | [], _ => some []
  | c :: cs, t => if locK xs first t c = true ∧ (cs.length = 0 → t + 30 + cnN xs c + lcP xs c = first) then (locF xs first cs (t + 30 + cnN xs c + lcP xs c)).map ((t + 30 + cnN xs c) :: ·) else none
def conF (xs : List Int32) : List (Nat × Nat) → Nat → Option FL
  | [], _ => some []
  | (c, d) :: r, s => if szOk xs (c + 6) = true ∧ s + num4 xs (c + 24) ≤ 6000 then (upH xs (c + 6) d).bind fun b => if crcS b = nI (num4 xs (c + 16)) then (conF xs r (s + num4 xs (c + 24))).map ((cnm xs c, b) :: ·) else none else none
def rdS (xs : List Int32) : Option FL := if eoK xs = true then (cenF xs (eoE xs) (eoN xs) (eoF xs) []).bind fun cs => (locF xs (eoF xs) cs 0).bind fun ps => conF xs (cs.zip ps) 0 else none
theorem eoK_t {xs : List Int32} (h : eoK xs = true) : 22 ≤ xs.length ∧ sigAt xs (eoE xs) 5 6 = true ∧ num2 xs (eoE xs + 4) = 0 ∧ num2 xs (eoE xs + 6) = 0 ∧ num2 xs (eoE xs + 20) = 0 ∧ eoN xs ≤ 20 ∧ eoN xs = num2 xs (eoE xs + 10) ∧ eoF xs + num4 xs (eoE xs + 12) = eoE xs ∧ (0 < eoN xs ∨ eoE xs = 0) := by
  unfold eoK at h
  rw [Bool.and_eq_true, Bool.and_eq_true] at h
  exact ⟨of_decide_eq_true h.1, h.2.1, of_decide_eq_true h.2.2⟩
theorem cenK_t {xs : List Int32} {e a : Nat} (h : cenK xs e a = true) : sigAt xs a 1 2 = true ∧ t2 xs (a + 4) 20 = true ∧ hdOk xs (a + 6) = true ∧ t2 xs (a + 32) 0 = true ∧ t2 xs (a + 34) 0 = true ∧ t2 xs (a + 36) 0 = true ∧ t4 xs (a + 38) 0 = true ∧ a + 46 + cnN xs a ≤ e ∧ nameAt xs (a + 46) (cnN xs a) = true := by
  unfold cenK at h
  rw [Bool.and_eq_true, Bool.and_eq_true, Bool.and_eq_true, Bool.and_eq_true, Bool.and_eq_true, Bool.and_eq_true, Bool.and_eq_true, Bool.and_eq_true] at h
  exact ⟨h.1, h.2.1, h.2.2.1, h.2.2.2.1, h.2.2.2.2.1, h.2.2.2.2.2.1, h.2.2.2.2.2.2.1, of_decide_eq_true h.2.2.2.2.2.2.2.1, h.2.2.2.2.2.2.2.2⟩
/-- centrals with names of their own -/
def cnD (xs : List Int32) (e : Nat) (cs : List Nat) : Prop := (∀ c ∈ cs, cenK xs e c = true) ∧ (cs.map (cnm xs)).Nodup
theorem era_nm {xs : List Int32} {e a : Nat} {cs : List Nat} (he : e ≤ xs.length) (h : cnD xs e cs) (ha : cenK xs e a = true) (hn : era xs cs a = false) : cnD xs e (cs ++ [a]) := by
  refine ⟨fun c hc => ?_, ?_⟩
  · rcases List.mem_append.mp hc with q | q
    · exact h.1 c q
    · rw [List.mem_singleton] at q; rw [q]; exact ha
  · rw [List.map_append, List.nodup_append]
    refine ⟨h.2, by simp, fun x hx y hy => ?_⟩
    rw [List.map_cons, List.map_nil, List.mem_singleton] at hy
    rw [List.mem_map] at hx
    obtain ⟨c, hc, rfl⟩ := hx
    subst hy
    intro q
    have hb := (cenK_t (h.1 c hc)).2.2.2.2.2.2.2.1
    have ha2 := (cenK_t ha).2.2.2.2.2.2.2.1
    have hl := congrArg List.length q
    unfold cnm at hl
    rw [slx_len (by omega), slx_len (by omega)] at hl
    unfold era at hn
    rw [List.any_eq_false] at hn
    refine hn c hc (decide_eq_true ⟨hl, ?_⟩)
    unfold cnm at q
    rw [hl] at q
    exact q
theorem cenF_t {xs : List Int32} {e : Nat} (he : e ≤ xs.length) : ∀ (m a : Nat) (cs L : List Nat), cnD xs e cs → cenF xs e m a cs = some L → cnD xs e L ∧ L.length = cs.length + m ∧ ∃ r, L = cs ++ r := by
  intro m
  induction m with
  | zero =>
    intro a cs L h g
    rw [cenF] at g
    rw [← Option.some.inj g]
    exact ⟨h, rfl, [], (List.append_nil _).symm⟩
  | succ m ih =>
    intro a cs L h g
    rw [cenF] at g
    by_cases c : cenK xs e a = true ∧ era xs cs a = false ∧ (m = 0 → a + 46 + cnN xs a = e)
    · rw [if_pos c] at g
      obtain ⟨q1, q2, r, q3⟩ := ih _ _ L (era_nm he h c.1 c.2.1) g
      rw [List.length_append, List.length_singleton] at q2
      exact ⟨q1, by omega, a :: r, by rw [q3, List.append_assoc]; rfl⟩
    · rw [if_neg c] at g; exact absurd g (by simp)
theorem locK_t {xs : List Int32} {first t c : Nat} (h : locK xs first t c = true) : t4 xs (c + 42) t = true ∧ sigAt xs t 3 4 = true ∧ (t + 4 + 26 ≤ xs.length ∧ c + 6 + 26 ≤ xs.length ∧ sl xs (t + 4) 26 = sl xs (c + 6) 26) ∧ (t + 30 + cnN xs c ≤ xs.length ∧ c + 46 + cnN xs c ≤ xs.length ∧ sl xs (t + 30) (cnN xs c) = sl xs (c + 46) (cnN xs c)) ∧ t + 30 + cnN xs c + lcP xs c ≤ first := by
  unfold locK at h
  rw [Bool.and_eq_true, Bool.and_eq_true, Bool.and_eq_true, Bool.and_eq_true] at h
  exact ⟨h.1, h.2.1, of_decide_eq_true h.2.2.1, of_decide_eq_true h.2.2.2.1, of_decide_eq_true h.2.2.2.2⟩
theorem locF_t {xs : List Int32} {first : Nat} : ∀ (cs : List Nat) (t : Nat) (ps : List Nat), locF xs first cs t = some ps → ps.length = cs.length ∧ ∀ p ∈ cs.zip ps, p.2 + lcP xs p.1 ≤ first := by
  intro cs
  induction cs with
  | nil =>
    intro t ps h
    rw [locF] at h
    rw [← Option.some.inj h]
    exact ⟨rfl, fun p hp => by rw [List.zip_nil_left] at hp; exact absurd hp List.not_mem_nil⟩
  | cons c cs ih =>
    intro t ps h
    rw [locF] at h
    by_cases q : locK xs first t c = true ∧ (cs.length = 0 → t + 30 + cnN xs c + lcP xs c = first)
    · rw [if_pos q, Option.map_eq_some_iff] at h
      obtain ⟨o, h1, h2⟩ := h
      obtain ⟨i1, i2⟩ := ih _ o h1
      rw [← h2]
      refine ⟨by rw [List.length_cons, List.length_cons, i1], fun p hp => ?_⟩
      rw [List.zip_cons_cons] at hp
      rcases List.mem_cons.mp hp with z | z
      · rw [z]; exact (locK_t q.1).2.2.2.2
      · exact i2 p z
    · rw [if_neg q] at h; exact absurd h (by simp)
theorem conF_t {xs : List Int32} (hb : ∀ x ∈ xs, byteP x) {e first : Nat} (he : first ≤ xs.length) : ∀ (r : List (Nat × Nat)) (s : Nat) (gs : FL), (∀ p ∈ r, cenK xs e p.1 = true) → (∀ p ∈ r, p.2 + lcP xs p.1 ≤ first) → conF xs r s = some gs → gs.length = r.length ∧ gs.map Prod.fst = r.map (fun p => cnm xs p.1) ∧ (s ≤ 6000 → s + tot gs ≤ 6000) ∧ ∀ f ∈ gs, fileOk f := by
  intro r
  induction r with
  | nil =>
    intro s gs _ _ h
    rw [conF] at h
    rw [← Option.some.inj h]
    exact ⟨rfl, rfl, fun q => q, fun f hf => absurd hf List.not_mem_nil⟩
  | cons p r ih =>
    intro s gs k1 k2 h
    obtain ⟨c, d⟩ := p
    rw [conF] at h
    by_cases q : szOk xs (c + 6) = true ∧ s + num4 xs (c + 24) ≤ 6000
    · rw [if_pos q, Option.bind_eq_some_iff] at h
      obtain ⟨b, h1, h2⟩ := h
      by_cases q2 : crcS b = nI (num4 xs (c + 16))
      · rw [if_pos q2, Option.map_eq_some_iff] at h2
        obtain ⟨o, h3, h4⟩ := h2
        obtain ⟨i1, i2, i3, i4⟩ := ih _ o (fun p hp => k1 p (List.mem_cons_of_mem _ hp)) (fun p hp => k2 p (List.mem_cons_of_mem _ hp)) h3
        have hc : cenK xs e c = true := k1 (c, d) List.mem_cons_self
        have hd : d + lcP xs c ≤ first := k2 (c, d) List.mem_cons_self
        have hp : d + num4 xs (c + 6 + 14) ≤ xs.length := by
          rw [show c + 6 + 14 = c + 20 by omega]; unfold lcP at hd; omega
        have hl : b.length = num4 xs (c + 6 + 18) := up_len q.1 hp h1
        rw [show c + 6 + 18 = c + 24 by omega] at hl
        have hs := (of_decide_eq_true q.1).1
        rw [show c + 6 + 18 = c + 24 by omega] at hs
        obtain ⟨n1, n2, n3, n4⟩ := nameAt_u (cenK_t hc).2.2.2.2.2.2.2.2
        have hnl : (cnm xs c).length = cnN xs c := slx_len n3
        rw [← h4]
        refine ⟨by rw [List.length_cons, List.length_cons, i1], by rw [List.map_cons, List.map_cons, i2], fun _ => ?_, fun f hf => ?_⟩
        · rw [tot_cons]
          have := i3 q.2
          show s + (b.length + tot o) ≤ 6000
          omega
        · rcases List.mem_cons.mp hf with z | z
          · rw [z]
            exact ⟨by show 1 ≤ (cnm xs c).length; omega, by show (cnm xs c).length ≤ 30; omega, n4, by show b.length ≤ 1500; omega, up_byte hb h1⟩
          · exact i4 f z
      · rw [if_neg q2] at h2; exact absurd h2 (by simp)
    · rw [if_neg q] at h; exact absurd h (by simp)
theorem rd_ok {xs : List Int32} (hb : ∀ x ∈ xs, byteP x) {e first : Nat} (he : first ≤ xs.length) {cs ps : List Nat} (h1 : cnD xs e cs) (hn : cs.length ≤ 20) (h2 : locF xs first cs 0 = some ps) {gs : FL} (h3 : conF xs (cs.zip ps) 0 = some gs) : wfF gs ∧ gs.length = cs.length := by
  obtain ⟨l1, l2⟩ := locF_t cs 0 ps h2
  obtain ⟨c1, c2, c3, c4⟩ := conF_t hb he (cs.zip ps) 0 gs (fun p hp => h1.1 p.1 (List.of_mem_zip hp).1) l2 h3
  rw [List.length_zip, l1, Nat.min_self] at c1
  refine ⟨⟨by omega, c4, by have := c3 (by omega); omega, ?_⟩, c1⟩
  rw [c2]
  have e2 : (cs.zip ps).map (fun p => cnm xs p.1) = cs.map (cnm xs) := by
    rw [show (fun p : Nat × Nat => cnm xs p.1) = (cnm xs) ∘ Prod.fst from rfl, ← List.map_map, List.map_fst_zip (by omega)]
  rw [e2]
  exact h1.2
