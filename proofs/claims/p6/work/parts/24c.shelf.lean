/-! ===== PURE: the desk's shelf: files go, change ===== -/
/-- where a file begins when c bytes from s on have gone -/
def nst (s c x : Nat) : Nat := if x ≤ s then x else x - c
section DSK5
variable {fs : FL}
theorem rel_l {len e s c : Nat} {p : Nat → Nat} {st : Nat → Nat} (hlen : len ≤ 20) (hs : s ≤ 9000) (hst : ∀ k, k < len → st k ≤ 9000) (hgt : ∀ k, k < len → s < st k → c ≤ st k) (hp20 : ∀ k, k < 20 → p k < 20) (hinj : ∀ i j, i < 20 → j < 20 → p i = p j → i = j) : ∀ (m j n : Nat) (σ : SD), j + m = len → m < n → σ.2.2.2 = p → σ.1 5 0 = nI len → σ.1 1 e = nI s → σ.1 2 e = nI c → (∀ k, j ≤ k → k < len → σ.1 1 (p k) = nI (st k)) → ∃ σ', f_X5_release_18 e n σ (nI j) = some σ' ∧ (∀ k, j ≤ k → k < len → σ'.1 1 (p k) = nI (nst s c (st k))) ∧ (∀ i, (∀ k, j ≤ k → k < len → p k ≠ i) → σ'.1 1 i = σ.1 1 i) ∧ (∀ f i, f ≠ 1 → σ'.1 f i = σ.1 f i) ∧ σ'.2 = σ.2 := by
  intro m
  induction m with
  | zero =>
    intro j n σ hj hn h1 h2 h3 h4 h5
    obtain ⟨i, rfl⟩ : ∃ i, n = i + 1 := ⟨n - 1, by omega⟩
    refine ⟨σ, by rw [f_X5_release_18, h2, if_pos (nI_le (by omega) (by omega))], fun k q1 q2 => absurd q2 (by omega), fun _ _ => rfl, fun _ _ _ => rfl, rfl⟩
  | succ m ih =>
    intro j n σ hj hn h1 h2 h3 h4 h5
    obtain ⟨i, rfl⟩ : ∃ i, n = i + 1 := ⟨n - 1, by omega⟩
    have hsj := h5 j (Nat.le_refl j) (by omega)
    have hb := hst j (by omega)
    have hne : ∀ k, j + 1 ≤ k → k < len → p k ≠ p j := fun k q1 q2 q3 => by
      have := hinj k j (by omega) (by omega) q3
      omega
    by_cases c1 : st j ≤ s
    · obtain ⟨σ', e1, e2, e3, e4, e5⟩ := ih (j + 1) i σ (by omega) (by omega) h1 h2 h3 h4 (fun k q1 q2 => h5 k (by omega) q2)
      refine ⟨σ', ?_, fun k q1 q2 => ?_, fun x hx => e3 x (fun k q1 q2 => hx k (by omega) q2), e4, e5⟩
      · rw [f_X5_release_18, h2, if_neg (nI_ge (by omega) (by omega)), if_pos (inb_t (by omega) (by omega)), nI_clamp (by omega), h1, if_pos (hp20 j (by omega)), hsj, h3, if_pos (nI_le c1 (by omega))]
        unfold f_X5_release_60
        rw [nI_1, e1]
      · by_cases ck : k = j
        · subst ck
          rw [e3 (p k) hne, hsj]
          unfold nst
          rw [if_pos c1]
        · exact e2 k (by omega) q2
    · have hc := hgt j (by omega) (by omega)
      have hpe : p j ≠ e := fun q => by
        rw [q, h3] at hsj
        have := (nI_eq (by omega) (by omega)).mp hsj
        omega
      obtain ⟨σ', e1, e2, e3, e4, e5⟩ := ih (j + 1) i (SDi σ 1 (p j) (nI (st j - c))) (by omega) (by omega) h1 h2 (by rw [SDi_n (fun q => hpe q.2.symm)]; exact h3) h4 (fun k q1 q2 => by rw [SDi_n (fun q => hne k q1 q2 q.2)]; exact h5 k (by omega) q2)
      refine ⟨σ', ?_, fun k q1 q2 => ?_, fun x hx => ?_, fun f x hf => ?_, e5⟩
      · rw [f_X5_release_18, h2, if_neg (nI_ge (by omega) (by omega)), if_pos (inb_t (by omega) (by omega)), nI_clamp (by omega), h1, if_pos (hp20 j (by omega)), hsj, h3, if_neg (nI_ge (by omega) (by omega)), if_pos (inb_t (by omega) (by omega)), if_pos (hp20 j (by omega)), h4, pk_sub hc]
        unfold f_X5_release_60
        rw [nI_1, e1]
      · by_cases ck : k = j
        · subst ck
          rw [e3 (p k) hne, SDi_g]
          unfold nst
          rw [if_neg c1]
        · exact e2 k (by omega) q2
      · rw [e3 x (fun k q1 q2 => hx k (by omega) q2), SDi_n (fun q => hx j (Nat.le_refl j) (by omega) q.2.symm)]
      · rw [e4 f x hf, SDi_n (fun q => hf q.1)]
/-- the bytes of file g have gone -/
theorem d_release {σ : SD} (h : filesD pkS σ fs) (hw : wfF fs) {g : Nat} (hg : g < fs.length) {all : List Int32} {st : Nat → Nat} (h5 : rowD σ 3 all) (h7 : ∀ k, k < fs.length → enD σ all (σ.2.2.2 k) (fs.getD k ([], [])) (st k)) (h8 : djS fs st) : ∃ σ', f_X5_release σ (σ.2.2.2 g) = some σ' ∧ rowD σ' 3 (all.take (st g) ++ all.drop (st g + (fby fs g).length)) ∧ (∀ k, k < fs.length → k ≠ g → enD σ' (all.take (st g) ++ all.drop (st g + (fby fs g).length)) (σ.2.2.2 k) (fs.getD k ([], [])) (nst (st g) (fby fs g).length (st k))) ∧ (∀ f i, ¬ (f = 0 ∧ i = 3) → f ≠ 1 → σ'.1 f i = σ.1 f i) ∧ σ'.2.1 = σ.2.1 ∧ (∀ b, b ≠ 3 → σ'.2.2.1 b = σ.2.2.1 b) ∧ σ'.2.2.2 = σ.2.2.2 := by
  obtain ⟨h1, h2, h3, -⟩ := filesD_en.mp h
  have h20 := hw.1
  have h9 := h5.le
  obtain ⟨-, a2, a3, -, -, a6, -⟩ := h7 g hg
  have a6' : st g + (fby fs g).length ≤ all.length := a6
  have a3' : σ.1 2 (σ.2.2.2 g) = nI (fby fs g).length := a3
  obtain ⟨σ1, e1, r1, x1⟩ := r_close h5 (a := st g) (n := (fby fs g).length) a6'
  have hstb : ∀ k, k < fs.length → st k ≤ 9000 := fun k hk => by
    have := (h7 k hk).2.2.2.2.2.1
    omega
  have hdj : ∀ k, k < fs.length → st g < st k → st g + (fby fs g).length ≤ st k := fun k hk q => by
    rcases h8 g k hg hk (fun e => by rw [e] at q; omega) with z | z
    · exact z
    · omega
  obtain ⟨σ2, e2, f1, f2, f3, f4⟩ := rel_l (len := fs.length) (e := σ.2.2.2 g) (s := st g) (c := (fby fs g).length) (p := σ.2.2.2) (st := st) h20 (by omega) hstb (fun k hk q => by have := hdj k hk q; omega) h2 h3 fs.length 0 fu σ1 (by omega) (by unfold fu; omega) x1.2.2.2 (by rw [x1.1 5 0 (by omega)]; exact h1) (by rw [x1.1 1 _ (by omega)]; exact a2) (by rw [x1.1 2 _ (by omega)]; exact a3') (fun k _ hk => by rw [x1.1 1 _ (by omega)]; exact (h7 k hk).2.1)
  have hl : (all.take (st g) ++ all.drop (st g + (fby fs g).length)).length = all.length - (fby fs g).length := by
    rw [List.length_append, List.length_take, List.length_drop]
    omega
  refine ⟨σ2, ?_, ?_, fun k hk hkg => ?_, fun f i n1 n2 => ?_, ?_, fun b hb => ?_, ?_⟩
  · unfold f_X5_release
    rw [a2, a3', e1, Option.bind_some]
    exact e2
  · exact ⟨by rw [f3 0 3 (by decide)]; exact r1.1, r1.2.1, fun i hi => by rw [show σ2.2.2.1 = σ1.2.2.1 by rw [f4]]; exact r1.2.2 i hi⟩
  · obtain ⟨b1, b2, b3, b4, b5, b6, b7⟩ := h7 k hk
    have b6' : st k + (fby fs k).length ≤ all.length := b6
    have hrow : rowD σ1 (5 + σ.2.2.2 k) (fs.getD k ([], [])).1 := b1.ot x1 (by omega)
    refine ⟨⟨by rw [f3 0 _ (by decide)]; exact hrow.1, hrow.2.1, fun i hi => by rw [show σ2.2.2.1 = σ1.2.2.1 by rw [f4]]; exact hrow.2.2 i hi⟩, f1 k (Nat.zero_le k) hk, ?_, ?_, ?_, ?_, ?_⟩
    · rw [f3 2 _ (by decide), x1.1 2 _ (by omega)]; exact b3
    · rw [f3 3 _ (by decide), x1.1 3 _ (by omega)]; exact b4
    · rw [f3 4 _ (by decide), x1.1 4 _ (by omega)]; exact b5
    · rw [hl]
      show nst (st g) (fby fs g).length (st k) + (fby fs k).length ≤ _
      unfold nst
      by_cases c : st k ≤ st g
      · rw [if_pos c]
        rcases h8 g k hg hk (fun e => hkg e.symm) with z | z
        · omega
        · omega
      · rw [if_neg c]
        have := hdj k hk (by omega)
        omega
    · refine Eq.trans ?_ b7
      show ((all.take (st g) ++ all.drop (st g + (fby fs g).length)).drop (nst (st g) (fby fs g).length (st k))).take (fby fs k).length = (all.drop (st k)).take (fby fs k).length
      by_cases c0 : (fby fs k).length = 0
      · rw [c0, List.take_zero, List.take_zero]
      by_cases c2 : (fby fs g).length = 0
      · rw [c2, Nat.add_zero, List.take_append_drop]
        unfold nst
        rw [Nat.sub_zero, ite_self]
      unfold nst
      by_cases c : st k ≤ st g
      · rw [if_pos c]
        have hz : st k + (fby fs k).length ≤ st g := by
          rcases h8 g k hg hk (fun e => hkg e.symm) with z | z
          · omega
          · exact z
        rw [sl_app (by rw [List.length_take]; omega), List.drop_take, List.take_take, Nat.min_eq_left (by omega)]
      · rw [if_neg c]
        have := hdj k hk (by omega)
        rw [List.drop_append, List.length_take, Nat.min_eq_left (by omega), List.drop_of_length_le (by rw [List.length_take]; omega), List.nil_append, List.drop_drop]
        congr 2
        omega
  · rw [f3 f i n2, x1.1 f i n1]
  · rw [show σ2.2.1 = σ1.2.1 by rw [f4], x1.2.1]
  · rw [show σ2.2.2.1 = σ1.2.2.1 by rw [f4], x1.2.2.1 b hb]
  · rw [show σ2.2.2.2 = σ1.2.2.2 by rw [f4], x1.2.2.2]
end DSK5
