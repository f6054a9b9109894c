def rm_Sh : Room := { frames := 3, cells := 63, slots := 6762, locals := 90 }
def shC (cyI cyE : ClassId) (B : Nat) (c : Nat → va_E) (i n : Nat) : va_E :=
  if n = 7 then .inr (4, [.ref (B + 8), .ref (B + 9), .int 0]) else if n = 8 then .inl (cyE, 20, .inr (.inr (.inr (.inr (fun q => if q < i then some (B + (11 + 3 * q)) else none))))) else if n = 9 then oRow (.ref (B + 10)) 0 else if n = 10 then oArr cyI 6000
  else if 11 ≤ n ∧ n < 11 + 3 * i then (if (n - 11) % 3 = 0 then oEnt (.ref (B + (n + 1))) else if (n - 11) % 3 = 1 then oRow (.ref (B + (n + 1))) 0 else oArr cyI 30) else c n
theorem shC_step {cyI cyE : ClassId} {B : Nat} {c : Nat → va_E} {i : Nat} (n : Nat) (hn : n < 11 + 3 * (i + 1)) :
    va_up (va_up (va_up (va_up (va_up (va_up (shC cyI cyE B c i) (11 + 3 * i) (oEnt .null)) (11 + 3 * i + 1) (oRow .null 0)) (11 + 3 * i + 1 + 1) (oArr cyI 30)) (11 + 3 * i + 1) (oRow (.ref (B + (11 + 3 * i + 1 + 1))) 0)) (11 + 3 * i) (oEnt (.ref (B + (11 + 3 * i + 1))))) 8 (.inl (cyE, 20, .inr (.inr (.inr (.inr (va_up (fun q => if q < i then some (B + (11 + 3 * q)) else none) i (some (B + (11 + 3 * i))))))))) n = shC cyI cyE B c (i + 1) n := by
  by_cases h8 : n = 8
  · subst h8
    simp only [va_up, shC]
    simp only [if_true, if_pos, show ¬ (8 = 7) by decide, if_false]
    congr 6
    refine congrArg Sum.inr (funext fun q => ?_)
    simp only [va_up]
    by_cases hq : q = i
    · subst hq; simp
    · simp only [if_neg hq]
      by_cases hq2 : q < i
      · rw [if_pos hq2, if_pos (by omega)]
      · rw [if_neg hq2, if_neg (by omega)]
  · rw [va_up_ne _ _ h8]
    by_cases hA : n = 11 + 3 * i
    · subst hA
      rw [va_up_self]
      have e1 : (11 + 3 * i - 11) % 3 = 0 := by omega
      simp only [shC, if_neg (show ¬ 11 + 3 * i = 7 by omega), if_neg (show ¬ 11 + 3 * i = 8 by omega), if_neg (show ¬ 11 + 3 * i = 9 by omega), if_neg (show ¬ 11 + 3 * i = 10 by omega), if_pos (show 11 ≤ 11 + 3 * i ∧ 11 + 3 * i < 11 + 3 * (i + 1) by omega), if_pos e1]
    · rw [va_up_ne _ _ hA]
      by_cases hB : n = 11 + 3 * i + 1
      · subst hB
        rw [va_up_self]
        have e1 : ¬ (11 + 3 * i + 1 - 11) % 3 = 0 := by omega
        have e2 : (11 + 3 * i + 1 - 11) % 3 = 1 := by omega
        simp only [shC, if_neg (show ¬ 11 + 3 * i + 1 = 7 by omega), if_neg (show ¬ 11 + 3 * i + 1 = 8 by omega), if_neg (show ¬ 11 + 3 * i + 1 = 9 by omega), if_neg (show ¬ 11 + 3 * i + 1 = 10 by omega), if_pos (show 11 ≤ 11 + 3 * i + 1 ∧ 11 + 3 * i + 1 < 11 + 3 * (i + 1) by omega), if_neg e1, if_pos e2]
      · rw [va_up_ne _ _ hB]
        by_cases hC : n = 11 + 3 * i + 1 + 1
        · subst hC
          rw [va_up_self]
          have e1 : ¬ (11 + 3 * i + 1 + 1 - 11) % 3 = 0 := by omega
          have e2 : ¬ (11 + 3 * i + 1 + 1 - 11) % 3 = 1 := by omega
          simp only [shC, if_neg (show ¬ 11 + 3 * i + 1 + 1 = 7 by omega), if_neg (show ¬ 11 + 3 * i + 1 + 1 = 8 by omega), if_neg (show ¬ 11 + 3 * i + 1 + 1 = 9 by omega), if_neg (show ¬ 11 + 3 * i + 1 + 1 = 10 by omega), if_pos (show 11 ≤ 11 + 3 * i + 1 + 1 ∧ 11 + 3 * i + 1 + 1 < 11 + 3 * (i + 1) by omega), if_neg e1, if_neg e2]
        · rw [va_up_ne _ _ hC, va_up_ne _ _ hB, va_up_ne _ _ hA]
          by_cases h1 : 11 ≤ n ∧ n < 11 + 3 * i
          · simp only [shC, if_pos h1, if_pos (show 11 ≤ n ∧ n < 11 + 3 * (i + 1) by omega), if_neg h8]
            try rw [if_neg h8, if_neg h8]
          · simp only [shC, if_neg h1, if_neg (show ¬ (11 ≤ n ∧ n < 11 + 3 * (i + 1)) by omega)]
            try rw [if_neg h8, if_neg h8]
set_option maxHeartbeats 4000000 in
set_option maxRecDepth 100000 in
theorem met_X5_init (l : Launch) (dC : Nat → ClassId) (dI : Nat → Nat → Nat) (cyI cyE : ClassId) (tC : Nat) (B : Nat) (c : Nat → va_E) (he : c 7 = .inr (4, [.null, .null, .int 0])) : kx l dC dI cyI cyE tC yX5_init cX5_init 2 rm_Sh [.ref (B + 7)] B 8 c 71 (shC cyI cyE B c 20) := by
  refine Met.ofW (cc := cX5_init) (maxL := 2) (ret := none) (by decide) rfl ?_
  intro p e s m args below meth c0 s₁ B0 hml hv
  obtain ⟨hargs, hG, hE⟩ := hv
  have hx := B0.exec
  have hb := B0.bytes
  have hr := B0.returns
  have hlocks := B0.notSynchronized
  have hin : meth.name = "<init>" := (name_of_methodNamed B0.named B0.method).1
  have hts := atoms_spec (ws := wsY yX5_init cX5_init 2 none) B0.pre
  have hown : s.vm.findClass RX5 = some m.cls := findClass_of_methodNamed B0.named
  have C0 : CallFix p m c0 cX5_init 2 s args (wsY yX5_init cX5_init 2 none) RX5 := ⟨hx, hb, hml, hown, hts⟩
  have hT : ∀ w ∈ bw, w ∈ wsY yX5_init cX5_init 2 none := fun w h => List.mem_cons_of_mem _ h
  have hK := hE.1.1
  have hS : va_S (rA B) s.heap s.heap [] := va_S.rf
  rw [show entryFrame m args 2 = entryFrame m ([.ref (B + 7)] : List Value).toArray 2 by rw [hargs]]
  have hl := lv_entry ([.ref (B + 7)]) (n := 2) (Nat.le_of_ble_eq_true rfl)
  rw [lg_entry_eq]
  generalize (lg_sl ([.ref (B + 7)]) ++ List.replicate (2 - (lg_sl ([.ref (B + 7)])).length) Slot.unset).toArray = ls at hl ⊢
  show W p l e rm_Sh s m args below meth c0 s.heap [] 0 0 _ _
  have hl : lv_has ls 2 [(0, .ref (B + 7))] := hl
  obtain ⟨Q, hQ⟩ : ∃ Q : State → Prop, Q = MQ below (va_Qv (fun _ : Unit => True) (fun _ t => rg dC dI B 71 (shC cyI cyE B c 20) t.heap) (rA B)) args s rm_Sh.cells rm_Sh.slots (rA B) := ⟨_, rfl⟩
  rw [← hQ]
  have loop : ∀ (n i : Nat), i + n = 20 → ∀ (H : Heap) (locs : List Loc) (ls : Array Slot), rg dC dI B (11 + 3 * i) (shC cyI cyE B c i) H → va_S (rA B) s.heap H locs → lv_has ls 2 [(0, .ref (B + 7)), (1, .int (nI i))] → W p l e rm_Sh s m args below meth c0 H locs (3 + 3 * i) (6022 + 37 * i) Q (F0 m 29 ls []) := by
    intro n
    induction n with
    | zero =>
      intro i hi H locs ls hG hS hl
      obtain rfl : i = 20 := by omega
      refine lv_iload_n hx hb dX5_init_29 rfl (lv_at hl 1 rfl) ?_
      refine lv_aload_n hx hb dX5_init_30 rfl (lv_at hl 0 rfl) ?_
      refine rg_get (C := RX5) (T := TX5) (N := 3) (ci := 4) (j := 7) (f := 0) C0 hT hK inX5 hG (by decide) rfl rfl (by decide) mf_X5_11 rfl dX5_init_31 ?_
      refine va_alen hx hb hK hG.2 8 1 (ax_at (ad := fun i => B + i) (by decide) rfl) rfl rfl dX5_init_34 ?_
      refine lv_icmp_ge (tgt := 57) hx hb dX5_init_35 (by decide) (fun h => ?_) (fun h => ?_)
      · rw [hQ]
        exact rg_vret hx hb hr hlocks hG hS dX5_init_57 rfl rfl
      · exact absurd (show (20 : Int32) ≤ nI 20 by decide) h
    | succ n ih =>
      intro i hi H locs ls hG hS hl
      refine lv_iload_n hx hb dX5_init_29 rfl (lv_at hl 1 rfl) ?_
      refine lv_aload_n hx hb dX5_init_30 rfl (lv_at hl 0 rfl) ?_
      refine rg_get (C := RX5) (T := TX5) (N := 3) (ci := 4) (j := 7) (f := 0) C0 hT hK inX5 hG (by omega) rfl rfl (by decide) mf_X5_11 rfl dX5_init_31 ?_
      refine va_alen hx hb hK hG.2 8 1 (ax_at (ad := fun i => B + i) (by omega) rfl) rfl rfl dX5_init_34 ?_
      refine lv_icmp_ge (tgt := 57) hx hb dX5_init_35 (by decide) (fun h => ?_) (fun h => ?_)
      · exact absurd h (nI_ge (a := i) (b := 20) (by omega) (by decide))
      · refine lv_aload_n hx hb dX5_init_38 rfl (lv_at hl 0 rfl) ?_
        refine rg_get (C := RX5) (T := TX5) (N := 3) (ci := 4) (j := 7) (f := 0) C0 hT hK inX5 hG (by omega) rfl rfl (by decide) mf_X5_11 rfl dX5_init_39 ?_
        refine lv_iload_n hx hb dX5_init_42 rfl (lv_at hl 1 rfl) ?_
        refine rg_new (C := RX1) (T := TX1) (N := 5) (ci := 0) (fs := [.null, .int 0, .int 0, .int 0, .int 0]) C0 hT hK inX1 tyX1 tyX1_ok mq_X5_9 mn_X1 mz_X1 rfl (fun j hj => by rcases (show j = 0 ∨ j = 1 ∨ j = 2 ∨ j = 3 ∨ j = 4 by omega) with rfl | rfl | rfl | rfl | rfl <;> rfl) hG hS (by show 3 + 3 * i + 1 ≤ 63; omega) (by show 6022 + 37 * i + 5 ≤ 6762; omega) dX5_init_43 (fun H hG hS => ?_)
        refine lv_dup hx hb dX5_init_46 rfl ?_
        refine rg_callI (j := 11 + 3 * i) (kn := 0) (k' := 11 + 3 * i + 1 + 2) [] true C0 hT hE (met_X1_init l dC dI cyI cyE tC B (11 + 3 * i + 1) (11 + 3 * i) _ (by omega) (va_up_self _ _ _)) hG hS mc_X1_init (fun h => by cases h) (fun h => by decide) mi_X1_init mz_X1 rfl (by decide +kernel) ⟨Nat.le_of_ble_eq_true rfl, Nat.le_of_ble_eq_true rfl⟩ rfl rfl hl.1 (Nat.le_of_ble_eq_true rfl) dX5_init_47 ⟨by show 3 + 3 * i + 1 + 2 ≤ 63; omega, by show 6022 + 37 * i + 5 + 32 ≤ 6762; omega⟩ (fun H locs hG hS => ?_)
        refine rg_aast (n := 20) (j := 8) (jv := 11 + 3 * i) (g := fun q => if q < i then some (B + (11 + 3 * q)) else none) C0 hK hG hS (by omega) (by omega) (by
          rw [va_up_ne _ _ (by omega), va_up_ne _ _ (by omega), va_up_ne _ _ (by omega), va_up_ne _ _ (by omega), va_up_ne _ _ (by omega)]
          rfl) (va_up_self _ _ _) (vp_in_nI (by omega) (by decide)) dX5_init_50 (fun H locs hG hS => ?_)
        rw [nI_clamp (by omega)] at hG
        refine lv_iinc (v := nI i + 1) (lv' := [(1, .int (nI i + 1)), (0, .ref (B + 7))]) hx hb dX5_init_51 hl (k := 1) rfl rfl (by decide) rfl (fun ls hl => ?_)
        refine lv_goto (tgt := 29) hx hb dX5_init_54 (by decide) ?_
        rw [nI_1] at hl
        refine W.widen (k := 3 + 3 * (i + 1)) (n := 6022 + 37 * (i + 1)) (by show 3 + 3 * i + 1 + 2 ≤ _; omega) (by show 6022 + 37 * i + 5 + 32 ≤ _; omega) ?_
        exact ih (i + 1) (by omega) _ _ _ (rg_congr (k := 11 + 3 * i + 1 + 2) hG (fun n hn => shC_step n (by omega))) hS (lv_sub hl [1, 0] rfl)
  refine lv_aload_n hx hb dX5_init_0 rfl (lv_at hl 0 rfl) ?_
  refine W.objInit hx hb hown (C0.2.2.2.2 _ (hT _ ml_X5_3)) (C0.2.2.2.2 _ (hT _ mi_obj)) (C0.2.2.2.2 _ (hT _ mc_obj)) rfl (by rw [hml]; exact hl.1) rfl dX5_init_1 (Nat.le_of_ble_eq_true rfl) (Nat.le_of_ble_eq_true rfl) ?_
  refine W.eq (g2 := F0 m 4 ls []) rfl ?_
  refine lv_aload_n hx hb dX5_init_4 rfl (lv_at hl 0 rfl) ?_
  refine lv_bipush (v := 20) hx hb dX5_init_5 (by decide) ?_
  refine rg_newq (N := 20) C0 hT hK hE.2.1 mq_X5_9 hG hS (by decide) (by decide) (by decide) (Nat.le_of_ble_eq_true rfl) (Nat.le_of_ble_eq_true rfl) dX5_init_7 (fun H hG hS => ?_)
  refine rg_put (C := RX5) (T := TX5) (N := 3) (ci := 4) (j := 7) (f := 0) (ty := (.array (.object "ArchiveDesk$Entry"))) true C0 hT hK inX5 tyX5 tyX5_ok nmX5 hG hS (by decide) (by first | rfl | exact he | (simp only [va_up]; first | rfl | exact he)) rfl (by decide) mf_X5_11 rfl (fun _ => hin) rfl (by decide +kernel) rfl rfl (Nat.le_of_ble_eq_true rfl) dX5_init_10 (fun H locs hG hS => ?_)
  refine lv_aload_n hx hb dX5_init_13 rfl (lv_at hl 0 rfl) ?_
  refine rg_new (C := RX4) (T := TX4) (N := 2) (ci := 3) (fs := [.null, .int 0]) C0 hT hK inX4 tyX4 tyX4_ok mq_X5_17 mn_X4 mz_X4 rfl (fun j hj => by rcases (show j = 0 ∨ j = 1 by omega) with rfl | rfl <;> rfl) hG hS (Nat.le_of_ble_eq_true rfl) (Nat.le_of_ble_eq_true rfl) dX5_init_14 (fun H hG hS => ?_)
  refine lv_dup hx hb dX5_init_17 rfl ?_
  refine lv_sipush (v := 6000) hx hb dX5_init_18 (by decide) ?_
  refine rg_callI (j := 9) (kn := 1) (k' := 11) [.int 6000] false C0 hT hE (met_X4_init l dC dI cyI cyE tC B 10 9 _ 6000 6000 (by decide) rfl (by decide) (by decide) (by decide)) hG hS mc_X4_init (fun h => ml_X5_19) (fun h => by cases h) mi_X4_init mz_X4 rfl (by decide +kernel) ⟨Nat.le_of_ble_eq_true rfl, Nat.le_of_ble_eq_true rfl⟩ rfl rfl hl.1 (Nat.le_of_ble_eq_true rfl) dX5_init_21 ⟨Nat.le_of_ble_eq_true rfl, Nat.le_of_ble_eq_true rfl⟩ (fun H locs hG hS => ?_)
  refine rg_put (C := RX5) (T := TX5) (N := 3) (ci := 4) (j := 7) (f := 1) (ty := (.object "ArchiveDesk$Row")) true C0 hT hK inX5 tyX5 tyX5_ok nmX5 hG hS (by decide) (by first | rfl | exact he | (simp only [va_up]; first | rfl | exact he)) rfl (by decide) mf_X5_22 rfl (fun _ => hin) rfl (by decide +kernel) rfl rfl (Nat.le_of_ble_eq_true rfl) dX5_init_24 (fun H locs hG hS => ?_)
  refine lv_iconst (v := 0) hx hb dX5_init_27 (by decide) ?_
  refine lv_istore_n (lv' := [(1, .int 0), (0, .ref (B + 7))]) hx hb dX5_init_28 rfl hl (by decide) rfl (fun ls hl => ?_)
  refine loop 20 0 rfl _ _ _ (rg_congr hG (fun n hn => ?_)) hS (lv_sub hl [1, 0] rfl)
  by_cases h1 : n < 7
  · simp [shC, va_up, show n ≠ 7 by omega, show n ≠ 8 by omega, show n ≠ 9 by omega, show n ≠ 10 by omega, show ¬ 11 ≤ n by omega]
  · rcases (show n = 7 ∨ n = 8 ∨ n = 9 ∨ n = 10 by omega) with rfl | rfl | rfl | rfl <;> rfl
