/-! ===== a region: k cells from the address B on, at the heap's end ===== -/
def rg (dC : Nat → ClassId) (dI : Nat → Nat → Nat) (B k : Nat) (c : Nat → va_E) (H : Heap) : Prop := H.size = B + k ∧ va_P (dC, dI) vwCl (ax_w k (fun i => B + i) c) H
abbrev rA (B : Nat) : Nat → Prop := fun q => B ≤ q
theorem rg_J (B k : Nat) : ax_J k (fun i => B + i) := fun i j _ _ h => by
  have h : B + i = B + j := h
  omega
theorem rg_D {B k : Nat} {c : Nat → va_E} : va_D (rA B) (ax_w k (fun i => B + i) c) := ax_D (rg_J B k) (fun i _ => Nat.le_add_right B i)
theorem ax_push {D : va_G} {cl : List vw_C} {k : Nat} {ad : Nat → Nat} {c : Nat → va_E} {e : va_E} {H H1 : Heap} (hP : va_P D cl (ax_w k ad c) H) (o1 : ∀ q : Nat, q < H.size → H1[q]? = H[q]?) (he : va_at D cl (ad k, e) H1) : va_P D cl (ax_w (k + 1) ad (va_up c k e)) H1 := by
  intro i q hi
  obtain ⟨hk, rfl⟩ := ax_inv hi
  by_cases h : i = k
  · subst h
    rw [va_up_self]
    exact he
  · rw [va_up_ne _ _ h]
    have h0 := hP i _ (ax_get (show i < k by omega))
    exact h0.kept (o1 _ h0.lt)
theorem ax_upd {D : va_G} {cl : List vw_C} {k j : Nat} {ad : Nat → Nat} {c : Nat → va_E} {e : va_E} {H H1 : Heap} (hP : va_P D cl (ax_w k ad c) H) (hJ : ax_J k ad) (hj : j < k) (oq : ∀ q : Nat, q ≠ ad j → H1[q]? = H[q]?) (he : va_at D cl (ad j, e) H1) : va_P D cl (ax_w k ad (va_up c j e)) H1 := by
  intro i q hi
  obtain ⟨hk, rfl⟩ := ax_inv hi
  by_cases h : i = j
  · subst h
    rw [va_up_self]
    exact he
  · rw [va_up_ne _ _ h]
    have h0 := hP i _ (ax_get hk)
    exact h0.kept (oq _ (fun e => h (hJ i j hk hj e)))
abbrev kn_w : List (String × Nat × MethodName × String) := [(RX7, 33, yX3_init, "ArchiveDesk"), (RX3, 20, yX2_init, "ArchiveDesk"), (RX5, 26, yX1_init, "ArchiveDesk")]
def kE (dC : Nat → ClassId) (dI : Nat → Nat → Nat) (cyI cyE : ClassId) (tC : Nat) (A : Nat → Prop) (U : State) (H : Heap) : Prop :=
  ax_env dC dI cyI cyE tC A U H ∧ va_AO RX1 U ∧ ∀ q ∈ kn_w, va_Nw (.methodLinkNest q.1 q.2.1 q.2.2.1 q.2.2.2) U
theorem kE.blind {dC : Nat → ClassId} {dI : Nat → Nat → Nat} {cyI cyE : ClassId} {tC : Nat} {A : Nat → Prop} {U U' : State} {H : Heap} (h : kE dC dI cyI cyE tC A U H) (hvm : U.vm = U'.vm) : kE dC dI cyI cyE tC A U' H :=
  ⟨h.1.blind hvm, h.2.1.moved (by rw [hvm]; exact Vm.Alike.refl _), fun q hq => va_tabs rfl hvm (h.2.2 q hq)⟩
theorem kE.call {dC : Nat → ClassId} {dI : Nat → Nat → Nat} {cyI cyE : ClassId} {tC : Nat} {A : Nat → Prop} {s U : State} {H : Heap} {locs : List Loc} (h : kE dC dI cyI cyE tC A s s.heap) (hW : s.WarmedH U.vm) (hS : va_S A s.heap H locs) : kE dC dI cyI cyE tC A U H :=
  ⟨h.1.call hW hS (fun _ h => h), h.2.1.moved hW.alike, fun q hq => va_Nw.warmM hW (h.2.2 q hq)⟩
/-- a constructor's contract: the region grows from k to k' cells -/
def kx (l : Launch) (dC : Nat → ClassId) (dI : Nat → Nat → Nat) (cyI cyE : ClassId) (tC : Nat) (y : MethodName) (cc : ByteArray) (nL : Nat) (rm : Room) (vs : List Value) (B k : Nat) (c : Nat → va_E) (k' : Nat) (c' : Nat → va_E) : Prop :=
  Met l y (wsY y cc nL none) rm (va_Pc vs (fun U => rg dC dI B k c U.heap ∧ kE dC dI cyI cyE tC (rA B) U U.heap)) (va_Qv (fun _ : Unit => True) (fun _ t => rg dC dI B k' c' t.heap) (rA B)) rm.cells rm.slots (rA B)
theorem kx_blind {dC : Nat → ClassId} {dI : Nat → Nat → Nat} {cyI cyE : ClassId} {tC : Nat} {B k : Nat} {c : Nat → va_E} {vs : List Value} : FrameBlind (va_Pc vs (fun U => rg dC dI B k c U.heap ∧ kE dC dI cyI cyE tC (rA B) U U.heap)) :=
  fun a U g mk q => ⟨q.1, q.2.1, q.2.2.blind (U' := U.calling g mk a) rfl⟩
section RGA
variable {p : Program} {l : Launch} {e : Env} {R : Room} {s : State} {m : MethodId} {args : Array Value} {below : List Frame} {meth : Method} {c0 : Code} {H : Heap} {locs : List Loc} {cells slots : Nat} {Q : State → Prop}
variable {dC : Nat → ClassId} {dI : Nat → Nat → Nat} {cyI cyE : ClassId} {tC : Nat} {B k : Nat} {c : Nat → va_E}
variable {cc : ByteArray} {nL pc : Nat} {ls : Array Slot} {Ts : List Cond} {own : String} {rest : List Value} {A : Nat → Prop}
theorem rg_grow {H1 : Heap} {h : Nat} (hS : va_S A s.heap H locs) (hh : H.size = h) (z1 : H1.size = h + 1) (o1 : ∀ q : Nat, q < h → H1[q]? = H[q]?) : va_S A s.heap H1 locs := by
  subst hh
  exact ⟨Nat.le_trans hS.1 (by omega), fun x h1 h2 => (o1 x (Nat.lt_of_lt_of_le h1 hS.1)).trans (hS.2.1 x h1 h2), hS.2.2⟩
theorem rg_new {C : String} {T : u_T} {N ci idx : Nat} {fs : List Value} (C0 : CallFix p m c0 cc nL s args Ts own) (hT : ∀ w ∈ bw, w ∈ Ts) (hK : va_K (dC, dI) vwCl (ax_tys cyI cyE) s) (hin : ∀ w ∈ u_ws C T N, w ∈ bw) (ty : Nat → FieldType) (hty : ∀ k, k < N → parseFieldDescriptor (T k).2.2.1 = some (ty k)) (hcl : Cond.classLink own idx C ∈ bw) (hinst : Cond.instantiable C N ∈ bw) (hini : Cond.initialized C ∈ bw) (hc : vwCl[ci]? = some (C, T, N)) (hfs : ∀ j, j < N → defaultValue (ty j) = vp_V fs j)
    (hG : rg dC dI B k c H) (hS : va_S A s.heap H locs) (hcells : cells + 1 ≤ R.cells) (hslots : slots + N ≤ R.slots) (hdg : decode cc pc = .ok (.new idx, 3))
    (kk : ∀ H1 : Heap, rg dC dI B (k + 1) (va_up c k (.inr (ci, fs))) H1 → va_S A s.heap H1 locs → W p l e R s m args below meth c0 H1 locs (cells + 1) (slots + N) Q (F0 m (pc + 3) ls (.ref (B + k) :: rest))) : W p l e R s m args below meth c0 H locs cells slots Q (F0 m pc ls rest) := by
  have hKn := hK.1 ci _ hc
  refine W.newcK C0.1 C0.2.1 C0.2.2.2.1 (C0.2.2.2.2 _ (hT _ hcl)) (C0.2.2.2.2 _ (hT _ hinst)) (C0.2.2.2.2 _ (hT _ hini)) rfl hdg hcells hslots hKn.2.1 hG.1 fun H1 kC hkC e1 z1 o1 => ?_
  refine kk H1 ⟨by rw [z1]; omega, ax_push hG.2 (fun q hq => o1 q (by rw [← hG.1]; exact hq)) ?_⟩ (rg_grow hS hG.1 z1 o1)
  exact ⟨_, hc, (u_born ty C0.2.2.2.2 (fun w h => hT w (hin w h)) hKn hkC e1 hty).to hfs⟩
theorem rg_newa {n : Int32} {N : Nat} (C0 : CallFix p m c0 cc nL s args Ts own) (hT : ∀ w ∈ bw, w ∈ Ts) (hK : va_K (dC, dI) vwCl (ax_tys cyI cyE) s) (harr : Cond.arrayClass .int ∈ bw)
    (hG : rg dC dI B k c H) (hS : va_S A s.heap H locs) (hn : ¬ n < 0) (hN : n.toNatClampNeg = N) (hb4 : N * 4 ≤ 536870912) (hcells : cells + 1 ≤ R.cells) (hslots : slots + N ≤ R.slots) (hdg : decode cc pc = .ok (.newarray .int, 2))
    (kk : ∀ H1 : Heap, rg dC dI B (k + 1) (va_up c k (.inl (cyI, N, .inl (fun _ => 0)))) H1 → va_S A s.heap H1 locs → W p l e R s m args below meth c0 H1 locs (cells + 1) (slots + N) Q (F0 m (pc + 2) ls (.ref (B + k) :: rest))) : W p l e R s m args below meth c0 H locs cells slots Q (F0 m pc ls (.int n :: rest)) := by
  refine va_newaK (atype := .int) C0.1 C0.2.1 (C0.2.2.2.2 _ (hT _ harr)) rfl hdg rfl hn hN hb4 hcells hslots hG.1 fun H1 cA e1 z1 o1 hAr hNm => ?_
  have hcy : cA = cyI := Option.some.inj (hNm.symm.trans (hK.2 0 (cyI, .int) rfl).2)
  subst hcy
  refine kk H1 ⟨by rw [z1]; omega, ax_push hG.2 (fun q hq => o1 q (by rw [← hG.1]; exact hq)) ?_⟩ (rg_grow hS hG.1 z1 o1)
  show H1[B + k]? = some (vp_cell _ _)
  rw [vp_cell_i]
  exact e1
theorem rg_newq {n : Int32} {N idx : Nat} (C0 : CallFix p m c0 cc nL s args Ts own) (hT : ∀ w ∈ bw, w ∈ Ts) (hK : va_K (dC, dI) vwCl (ax_tys cyI cyE) s) (hover : va_AO RX1 s) (hcl : Cond.classLink own idx RX1 ∈ bw)
    (hG : rg dC dI B k c H) (hS : va_S A s.heap H locs) (hn : ¬ n < 0) (hN : n.toNatClampNeg = N) (hb4 : N * 4 ≤ 536870912) (hcells : cells + 1 ≤ R.cells) (hslots : slots + N ≤ R.slots) (hdg : decode cc pc = .ok (.anewarray idx, 3))
    (kk : ∀ H1 : Heap, rg dC dI B (k + 1) (va_up c k (.inl (cyE, N, .inr (.inr (.inr (.inr (fun _ => none))))))) H1 → va_S A s.heap H1 locs → W p l e R s m args below meth c0 H1 locs (cells + 1) (slots + N) Q (F0 m (pc + 3) ls (.ref (B + k) :: rest))) : W p l e R s m args below meth c0 H locs cells slots Q (F0 m pc ls (.int n :: rest)) := by
  subst hN
  refine W.anew C0.1 C0.2.1 C0.2.2.2.1 (C0.2.2.2.2 _ (hT _ hcl)) (va_AO.use hover) rfl hdg rfl hn hb4 hcells hslots fun cA kA comp f1 f2 f3 f4 => ?_
  have hcy : cA = cyE := by
    obtain ⟨_, _, _, _, _, h4⟩ := (hK.2 1 (cyE, .object RX1) rfl).2
    exact Option.some.inj (f1.symm.trans h4)
  subst hcy
  generalize hH1 : H.push ({ cls := cA, slots := Array.replicate n.toNatClampNeg .null, vm := .none } : Cell) = H1
  have z1 : H1.size = H.size + 1 := by rw [← hH1, Array.size_push]
  have e1 : H1[H.size]? = some (arrV cA n.toNatClampNeg (fun _ => .null)) := by rw [← hH1, Array.getElem?_push_size, ← arrV_new]
  have o1 : ∀ q : Nat, q < H.size → H1[q]? = H[q]? := fun q hq => by rw [← hH1, Array.getElem?_push, if_neg (Nat.ne_of_lt hq)]
  rw [hG.1]
  refine kk H1 ⟨by rw [z1, hG.1]; omega, ax_push hG.2 o1 ?_⟩ (rg_grow hS rfl z1 o1)
  show H1[B + k]? = some (vp_cell _ _)
  rw [vp_cell_q, ← hG.1]
  exact e1
theorem rg_put {C : String} {T : u_T} {N ci idx j f : Nat} {fs : List Value} {v : Value} {ty : FieldType} (fin : Bool) (C0 : CallFix p m c0 cc nL s args Ts own) (hT : ∀ w ∈ bw, w ∈ Ts) (hK : va_K (dC, dI) vwCl (ax_tys cyI cyE) s) (hin : ∀ w ∈ u_ws C T N, w ∈ bw) (ty0 : Nat → FieldType) (hty : ∀ k, k < N → parseFieldDescriptor (T k).2.2.1 = some (ty0 k)) (hnm : ∀ a, a < N → ∀ b, b < N → a ≠ b → (T a).2.1 ≠ (T b).2.1)
    (hG : rg dC dI B k c H) (hS : va_S (rA B) s.heap H locs) (hj : j < k) (he : c j = .inr (ci, fs)) (hc : vwCl[ci]? = some (C, T, N)) (hf : f < N) (hl : Cond.fieldLink own idx (T f).1 (T f).2.1 (T f).2.2.1 ∈ bw) (hfin : (T f).2.2.2 = fin) (hin2 : fin = true → meth.name = "<init>") (hdecl : (T f).1 = own) (hd : parseFieldDescriptor (T f).2.2.1 = some ty) (hn : narrow ty v = v) (hfit : fits ty v = true) (hlen : f < fs.length)
    (hdg : decode cc pc = .ok (.putfield idx, 3))
    (kk : ∀ (H1 : Heap) (locs1 : List Loc), rg dC dI B k (va_up c j (.inr (ci, fs.set f v))) H1 → va_S (rA B) s.heap H1 locs1 → W p l e R s m args below meth c0 H1 locs1 cells slots Q (F0 m (pc + 3) ls rest)) : W p l e R s m args below meth c0 H locs cells slots Q (F0 m pc ls (v :: .ref (B + j) :: rest)) := by
  have hts : ∀ w ∈ Ts, w.before args s = true := C0.2.2.2.2
  have hin' : ∀ w ∈ u_ws C T N, w ∈ Ts := fun w h => hT w (hin w h)
  have hap := va_apart (own := own) hts hin' ty0 hty hnm hK hc
  have hat := hG.2 j _ (ax_at (ad := fun i => B + i) hj he)
  obtain ⟨r, h1, cell, q1, q2, q3, q4⟩ := hat
  have hr : r = (C, T, N) := Option.some.inj (h1.symm.trans hc)
  subst hr
  obtain ⟨hS9, hfc, kC, hkC, hkind⟩ := hK.1 ci _ hc
  obtain ⟨cf, kf, fi, fd, hi, hsl⟩ := hS9 f hf
  have hst := (u_facts hfc hkC (u_lays hts hin' hf) hi).1
  have hlay := hts _ (hin' _ (u_in_lay hf))
  unfold u_lay at hlay
  cases fin with
  | false =>
    rw [if_neg (by rw [hfin]; decide)] at hlay
    have h6 := u_store hfc hkC hkind hlay hi hd hn hfit
    refine W.putK C0.1 C0.2.1 (f := fd) ⟨C0.2.2.2.1, hts _ (hT _ hl), ⟨_, _, _, hi⟩, hst⟩ (by rw [q2]; exact h6) q1 q3 (by rw [hsl]; exact k2_hasslot (q4 f hf)) rfl rfl hdg fun H' e1 e2 e3 => ?_
    rw [hsl] at e1 ⊢
    exact kk H' _ ⟨e2.trans hG.1, ax_upd hG.2 (rg_J B k) hj e3 ⟨_, hc, t_OB.to (V := updV (vp_V fs) f v) ⟨_, e1, q2, q3, t_set q4 hap hf v⟩ (fun j _ => vp_updV_set hlen v j)⟩⟩ (hS.put e2 e3 (Nat.le_add_right B j))
  | true =>
    rw [if_pos hfin] at hlay
    have hcf : m.cls = cf := by
      obtain ⟨_, _, c', _, _, _, -, -, hf', -, -, -, hown2, -⟩ := Cond.laysFinal_spec hlay
      have e1 : c' = cf := by have := hi.symm.trans hf'; simp at this; exact this.1.symm
      rw [hdecl] at hown2
      rw [← e1]; exact Option.some.inj (C0.2.2.2.1.symm.trans hown2)
    have h6 := u_fits hfc hkC hkind (Or.inr hlay) hi hd hn hfit
    refine W.putFinK C0.1 C0.2.1 C0.2.2.2.1 (hts _ (hT _ hl)) hi hst hcf (hin2 rfl) (by rw [q2]; exact h6) q1 q3 (by rw [hsl]; exact k2_hasslot (q4 f hf)) rfl rfl hdg fun H' e1 e2 e3 => ?_
    rw [hsl] at e1 ⊢
    exact kk H' _ ⟨e2.trans hG.1, ax_upd hG.2 (rg_J B k) hj e3 ⟨_, hc, t_OB.to (V := updV (vp_V fs) f v) ⟨_, e1, q2, q3, t_set q4 hap hf v⟩ (fun j _ => vp_updV_set hlen v j)⟩⟩ (hS.put e2 e3 (Nat.le_add_right B j))
theorem rg_get {C : String} {T : u_T} {N ci idx j f : Nat} {fs : List Value} {v : Value} (C0 : CallFix p m c0 cc nL s args Ts own) (hT : ∀ w ∈ bw, w ∈ Ts) (hK : va_K (dC, dI) vwCl (ax_tys cyI cyE) s) (hin : ∀ w ∈ u_ws C T N, w ∈ bw)
    (hG : rg dC dI B k c H) (hj : j < k) (he : c j = .inr (ci, fs)) (hc : vwCl[ci]? = some (C, T, N)) (hf : f < N) (hl : Cond.fieldLink own idx (T f).1 (T f).2.1 (T f).2.2.1 ∈ bw) (hv : fs[f]? = some v) (hdg : decode cc pc = .ok (.getfield idx, 3))
    (kk : W p l e R s m args below meth c0 H locs cells slots Q (F0 m (pc + 3) ls (v :: rest))) : W p l e R s m args below meth c0 H locs cells slots Q (F0 m pc ls (.ref (B + j) :: rest)) :=
  va_get (D := (dC, dI)) (ci := ci) (C := C) (T := T) (N := N) C0.1 C0.2.1 C0.2.2.2.2 (fun w h9 => hT w (hin w h9)) C0.2.2.2.1 hK hG.2 j (ax_at (ad := fun i => B + i) hj he) hc f hf (C0.2.2.2.2 _ (hT _ hl)) (fun _ h9 => h9) hv hdg kk
theorem rg_aast {n j jv : Nat} {vs : List Value} {g : Nat → Option Nat} {i : Int32} (C0 : CallFix p m c0 cc nL s args Ts own) (hK : va_K (dC, dI) vwCl (ax_tys cyI cyE) s) (hG : rg dC dI B k c H) (hS : va_S (rA B) s.heap H locs) (hj : j < k) (hjv : jv < k) (he : c j = .inl (cyE, n, .inr (.inr (.inr (.inr g))))) (hev : c jv = .inr (0, vs)) (hin : vp_in i n) (hdg : decode cc pc = .ok (.aastore, 1))
    (kk : ∀ (H1 : Heap) (locs1 : List Loc), rg dC dI B k (va_up c j (.inl (cyE, n, .inr (.inr (.inr (.inr (va_up g i.toNatClampNeg (some (B + jv)))))))) ) H1 → va_S (rA B) s.heap H1 locs1 → W p l e R s m args below meth c0 H1 locs1 cells slots Q (F0 m (pc + 1) ls rest)) : W p l e R s m args below meth c0 H locs cells slots Q (F0 m pc ls (.ref (B + jv) :: .int i :: .ref (B + j) :: rest)) := by
  have hlt : i.toNatClampNeg < n := Nat.not_le.mp fun q => hin (Or.inr q)
  have h0 : ¬ i < 0 := fun q => hin (Or.inl q)
  obtain ⟨r', hr', cellV, g1, g2, g3, -⟩ := hG.2 jv _ (ax_at (ad := fun i => B + i) hjv hev)
  have hcls := (hK.1 0 (RX1, TX1, 5) rfl).2
  obtain ⟨kA, comp, k1, k2, k3, -⟩ := (hK.2 1 (cyE, .object RX1) rfl).2
  have hcomp : comp = dC 0 := Option.some.inj (k3.symm.trans hcls.1)
  subst hcomp
  obtain ⟨kC, hkC, -⟩ := hcls.2
  refine W.aast C0.1 C0.2.1 (hG.2 j _ (ax_at (ad := fun i => B + i) hj he)) (fun q h => by cases h) (fun h => by cases h) k1 k2 rfl hkC ⟨h0, by show _ < (arrV _ _ _).slots.size; rw [arrV_size]; exact hlt⟩ g1 (fun q h => by rw [g3] at h; cases h) (by rw [g2]; exact hkC) (by rw [g2]; exact va_assign hcls) rfl rfl hdg fun H1 e z oq => ?_
  refine kk H1 _ ⟨z.trans hG.1, ax_upd hG.2 (rg_J B k) hj oq ?_⟩ (hS.put z oq (Nat.le_add_right B j))
  show H1[B + j]? = some (vp_cell _ _)
  rw [e]
  rw [vp_cell_q, vp_cell_q, arrV_store]
  congr 2
  funext q
  by_cases hq : q = i.toNatClampNeg
  · subst hq
    simp [updV, va_up, va_rf]
  · simp [updV, va_up, hq]
theorem rg_callI {y : MethodName} {cy : ByteArray} {nl : Nat} {rm : Room} {j kn idx k' : Nat} {c' : Nat → va_E} {st0 : List Value} (As : List Value) (nest : Bool)
    (C0 : CallFix p m c0 cc nL s args Ts own) (hT : ∀ w ∈ bw, w ∈ Ts) (hE : kE dC dI cyI cyE tC (rA B) s s.heap)
    (hM : kx l dC dI cyI cyE tC y cy nl rm (.ref (B + j) :: As) B k c k' c') (hG : rg dC dI B k c H) (hS : va_S (rA B) s.heap H locs)
    (hcode : Cond.code y cy nl none ∈ bw) (hlink : nest = false → Cond.methodLink own idx y ∈ bw) (hnl : nest = true → (own, idx, y, "ArchiveDesk") ∈ kn_w) (hinst : Cond.instanceMethod y ∈ bw) (hini : Cond.initialized y.cls ∈ bw) (hy1 : y.name = "<init>")
    (hd : y.cls ≠ "java/lang/invoke/MethodHandle" ∧ y.cls ≠ "java/lang/invoke/VarHandle" ∧ (parseMethodDescriptor y.desc).map (fun d => d.parameters.length) = some kn)
    (hR : rm.frames + 1 ≤ R.frames ∧ 8 + (nl + 11) + rm.locals ≤ R.locals)
    (hst : st0 = As.reverse ++ .ref (B + j) :: rest) (hlen : As.length = kn) (hsz : ls.size = nL) (hcat : (rest.map fun v => v.category).sum ≤ 8)
    (hdg : decode cc pc = .ok (.invokespecial idx, 3)) (hcs : cells + rm.cells ≤ R.cells ∧ slots + rm.slots ≤ R.slots)
    (kk : ∀ (H1 : Heap) (locs1 : List Loc), rg dC dI B k' c' H1 → va_S (rA B) s.heap H1 locs1 → W p l e R s m args below meth c0 H1 locs1 (cells + rm.cells) (slots + rm.slots) Q (F0 m (pc + 3) ls rest)) : W p l e R s m args below meth c0 H locs cells slots Q (F0 m pc ls st0) := by
  have hp : PreS s H (va_Pc (.ref (B + j) :: As) (fun U => rg dC dI B k c U.heap ∧ kE dC dI cyI cyE tC (rA B) U U.heap)) (.ref (B + j) :: As) := ⟨kx_blind, fun U hU hW => ⟨rfl, by rw [hU]; exact hG, by rw [hU]; exact hE.call hW hS⟩⟩
  cases nest with
  | false =>
    refine va_callv (va_runI (As := As) (rest := rest) C0 hM (cwI kn C0.2.2.2.2 (bw_all hT hcode) rfl rfl rfl (C0.2.2.2.2 _ (hT _ hini)) (C0.2.2.2.2 _ (hT _ (hlink rfl))) (C0.2.2.2.2 _ (hT _ hinst)) hy1 hd hR) hp rfl hlen hsz hst (by simpa using hcat) hdg hcs) hS (fun q _ h => h) (fun q h => h) (fun u t H1 locs1 ht hvm hw hB hz hk hS1 => ?_)
    exact kk H1 locs1 (by rw [← ht]; exact hB) hS1
  | true =>
    refine va_callv (va_runIN (As := As) (rest := rest) C0 hM ⟨va_cnB kn C0.2.2.2.2 (bw_all hT hcode) rfl rfl rfl (hE.2.2 _ (hnl rfl)) (C0.2.2.2.2 _ (hT _ hini)) hd hR, hy1, C0.2.2.2.2 _ (hT _ hinst)⟩ hp rfl hlen hsz hst (by simpa using hcat) hdg hcs) hS (fun q _ h => h) (fun q h => h) (fun u t H1 locs1 ht hvm hw hB hz hk hS1 => ?_)
    exact kk H1 locs1 (by rw [← ht]; exact hB) hS1
theorem rg_vret {mc ms k' : Nat} {c' : Nat → va_E} (hx : p.tables.exec = Jvm.exec) (hb : c0.code = cc) (hr : meth.sig.returnType = none) (hlocks : meth.locks = false) (hG : rg dC dI B k c H) (hS : va_S (rA B) s.heap H locs) (hdg : decode cc pc = .ok (.return_, 1)) (hk : k = k') (hc : c = c') :
    W p l e R s m args below meth c0 H locs mc ms (MQ below (va_Qv (fun _ : Unit => True) (fun _ t => rg dC dI B k' c' t.heap) (rA B)) args s mc ms (rA B)) (F0 m pc ls []) := by
  subst hk hc
  exact W.vret hx hb hr (fun t ht hW => ⟨⟨(), rfl, trivial, by show rg _ _ _ _ _ t.heap; rw [ht]; exact hG⟩, hS.F ht⟩) hS.2.2 hdg hlocks
end RGA
