/-! Rows that make cells, constructors, null. -/
theorem arr_same {cA : Nat → ClassId} {D : va_G} {s : State} (hK : va_K D vwCl (TY cA) s) {c : ClassId} {ty : FieldType} (hK2 : va_K D vwCl (TY cA ++ [(c, ty)]) s) (t : Nat) (ht : (TY cA)[t]? = some (cA t, ty)) : c = cA t := by
  have h1 := (hK.2 t _ ht).2
  have h2 := (hK2.2 4 (c, ty) rfl).2
  cases ty with
  | object C =>
    obtain ⟨k1, c1, a1, a2, a3, a4⟩ := h1
    obtain ⟨k2, c2, b1, b2, b3, b4⟩ := h2
    exact Option.some.inj (b4.symm.trans a4)
  | _ => exact Option.some.inj (h2.symm.trans h1)
section GN
variable {X : XT} {cc : ByteArray} {own : String} {ret : Option FieldType} {cA : Nat → ClassId} {fr lo nL k n : Nat} {ws : va_W} {lv : List (Nat × Value)} {st : List Value}
theorem g_newI (C : Cx X cc own ret cA fr lo nL) (pc : Nat) {m : Int32} (N : Nat) (k' n' : Nat) (wsF : Nat → va_W) (d : decode cc pc = .ok (.newarray .int, 2)) (hw : Cond.arrayClass .int ∈ G) (hm : ¬ m < 0) (hN : m.toNatClampNeg = N) (hb : N * 4 ≤ 536870912) (hk : k' ≤ (x_R X).cells) (hn : n' ≤ (x_R X).slots) (hk' : k + 1 = k') (hn' : n + N = n') (hws : ∀ q, ws ++ [aI cA q N (fun _ => 0)] = wsF q) (K : ∀ q : Nat, Go X nL k' n' (pc + 2) (wsF q) lv (.ref q :: st)) : Go X nL k n pc ws lv (.int m :: st) := by
  intro H locs ls hP hD hS hl
  subst hk'; subst hn'
  refine va_newa (atype := .int) (ty := .int) (a0 := (N, .inl (fun _ => 0))) C.ex C.by (C.ts _ hw) rfl C.K hP hD hS C.hA (fun _ => rfl) hm hN hb hk hn d ?_
  intro q c H1 hK2 hP1 hD1 hS1
  have hc := arr_same C.K hK2 0 rfl
  subst hc
  exact K q H1 locs ls (hws q ▸ hP1) (hws q ▸ hD1) hS1 hl
theorem g_newJ (C : Cx X cc own ret cA fr lo nL) (pc : Nat) {m : Int32} (N : Nat) (k' n' : Nat) (wsF : Nat → va_W) (d : decode cc pc = .ok (.newarray .long, 2)) (hw : Cond.arrayClass .long ∈ G) (hm : ¬ m < 0) (hN : m.toNatClampNeg = N) (hb : N * 8 ≤ 536870912) (hk : k' ≤ (x_R X).cells) (hn : n' ≤ (x_R X).slots) (hk' : k + 1 = k') (hn' : n + N = n') (hws : ∀ q, ws ++ [aJ cA q N (fun _ => 0)] = wsF q) (K : ∀ q : Nat, Go X nL k' n' (pc + 2) (wsF q) lv (.ref q :: st)) : Go X nL k n pc ws lv (.int m :: st) := by
  intro H locs ls hP hD hS hl
  subst hk'; subst hn'
  refine va_newa (atype := .long) (ty := .long) (a0 := (N, .inr (.inl (fun _ => 0)))) C.ex C.by (C.ts _ hw) rfl C.K hP hD hS C.hA (fun _ => rfl) hm hN hb hk hn d ?_
  intro q c H1 hK2 hP1 hD1 hS1
  have hc := arr_same C.K hK2 1 rfl
  subst hc
  exact K q H1 locs ls (hws q ▸ hP1) (hws q ▸ hD1) hS1 hl
theorem g_newZ (C : Cx X cc own ret cA fr lo nL) (pc : Nat) {m : Int32} (N : Nat) (k' n' : Nat) (wsF : Nat → va_W) (d : decode cc pc = .ok (.newarray .boolean, 2)) (hw : Cond.arrayClass .boolean ∈ G) (hm : ¬ m < 0) (hN : m.toNatClampNeg = N) (hb : N * 1 ≤ 536870912) (hk : k' ≤ (x_R X).cells) (hn : n' ≤ (x_R X).slots) (hk' : k + 1 = k') (hn' : n + N = n') (hws : ∀ q, ws ++ [aZ cA q N (fun _ => 0)] = wsF q) (K : ∀ q : Nat, Go X nL k' n' (pc + 2) (wsF q) lv (.ref q :: st)) : Go X nL k n pc ws lv (.int m :: st) := by
  intro H locs ls hP hD hS hl
  subst hk'; subst hn'
  refine va_newa (atype := .boolean) (ty := .boolean) (a0 := (N, .inl (fun _ => 0))) C.ex C.by (C.ts _ hw) rfl C.K hP hD hS C.hA (fun _ => rfl) hm hN hb hk hn d ?_
  intro q c H1 hK2 hP1 hD1 hS1
  have hc := arr_same C.K hK2 2 rfl
  subst hc
  exact K q H1 locs ls (hws q ▸ hP1) (hws q ▸ hD1) hS1 hl
theorem g_newG (C : Cx X cc own ret cA fr lo nL) (pc : Nat) {m : Int32} {i : Nat} (N : Nat) (k' n' : Nat) (wsF : Nat → va_W) (d : decode cc pc = .ok (.anewarray i, 3)) (hw : Cond.classLink own i RX1 ∈ G) (hm : ¬ m < 0) (hN : m.toNatClampNeg = N) (hb : N * 4 ≤ 536870912) (hk : k' ≤ (x_R X).cells) (hn : n' ≤ (x_R X).slots) (hk' : k + 1 = k') (hn' : n + N = n') (hws : ∀ q, ws ++ [aG cA q N (fun _ => none)] = wsF q) (K : ∀ q : Nat, Go X nL k' n' (pc + 3) (wsF q) lv (.ref q :: st)) : Go X nL k n pc ws lv (.int m :: st) := by
  intro H locs ls hP hD hS hl
  subst hk'; subst hn'
  refine va_newq C.ex C.by C.ow (C.ts _ hw) C.nw.2 C.K hP hD hS C.hA hm hN hb hk hn d ?_
  intro q c H1 hK2 hP1 hD1 hS1
  have hc := arr_same C.K hK2 3 rfl
  subst hc
  exact K q H1 locs ls (hws q ▸ hP1) (hws q ▸ hD1) hS1 hl
theorem g_new (C : Cx X cc own ret cA fr lo nL) (pc : Nat) {i ci N : Nat} {Cn : String} {T : u_T} (ty : Nat → FieldType) (fs : List Value) (k' n' : Nat) (wsF : Nat → va_W) (d : decode cc pc = .ok (.new i, 3)) (hin : ∀ w ∈ u_ws Cn T N, w ∈ G) (hty : ∀ k, k < N → parseFieldDescriptor (T k).2.2.1 = some (ty k)) (h1 : Cond.classLink own i Cn ∈ G) (h2 : Cond.instantiable Cn N ∈ G) (h3 : Cond.initialized Cn ∈ G) (hc : vwCl[ci]? = some (Cn, T, N)) (hfs : ∀ j, j < N → defaultValue (ty j) = vp_V fs j) (hk : k' ≤ (x_R X).cells) (hn : n' ≤ (x_R X).slots) (hk' : k + 1 = k') (hn' : n + N = n') (hws : ∀ q, ws ++ [oB q ci fs] = wsF q) (K : ∀ q : Nat, Go X nL k' n' (pc + 3) (wsF q) lv (.ref q :: st)) : Go X nL k n pc ws lv st := by
  intro H locs ls hP hD hS hl
  subst hk'; subst hn'
  refine va_new (fs := fs) C.ex C.by C.ts hin ty hty C.ow (C.ts _ h1) (C.ts _ h2) (C.ts _ h3) C.K hP hD hS C.hA hc hfs hk hn d ?_
  intro q H1 hP1 hD1 hS1
  exact K q H1 locs ls (hws q ▸ hP1) (hws q ▸ hD1) hS1 hl
theorem g_putF (C : Cx X cc own ret cA fr lo nL) (pc q j : Nat) {a ci i N : Nat} {Cn : String} {T : u_T} {fs : List Value} {v : Value} {ws' : va_W} (ty0 : Nat → FieldType) (d : decode cc pc = .ok (.putfield i, 3)) (hin : ∀ w ∈ u_ws Cn T N, w ∈ G) (hty : ∀ k, k < N → parseFieldDescriptor (T k).2.2.1 = some (ty0 k)) (hnm : ∀ a, a < N → ∀ b, b < N → a ≠ b → (T a).2.1 ≠ (T b).2.1) (ha : ws[q]? = some (oB a ci fs)) (hc : vwCl[ci]? = some (Cn, T, N)) (hj : j < N) (hw : Cond.fieldLink own i (T j).1 (T j).2.1 (T j).2.2.1 ∈ G) (hfin : (T j).2.2.2 = true) (hme : (x_me X).name = "<init>") (hdecl : (T j).1 = own) (hnar : narrow (ty0 j) v = v) (hfit : fits (ty0 j) v = true) (hl : j < fs.length) (hws : ws.set q (oB a ci (fs.set j v)) = ws') (K : Go X nL k n (pc + 3) ws' lv st) : Go X nL k n pc ws lv (v :: .ref a :: st) := fun H locs ls hP hD hS hl' => va_putF C.ex C.by C.ts hin ty0 hty hnm C.ow C.K hP hD hS q ha hc j hj (C.ts _ hw) (fun _ h => h) hfin hme hdecl (hty j hj) hnar hfit hl d (fun H1 l1 hP hD hS => K H1 l1 ls (hws ▸ hP) (hws ▸ hD) hS hl')
theorem g_putV (C : Cx X cc own ret cA fr lo nL) (pc q j : Nat) {a ci i N : Nat} {Cn : String} {T : u_T} {fs : List Value} {v : Value} {ws' : va_W} (ty0 : Nat → FieldType) (d : decode cc pc = .ok (.putfield i, 3)) (hin : ∀ w ∈ u_ws Cn T N, w ∈ G) (hty : ∀ k, k < N → parseFieldDescriptor (T k).2.2.1 = some (ty0 k)) (hnm : ∀ a, a < N → ∀ b, b < N → a ≠ b → (T a).2.1 ≠ (T b).2.1) (ha : ws[q]? = some (oB a ci fs)) (hc : vwCl[ci]? = some (Cn, T, N)) (hj : j < N) (hw : Cond.fieldLink own i (T j).1 (T j).2.1 (T j).2.2.1 ∈ G) (hfin : (T j).2.2.2 = false) (hnar : narrow (ty0 j) v = v) (hfit : fits (ty0 j) v = true) (hl : j < fs.length) (hws : ws.set q (oB a ci (fs.set j v)) = ws') (K : Go X nL k n (pc + 3) ws' lv st) : Go X nL k n pc ws lv (v :: .ref a :: st) := fun H locs ls hP hD hS hl' => va_put C.ex C.by C.ts hin ty0 hty hnm C.ow C.K hP hD hS q ha hc j hj (C.ts _ hw) (fun _ h => h) hfin (hty j hj) hnar hfit hl d (fun H1 l1 hP hD hS => K H1 l1 ls (hws ▸ hP) (hws ▸ hD) hS hl')
theorem g_obj (C : Cx X cc own ret cA fr lo nL) (pc : Nat) {i a : Nat} (d : decode cc pc = .ok (.invokespecial i, 3)) (h1 : Cond.methodLink own i objectInit ∈ G) (h2 : Cond.instanceMethod objectInit ∈ G) (h3 : Cond.code objectInit ⟨#[0xb1]⟩ 1 none ∈ G) (hfr : 1 ≤ fr) (hlo : (st.map fun v => v.category).sum + 12 ≤ lo) (K : Go X nL k n (pc + 3) ws lv st) : Go X nL k n pc ws lv (.ref a :: st) := fun H locs ls hP hD hS hl => W.objInit C.ex C.by C.ow (C.ts _ h1) (C.ts _ h2) (C.ts _ h3) rfl (hl.1.trans C.ml.symm) rfl d (Nat.le_trans hfr C.rm.1) (by
    have h := Nat.le_trans hlo C.rm.2
    show 2 * 0 + _ + 12 ≤ _
    omega) (K H locs ls hP hD hS hl)
theorem g_nonnull (C : Cx X cc own ret cA fr lo nL) (pc : Nat) {o : Int} {a : Nat} (t : Nat) (d : decode cc pc = .ok (.ifnonnull o, 3)) (ht : (pc : Int) + o = (t : Int)) (K : Go X nL k n t ws lv st) : Go X nL k n pc ws lv (.ref a :: st) := fun H locs ls hP hD hS hl => lv_ifnonnull C.ex C.by d ht (K H locs ls hP hD hS hl)
theorem g_nonnullN (C : Cx X cc own ret cA fr lo nL) (pc : Nat) {o : Int} (d : decode cc pc = .ok (.ifnonnull o, 3)) (K : Go X nL k n (pc + 3) ws lv st) : Go X nL k n pc ws lv (.null :: st) := fun H locs ls hP hD hS hl => lv_ifnonnullN C.ex C.by d (K H locs ls hP hD hS hl)
variable {rest : List Value}
/-- a constructor, of a nest mate (private) -/
theorem g_callIN (C : Cx X cc own ret cA fr lo nL) (pc : Nat) {y : MethodName} {cc' : ByteArray} {nL' : Nat} {rm : Room} {b : Nat} {As : List Value} {wc : va_W} {B : Option Value → va_W → Prop} {i : Nat} {host : String} (isC : List Nat) (k' n' : Nat) (d : decode cc pc = .ok (.invokespecial i, 3)) (hM : MT (x_l X) cA y cc' nL' none rm (.ref b :: As) wc B)
    (h1 : (own, i, y, host) ∈ nwT) (h2 : Cond.instanceMethod y ∈ G) (h4 : Cond.initialized y.cls ∈ G) (h5 : Cond.code y cc' nL' none ∈ G) (hy : y.name = "<init>") (hd : okY y As.length) (hR : rm.frames + 1 ≤ fr ∧ 8 + (nL' + 11) + rm.locals ≤ lo) (hk : k' ≤ (x_R X).cells) (hn : n' ≤ (x_R X).slots) (hk' : k + rm.cells = k') (hn' : n + rm.slots = n')
    (hC : isC.map (fun i => ws[i]?) = wc.map some) (hnd : va_nd isC = true) (hst : st = As.reverse ++ .ref b :: rest) (hsum : (rest.map fun v => v.category).sum ≤ 8)
    (K : ∀ (res : Option Value) (w1 : va_W), B res w1 → isC.length ≤ w1.length ∧ Go X nL k' n' (pc + 3) (putAt ws isC w1) lv (res.toList ++ rest)) : Go X nL k n pc ws lv st := by
  intro H locs ls hP hD hS hl
  subst hk'; subst hn'
  have hFc := va_free (wc := wc) hD hS C.hA isC hC
  have hPc := hP.sub (ws' := wc) isC (by
    have := congrArg (List.filterMap id) hC
    simpa [List.filterMap_map] using this)
  have hDc := hD.sub (ws' := wc) isC hnd hC
  have hG : GoodIn G (.code y cc' nL' none :: G) := gi_G (fun w hw => by
    rcases List.mem_cons.mp hw with rfl | hw
    · exact h5
    · exact hw)
  refine kcall (va_runIN (As := As) (rest := rest) (host := host) ⟨C.ex, C.by, C.ml, C.ow, C.ts⟩ (hM H.size (x_D X)) ⟨va_cnB As.length C.ts hG rfl rfl rfl (C.nw.1 _ h1) (C.ts _ h4) hd ⟨Nat.le_trans hR.1 C.rm.1, Nat.le_trans hR.2 C.rm.2⟩, hy, C.ts _ h2⟩ ⟨Px_blind, fun U hU hW => ⟨rfl, by rw [hU], by rw [hU]; exact hPc, va_K.moved hW.alike C.K, hDc.weaken (fun _ _ _ _ => trivial), NW.warm hW C.nw⟩⟩ rfl rfl hl.1 hst (lv_room hsum) d ⟨hk, hn⟩) hS (fun q _ h => hFc q h) hFc ?_
  intro res w1 H1 locs1 hB hP1 hD1 hk1 hS1
  obtain ⟨hle, hgo⟩ := K res w1 hB
  obtain ⟨hP2, hD2⟩ := kjoin hP hD isC hC hnd hle hk1 hFc hP1 hD1
  exact hgo H1 locs1 ls hP2 hD2 hS1 hl
/-- a constructor that isn't private -/
theorem g_callI (C : Cx X cc own ret cA fr lo nL) (pc : Nat) {y : MethodName} {cc' : ByteArray} {nL' : Nat} {rm : Room} {b : Nat} {As : List Value} {wc : va_W} {B : Option Value → va_W → Prop} {i : Nat} (isC : List Nat) (k' n' : Nat) (d : decode cc pc = .ok (.invokespecial i, 3)) (hM : MT (x_l X) cA y cc' nL' none rm (.ref b :: As) wc B)
    (h1 : Cond.methodLink own i y ∈ G) (h2 : Cond.instanceMethod y ∈ G) (h4 : Cond.initialized y.cls ∈ G) (h5 : Cond.code y cc' nL' none ∈ G) (hy : y.name = "<init>") (hd : okY y As.length) (hR : rm.frames + 1 ≤ fr ∧ 8 + (nL' + 11) + rm.locals ≤ lo) (hk : k' ≤ (x_R X).cells) (hn : n' ≤ (x_R X).slots) (hk' : k + rm.cells = k') (hn' : n + rm.slots = n')
    (hC : isC.map (fun i => ws[i]?) = wc.map some) (hnd : va_nd isC = true) (hst : st = As.reverse ++ .ref b :: rest) (hsum : (rest.map fun v => v.category).sum ≤ 8)
    (K : ∀ (res : Option Value) (w1 : va_W), B res w1 → isC.length ≤ w1.length ∧ Go X nL k' n' (pc + 3) (putAt ws isC w1) lv (res.toList ++ rest)) : Go X nL k n pc ws lv st := by
  intro H locs ls hP hD hS hl
  subst hk'; subst hn'
  have hFc := va_free (wc := wc) hD hS C.hA isC hC
  have hPc := hP.sub (ws' := wc) isC (by
    have := congrArg (List.filterMap id) hC
    simpa [List.filterMap_map] using this)
  have hDc := hD.sub (ws' := wc) isC hnd hC
  have hG : GoodIn G (.code y cc' nL' none :: G) := gi_G (fun w hw => by
    rcases List.mem_cons.mp hw with rfl | hw
    · exact h5
    · exact hw)
  refine kcall (va_runI (As := As) (rest := rest) ⟨C.ex, C.by, C.ml, C.ow, C.ts⟩ (hM H.size (x_D X)) (cwI As.length C.ts hG rfl rfl rfl (C.ts _ h4) (C.ts _ h1) (C.ts _ h2) hy hd ⟨Nat.le_trans hR.1 C.rm.1, Nat.le_trans hR.2 C.rm.2⟩) ⟨Px_blind, fun U hU hW => ⟨rfl, by rw [hU], by rw [hU]; exact hPc, va_K.moved hW.alike C.K, hDc.weaken (fun _ _ _ _ => trivial), NW.warm hW C.nw⟩⟩ rfl rfl hl.1 hst (lv_room hsum) d ⟨hk, hn⟩) hS (fun q _ h => hFc q h) hFc ?_
  intro res w1 H1 locs1 hB hP1 hD1 hk1 hS1
  obtain ⟨hle, hgo⟩ := K res w1 hB
  obtain ⟨hP2, hD2⟩ := kjoin hP hD isC hC hnd hle hk1 hFc hP1 hD1
  exact hgo H1 locs1 ls hP2 hD2 hS1 hl
theorem g_aret {B : Option Value → va_W → Prop} {Cn : String} {a : Nat} (C : Cx X cc own (some (.object Cn)) cA fr lo nL) (pc : Nat) (d : decode cc pc = .ok (.areturn, 1)) (F : Fx X B k n) (hB : B (some (.ref a)) ws) : Go X nL k n pc ws lv [.ref a] := by
  intro H locs ls hP hD hS hl
  unfold XW
  rw [F.1]
  exact W.aret C.ex C.by C.rt (Or.inl ⟨_, rfl⟩) (Or.inr ⟨_, rfl⟩) (fun t ht hW => ⟨⟨_, _, hB, rfl, by rw [ht]; exact hP, hD⟩, va_S.F (F.2 ▸ hS) ht⟩) hS.2.2 d C.lk
end GN
