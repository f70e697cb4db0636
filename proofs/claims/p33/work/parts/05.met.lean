/-! Contracts: what a method's start and end are. -/
def Px (D : va_G) (cA : Nat → ClassId) (sz : Nat) (ws : va_W) (U : State) : Prop := U.heap.size = sz ∧ va_P D vwCl ws U.heap ∧ va_K D vwCl (TY cA) U ∧ va_D (fun _ => True) ws ∧ NW U
def Qx (D : va_G) (A : Nat → Prop) (B : Option Value → va_W → Prop) : Array Value → State → Outcome → State → Prop := fun _ st oc t => (∃ (res : Option Value) (ws' : va_W), B res ws' ∧ oc = .returned res ∧ va_P D vwCl ws' t.heap ∧ va_D A ws') ∧ va_F A st t
def MT (l : Launch) (cA : Nat → ClassId) (y : MethodName) (cc : ByteArray) (nL : Nat) (ret : Option FieldType) (rm : Room) (av : List Value) (ws : va_W) (B : Option Value → va_W → Prop) : Prop :=
  ∀ (sz : Nat) (D : va_G), Met l y (.code y cc nL ret :: G) rm (va_Pc av (Px D cA sz ws)) (Qx D (va_A ws sz) B) rm.cells rm.slots (va_A ws sz)
abbrev sB (res : Option Value) (ws' : va_W) : Option Value → va_W → Prop := fun r w => r = res ∧ w = ws'
def Fx (X : XT) (B : Option Value → va_W → Prop) (k n : Nat) : Prop := x_Q X = MQ (x_b X) (Qx (x_D X) (x_A X) B) (x_a X) (x_s X) k n (x_A X) ∧ x_H X = (x_s X).heap
theorem Px_blind {D : va_G} {cA : Nat → ClassId} {sz : Nat} {ws : va_W} {av : List Value} : FrameBlind (va_Pc av (Px D cA sz ws)) := by
  intro a U g mk ⟨h0, h1, h2, h3, h4, h5⟩
  exact ⟨h0, h1, h2, va_K.moved (u := U) (U := U.calling g mk a) (Vm.Alike.refl U.vm) h3, h4, NW.same (s := U) (U := U.calling g mk a) rfl h5⟩
theorem MT.of {l : Launch} {cA : Nat → ClassId} {y : MethodName} {cc : ByteArray} {nL : Nat} {ret : Option FieldType} {rm : Room} {av : List Value} {ws : va_W} {B : Option Value → va_W → Prop} (hy : plainName y.cls = true) (hlen : (lg_sl av).length ≤ nL)
    (h : ∀ X : XT, x_l X = l → Cx X cc y.cls ret cA rm.frames rm.locals nL → Fx X B rm.cells rm.slots → (x_me X).name = y.name → (x_R X).cells = rm.cells → (x_R X).slots = rm.slots → Go X nL 0 0 0 ws (lv_args 0 av) []) : MT l cA y cc nL ret rm av ws B := by
  intro sz D
  refine Met.ofW (cc := cc) (maxL := nL) (ret := ret) hy rfl ?_
  intro p e s m args below meth c s₁ B' hml hv
  obtain ⟨rfl, hsz, hP, hK, hD0, hN⟩ := hv
  subst hsz
  have hD := hD0.self (sz := s.heap.size)
  have hts := atoms_spec (ws := .code y cc nL ret :: G) B'.pre
  rw [lg_entry_eq]
  have hl := lv_entry av (n := nL) hlen
  exact h (p, l, e, (headSpec (.code y cc nL ret :: G) rm).room, s, m, av.toArray, below, meth, c, D, va_A ws s.heap.size, s.heap, MQ below (Qx D (va_A ws s.heap.size) B) av.toArray s rm.cells rm.slots (va_A ws s.heap.size)) rfl
    ⟨B'.exec, B'.bytes, hml, findClass_of_methodNamed B'.named, fun w hw => hts w (List.mem_cons_of_mem _ hw), B'.returns, B'.notSynchronized, hK, hN, ⟨Nat.le_refl _, Nat.le_refl _⟩, fun q h => Or.inr h⟩ ⟨rfl, rfl⟩ ((name_of_methodNamed B'.named B'.method).1) rfl rfl s.heap [] _ hP hD va_S.rf hl
/-! A callee's cells put back at their places; what is left over is new. -/
def putAt (ws : va_W) : List Nat → va_W → va_W
  | i :: is, c :: cs => putAt (ws.set i c) is cs
  | _, cs => ws ++ cs
theorem putAt_nil (ws cs : va_W) : putAt ws [] cs = ws ++ cs := by cases cs <;> rfl
theorem putAt_get : ∀ (is : List Nat) (cs ws : va_W), is.length ≤ cs.length → va_nd is = true → (∀ i ∈ is, i < ws.length) → ∀ (k : Nat) (q : Nat × va_E), (putAt ws is cs)[k]? = some q →
    (∃ j, cs[j]? = some q ∧ (is[j]? = some k ∨ (is.length ≤ j ∧ k = ws.length + (j - is.length)))) ∨ (k ∉ is ∧ k < ws.length ∧ ws[k]? = some q)
  | [], cs, ws, _, _, _, k, q, h => by
    rw [putAt_nil] at h
    by_cases hk : k < ws.length
    · rw [List.getElem?_append_left hk] at h
      exact Or.inr ⟨List.not_mem_nil, hk, h⟩
    · rw [List.getElem?_append_right (by omega)] at h
      exact Or.inl ⟨k - ws.length, h, Or.inr ⟨Nat.zero_le _, by simp; omega⟩⟩
  | i :: is, [], ws, hl, _, _, k, q, h => by simp at hl
  | i :: is, c :: cs, ws, hl, hn, hi, k, q, h => by
    simp only [va_nd, Bool.and_eq_true, decide_eq_true_eq] at hn
    have h' : (putAt (ws.set i c) is cs)[k]? = some q := h
    have hlen : (ws.set i c).length = ws.length := List.length_set
    rcases putAt_get is cs (ws.set i c) (by simpa using hl) hn.2 (fun j hj => by rw [hlen]; exact hi j (List.mem_cons_of_mem _ hj)) k q h' with ⟨j, h1, h2⟩ | ⟨h1, h2, h3⟩
    · refine Or.inl ⟨j + 1, by simpa using h1, ?_⟩
      rcases h2 with h2 | ⟨h2, h3⟩
      · exact Or.inl (by simpa using h2)
      · exact Or.inr ⟨by simp; exact h2, by rw [h3, hlen]; simp⟩
    · by_cases hki : k = i
      · subst hki
        rw [List.getElem?_set_self (hi k List.mem_cons_self)] at h3
        cases h3
        exact Or.inl ⟨0, rfl, Or.inl rfl⟩
      · rw [List.getElem?_set_ne (Ne.symm hki)] at h3
        exact Or.inr ⟨fun hm => by
          rcases List.mem_cons.mp hm with h | h
          · exact hki h
          · exact h1 h, by rw [hlen] at h2; exact h2, h3⟩
theorem kjoin {A0 : Nat → Prop} {D : va_G} {cl : List vw_C} {ws wc w1 : va_W} {H H1 : Heap} (hP : va_P D cl ws H) (hD : va_D A0 ws) (isC : List Nat) (hC : isC.map (fun i => ws[i]?) = wc.map some) (hn : va_nd isC = true) (hle : isC.length ≤ w1.length)
    (hk : ∀ q : Nat, q < H.size → ¬ va_A wc H.size q → H1[q]? = H[q]?) (hF : ∀ q, va_A wc H.size q → A0 q) (hP1 : va_P D cl w1 H1) (hD1 : va_D (va_A wc H.size) w1) : va_P D cl (putAt ws isC w1) H1 ∧ va_D A0 (putAt ws isC w1) := by
  have at' : ∀ (k : Nat) (q : Nat × va_E), wc[k]? = some q → ∃ i, isC[k]? = some i ∧ ws[i]? = some q := by
    intro k q hq
    have h1 : (isC.map (fun i => ws[i]?))[k]? = some (some q) := by rw [hC, List.getElem?_map, hq]; rfl
    rw [List.getElem?_map] at h1
    cases hi : isC[k]? with
    | none => rw [hi] at h1; cases h1
    | some i => rw [hi] at h1; exact ⟨i, rfl, Option.some.inj h1⟩
  have hlt : ∀ i ∈ isC, i < ws.length := by
    intro i hi
    obtain ⟨k, hk⟩ := List.getElem?_of_mem hi
    have h1 : (isC.map (fun i => ws[i]?))[k]? = some (ws[i]?) := by rw [List.getElem?_map, hk]; rfl
    rw [hC, List.getElem?_map] at h1
    cases hw : wc[k]? with
    | none => rw [hw] at h1; cases h1
    | some q => rw [hw] at h1; exact (List.getElem?_eq_some_iff.mp (Option.some.inj h1).symm).1
  have apart : ∀ (k : Nat) (q : Nat × va_E), k ∉ isC → ws[k]? = some q → q.1 < H.size ∧ ¬ va_A wc H.size q.1 := by
    intro k q hki hq
    have hl := (hP k q hq).lt
    refine ⟨hl, fun h => ?_⟩
    rcases h with ⟨k2, e, h⟩ | h
    · obtain ⟨j, h3, h4⟩ := at' k2 (q.1, e) h
      have hij := hD.1 k j q (q.1, e) hq h4 rfl
      subst hij
      exact hki (List.mem_of_getElem? h3)
    · omega
  refine ⟨fun k q hq => ?_, fun i j x y hx hy hxy => ?_, fun k q hq => ?_⟩
  · rcases putAt_get isC w1 ws hle hn hlt k q hq with ⟨j, h1, -⟩ | ⟨h1, -, h3⟩
    · exact hP1 j q h1
    · obtain ⟨g1, g2⟩ := apart k q h1 h3
      exact (hP k q h3).kept (hk q.1 g1 g2)
  · rcases putAt_get isC w1 ws hle hn hlt i x hx with ⟨a, h1, h2⟩ | ⟨h1, h1', h2⟩ <;> rcases putAt_get isC w1 ws hle hn hlt j y hy with ⟨b, h3, h4⟩ | ⟨h3, h3', h4⟩
    · have hab := hD1.1 a b x y h1 h3 hxy
      subst hab
      rcases h2 with h2 | ⟨h2, h5⟩ <;> rcases h4 with h4 | ⟨h4, h6⟩
      · exact Option.some.inj (h2.symm.trans h4)
      · have := (List.getElem?_eq_some_iff.mp h2).1; omega
      · have := (List.getElem?_eq_some_iff.mp h4).1; omega
      · omega
    · exact absurd (by rw [← hxy]; exact hD1.2 a x h1) (apart j y h3 h4).2
    · exact absurd (by rw [hxy]; exact hD1.2 b y h3) (apart i x h1 h2).2
    · exact hD.1 i j x y h2 h4 hxy
  · rcases putAt_get isC w1 ws hle hn hlt k q hq with ⟨j, h1, -⟩ | ⟨h1, -, h3⟩
    · exact hF _ (hD1.2 j q h1)
    · exact hD.2 k q h3
theorem putAt_at2 : ∀ (is : List Nat) (cs ws : va_W) (k : Nat), is.length ≤ cs.length → k ∉ is → k < ws.length → (putAt ws is cs)[k]? = ws[k]?
  | [], cs, ws, k, _, _, hk => by rw [putAt_nil, List.getElem?_append_left hk]
  | i :: is, [], ws, k, hl, _, _ => by simp at hl
  | i :: is, c :: cs, ws, k, hl, hn, hk => by
    have h1 : k ≠ i := fun e => hn (by rw [e]; exact List.mem_cons_self)
    have h := putAt_at2 is cs (ws.set i c) k (by simpa using hl) (fun h => hn (List.mem_cons_of_mem _ h)) (by rw [List.length_set]; exact hk)
    exact h.trans (List.getElem?_set_ne (Ne.symm h1))
theorem putAt_at1 : ∀ (is : List Nat) (cs ws : va_W) (j k : Nat), is.length ≤ cs.length → va_nd is = true → is[j]? = some k → k < ws.length → (putAt ws is cs)[k]? = cs[j]?
  | [], cs, ws, j, k, _, _, h, _ => by simp at h
  | i :: is, [], ws, j, k, hl, _, _, _ => by simp at hl
  | i :: is, c :: cs, ws, 0, k, hl, hn, h, hk => by
    simp only [va_nd, Bool.and_eq_true, decide_eq_true_eq] at hn
    simp at h
    subst h
    have h := putAt_at2 is cs (ws.set i c) i (by simpa using hl) hn.1 (by rw [List.length_set]; exact hk)
    exact h.trans (by rw [List.getElem?_set_self hk]; rfl)
  | i :: is, c :: cs, ws, j + 1, k, hl, hn, h, hk => by
    simp only [va_nd, Bool.and_eq_true, decide_eq_true_eq] at hn
    have h := putAt_at1 is cs (ws.set i c) j k (by simpa using hl) hn.2 (by simpa using h) (by rw [List.length_set]; exact hk)
    exact h.trans (by simp)
def idxI (k : Nat) : List Nat → Option Nat
  | [] => none
  | i :: is => if i = k then some 0 else (idxI k is).map (· + 1)
theorem idxI_some : ∀ (is : List Nat) (k j : Nat), idxI k is = some j → is[j]? = some k
  | [], k, j, h => by simp [idxI] at h
  | i :: is, k, j, h => by
    unfold idxI at h
    split at h
    · cases h; simp; assumption
    · cases hh : idxI k is with
      | none => rw [hh] at h; cases h
      | some a => rw [hh] at h; cases h; simpa using idxI_some is k a hh
theorem idxI_none : ∀ (is : List Nat) (k : Nat), idxI k is = none → k ∉ is
  | [], k, h => List.not_mem_nil
  | i :: is, k, h => by
    unfold idxI at h
    split at h
    · cases h
    · cases hh : idxI k is with
      | none =>
        intro hm
        rcases List.mem_cons.mp hm with e | hm
        · rename_i hne; exact hne e.symm
        · exact idxI_none is k hh hm
      | some a => rw [hh] at h; cases h
def planOf (N : Nat) (is : List Nat) : List (Option Nat) := (List.range N).map (fun k => idxI k is)
def mkW (w1 : va_W) : va_W → List (Option Nat) → va_W
  | c :: cs, none :: ps => c :: mkW w1 cs ps
  | c :: cs, some j :: ps => w1.getD j c :: mkW w1 cs ps
  | _, _ => []
theorem mkW_get (w1 : va_W) : ∀ (ws : va_W) (ps : List (Option Nat)) (k : Nat) (q : Nat × va_E), (mkW w1 ws ps)[k]? = some q → (∃ j c, ps[k]? = some (some j) ∧ ws[k]? = some c ∧ q = w1.getD j c) ∨ (ps[k]? = some none ∧ ws[k]? = some q)
  | [], ps, k, q, h => by simp [mkW] at h
  | c :: cs, [], k, q, h => by simp [mkW] at h
  | c :: cs, none :: ps, 0, q, h => by
    simp [mkW] at h
    exact Or.inr ⟨rfl, by simp [h]⟩
  | c :: cs, some j :: ps, 0, q, h => by
    simp only [mkW, List.getElem?_cons_zero, Option.some.injEq] at h
    exact Or.inl ⟨j, c, rfl, rfl, h.symm⟩
  | c :: cs, none :: ps, k + 1, q, h => by
    have h' : (mkW w1 cs ps)[k]? = some q := by simpa [mkW] using h
    simpa using mkW_get w1 cs ps k q h'
  | c :: cs, some j :: ps, k + 1, q, h => by
    have h' : (mkW w1 cs ps)[k]? = some q := by simpa [mkW] using h
    simpa using mkW_get w1 cs ps k q h'
theorem mk_put {ws w1 : va_W} {isC : List Nat} {N : Nat} {ps : List (Option Nat)} (hN : ws.length = N) (hps : planOf N isC = ps) (hnd : va_nd isC = true) (hlt : isC.length = w1.length) (k : Nat) (q : Nat × va_E) (h : (mkW w1 ws ps)[k]? = some q) : (putAt ws isC w1)[k]? = some q := by
  have hp : ∀ o, ps[k]? = some o → k < ws.length ∧ idxI k isC = o := by
    intro o ho
    rw [← hps, planOf, List.getElem?_map] at ho
    cases hr : (List.range N)[k]? with
    | none => rw [hr] at ho; cases ho
    | some a =>
      rw [hr] at ho
      obtain ⟨h1, h2⟩ := List.getElem?_eq_some_iff.mp hr
      simp at h1 h2
      subst h2
      exact ⟨by omega, Option.some.inj ho⟩
  rcases mkW_get w1 ws ps k q h with ⟨j, c, h1, h2, h3⟩ | ⟨h1, h2⟩
  · obtain ⟨hk, hi⟩ := hp _ h1
    have hj := idxI_some isC k j hi
    have hjl : j < w1.length := by rw [← hlt]; exact (List.getElem?_eq_some_iff.mp hj).1
    rw [putAt_at1 isC w1 ws j k (Nat.le_of_eq hlt) hnd hj hk, h3, List.getD_eq_getElem?_getD, List.getElem?_eq_getElem hjl]
    rfl
  · obtain ⟨hk, hi⟩ := hp _ h1
    rw [putAt_at2 isC w1 ws k (Nat.le_of_eq hlt) (idxI_none isC k hi) hk]
    exact h2
theorem g_sub {X : XT} {nL k n pc : Nat} {ws ws2 : va_W} {lv : List (Nat × Value)} {st : List Value} (h : ∀ (k : Nat) (q : Nat × va_E), ws2[k]? = some q → ws[k]? = some q) (K : Go X nL k n pc ws2 lv st) : Go X nL k n pc ws lv st := fun H locs ls hP hD hS hl => K H locs ls (fun k q hk => hP k q (h k q hk)) ⟨fun i j p q hi hj e => hD.1 i j p q (h _ _ hi) (h _ _ hj) e, fun k q hk => hD.2 k q (h k q hk)⟩ hS hl
section KC
variable {p : Program} {l : Launch} {e : Env} {R : Room} {s : State} {m : MethodId} {args : Array Value} {below : List Frame} {meth : Method} {c : Code} {H : Heap} {locs : List Loc} {cells slots : Nat} {Q : State → Prop}
variable {pc : Nat} {ls : Array Slot} {rest st0 : List Value} {a : Array Value} {A0 A1 : Nat → Prop} {H0 : Heap} {mc ms : Nat} {free : Addr → Prop}
theorem kcall {D : va_G} {B : Option Value → va_W → Prop} (hr : va_Run p l e R s m args below meth c H locs cells slots mc ms (F0 m pc ls st0) rest (Qx D A1 B a) free) (hS : va_S A0 H0 H locs) (hA : ∀ q, q < H.size → A1 q → A0 q) (hf : ∀ q, free q → A0 q)
    (kk : ∀ (res : Option Value) (ws' : va_W) (H1 : Heap) (locs1 : List Loc), B res ws' → va_P D vwCl ws' H1 → va_D A1 ws' → (∀ q : Nat, q < H.size → ¬ A1 q → H1[q]? = H[q]?) → va_S A0 H0 H1 locs1 → W p l e R s m args below meth c H1 locs1 (cells + mc) (slots + ms) Q (F0 m (pc + 3) ls (res.toList ++ rest))) : W p l e R s m args below meth c H locs cells slots Q (F0 m pc ls st0) := by
  intro T hT X
  obtain ⟨v, st₀, t, T', L, h0, X', hL, e1, e2, ⟨⟨res, ws', hB, hv, hp, hd⟩, hz, hk⟩, st⟩ := hr T hT X
  cases hv
  rw [h0] at hz hk
  obtain ⟨t2, a1, b1⟩ := kk v ws' T'.heap (locs ++ L) hB (by rw [e1]; exact hp) hd (fun q h1 h2 => by rw [e1]; exact hk q h1 h2)
    ⟨Nat.le_trans hS.1 (by rw [e1]; exact hz), fun q h1 h2 => by rw [e1, hk q (Nat.lt_of_lt_of_le h1 hS.1) (fun z => h2 (hA q (Nat.lt_of_lt_of_le h1 hS.1) z))]; exact hS.2.1 q h1 h2, fun q hq => by
      rcases List.mem_append.mp hq with h | h
      · exact hS.2.2 q h
      · exact hf _ (hL q h)⟩ T' rfl X'
  exact ⟨t2, st t2 a1, b1⟩
end KC
section GC
variable {X : XT} {cc : ByteArray} {own : String} {ret : Option FieldType} {cA : Nat → ClassId} {fr lo nL k n : Nat} {ws : va_W} {lv : List (Nat × Value)} {st rest : List Value}
abbrev okY (y : MethodName) (j : Nat) : Prop := y.cls ≠ "java/lang/invoke/MethodHandle" ∧ y.cls ≠ "java/lang/invoke/VarHandle" ∧ (parseMethodDescriptor y.desc).map (fun d => d.parameters.length) = some j
theorem g_callV (C : Cx X cc own ret cA fr lo nL) (pc : Nat) {y : MethodName} {cc' : ByteArray} {nL' : Nat} {ret' : Option FieldType} {rm : Room} {b : Nat} {As : List Value} {wc : va_W} {B : Option Value → va_W → Prop} {i ci N : Nat} {fs : List Value} {T : u_T} (isC : List Nat) (q0 : Nat) (d : decode cc pc = .ok (.invokevirtual i, 3)) (hM : MT (x_l X) cA y cc' nL' ret' rm (.ref b :: As) wc B)
    (h1 : Cond.methodLink own i y ∈ G) (h2 : Cond.instanceMethod y ∈ G) (h3 : Cond.selects y.cls y y ∈ G) (h4 : Cond.initialized y.cls ∈ G) (h5 : Cond.code y cc' nL' ret' ∈ G) (hd : okY y As.length) (hR : rm.frames + 1 ≤ fr ∧ 8 + (nL' + 11) + rm.locals ≤ lo) (hrc : k + rm.cells ≤ (x_R X).cells ∧ n + rm.slots ≤ (x_R X).slots)
    (hq0 : ws[q0]? = some (oB b ci fs)) (hc : vwCl[ci]? = some (y.cls, T, N)) (hC : isC.map (fun i => ws[i]?) = wc.map some) (hnd : va_nd isC = true) (hst : st = As.reverse ++ .ref b :: rest) (hsum : (rest.map fun v => v.category).sum ≤ 8)
    (K : ∀ (res : Option Value) (w1 : va_W), B res w1 → isC.length ≤ w1.length ∧ Go X nL (k + rm.cells) (n + rm.slots) (pc + 3) (putAt ws isC w1) lv (res.toList ++ rest)) : Go X nL k n pc ws lv st := by
  intro H locs ls hP hD hS hl
  have hFc := va_free (wc := wc) hD hS C.hA isC hC
  have hPc := hP.sub (ws' := wc) isC (by
    have := congrArg (List.filterMap id) hC
    simpa [List.filterMap_map] using this)
  have hDc := hD.sub (ws' := wc) isC hnd hC
  have hG : GoodIn G (wsV own i y.cls y (.code y cc' nL' ret' :: G)) := gi_G (fun w hw => by
    simp only [wsV, List.cons_append, List.nil_append, List.mem_cons] at hw
    rcases hw with rfl | rfl | rfl | rfl | rfl | hw
    · exact h1
    · exact h2
    · exact h3
    · exact h4
    · exact h5
    · exact hw)
  refine kcall (va_runV (As := As) (rest := rest) ⟨C.ex, C.by, C.ml, C.ow, C.ts⟩ (hM H.size (x_D X)) (cwV As.length C.ts hG rfl rfl rfl ⟨rfl, hd⟩ ⟨Nat.le_trans hR.1 C.rm.1, Nat.le_trans hR.2 C.rm.2⟩) ⟨Px_blind, va_recv C.K hP hc hq0, fun U hU hW => ⟨rfl, by rw [hU], by rw [hU]; exact hPc, va_K.moved hW.alike C.K, hDc.weaken (fun _ _ _ _ => trivial), NW.warm hW C.nw⟩⟩ rfl rfl hl.1 hst (lv_room hsum) d hrc) hS (fun q _ h => hFc q h) hFc ?_
  intro res w1 H1 locs1 hB hP1 hD1 hk1 hS1
  obtain ⟨hle, hgo⟩ := K res w1 hB
  obtain ⟨hP2, hD2⟩ := kjoin hP hD isC hC hnd hle hk1 hFc hP1 hD1
  exact hgo H1 locs1 ls hP2 hD2 hS1 hl
theorem g_callV1 (C : Cx X cc own ret cA fr lo nL) (pc : Nat) {y : MethodName} {cc' : ByteArray} {nL' : Nat} {ret' : Option FieldType} {rm : Room} {b : Nat} {As : List Value} {wc w1 ws' : va_W} {res : Option Value} {i ci N : Nat} {fs : List Value} {T : u_T} (isC : List Nat) (q0 : Nat) (d : decode cc pc = .ok (.invokevirtual i, 3)) (hM : MT (x_l X) cA y cc' nL' ret' rm (.ref b :: As) wc (sB res w1))
    (h1 : Cond.methodLink own i y ∈ G) (h2 : Cond.instanceMethod y ∈ G) (h3 : Cond.selects y.cls y y ∈ G) (h4 : Cond.initialized y.cls ∈ G) (h5 : Cond.code y cc' nL' ret' ∈ G) (hd : okY y As.length) (hR : rm.frames + 1 ≤ fr ∧ 8 + (nL' + 11) + rm.locals ≤ lo) (hrc : k ≤ (x_R X).cells ∧ n ≤ (x_R X).slots) (hz : rm.cells = 0 ∧ rm.slots = 0)
    (hq0 : ws[q0]? = some (oB b ci fs)) (hc : vwCl[ci]? = some (y.cls, T, N)) (hC : isC.map (fun i => ws[i]?) = wc.map some) (hnd : va_nd isC = true) (hst : st = As.reverse ++ .ref b :: rest) (hsum : (rest.map fun v => v.category).sum ≤ 8) (hle : isC.length = w1.length) {N0 : Nat} (hN : ws.length = N0) (ps : List (Option Nat)) (hps : planOf N0 isC = ps) (hws : mkW w1 ws ps = ws') {st' : List Value} (hst' : res.toList ++ rest = st')
    (K : Go X nL k n (pc + 3) ws' lv st') : Go X nL k n pc ws lv st := by
  refine g_callV C pc isC q0 d hM h1 h2 h3 h4 h5 hd hR (by rw [hz.1, hz.2]; exact hrc) hq0 hc hC hnd hst hsum (fun r w h => ?_)
  obtain ⟨rfl, rfl⟩ := h
  refine ⟨Nat.le_of_eq hle, ?_⟩
  rw [hz.1, hz.2, hst']
  exact g_sub (fun k q h => mk_put hN hps hnd hle k q (by rw [hws]; exact h)) K
theorem g_callS (C : Cx X cc own ret cA fr lo nL) (pc : Nat) {y : MethodName} {cc' : ByteArray} {nL' : Nat} {ret' : Option FieldType} {rm : Room} {As : List Value} {wc w1 ws' : va_W} {res : Option Value} {i : Nat} (isC : List Nat) (d : decode cc pc = .ok (.invokestatic i, 3)) (hM : MT (x_l X) cA y cc' nL' ret' rm As wc (sB res w1))
    (h1 : Cond.methodLink own i y ∈ G) (h2 : Cond.static y ∈ G) (h4 : Cond.initialized y.cls ∈ G) (h5 : Cond.code y cc' nL' ret' ∈ G) (hd : okY y As.length) (hR : rm.frames + 1 ≤ fr ∧ 8 + (nL' + 11) + rm.locals ≤ lo) (hrc : k ≤ (x_R X).cells ∧ n ≤ (x_R X).slots) (hz : rm.cells = 0 ∧ rm.slots = 0)
    (hC : isC.map (fun i => ws[i]?) = wc.map some) (hnd : va_nd isC = true) (hst : st = As.reverse ++ rest) (hsum : (rest.map fun v => v.category).sum ≤ 8) (hle : isC.length = w1.length) {N0 : Nat} (hN : ws.length = N0) (ps : List (Option Nat)) (hps : planOf N0 isC = ps) (hws : mkW w1 ws ps = ws') {st' : List Value} (hst' : res.toList ++ rest = st')
    (K : Go X nL k n (pc + 3) ws' lv st') : Go X nL k n pc ws lv st := by
  intro H locs ls hP hD hS hl
  have hFc := va_free (wc := wc) hD hS C.hA isC hC
  have hPc := hP.sub (ws' := wc) isC (by
    have := congrArg (List.filterMap id) hC
    simpa [List.filterMap_map] using this)
  have hDc := hD.sub (ws' := wc) isC hnd hC
  have hG : GoodIn G (va_wsS own i y (.code y cc' nL' ret' :: G)) := gi_G (fun w hw => by
    simp only [va_wsS, List.cons_append, List.nil_append, List.mem_cons] at hw
    rcases hw with rfl | rfl | rfl | rfl | hw
    · exact h1
    · exact h2
    · exact h4
    · exact h5
    · exact hw)
  refine kcall (va_runS (As := As) (rest := rest) ⟨C.ex, C.by, C.ml, C.ow, C.ts⟩ (hM H.size (x_D X)) (va_cwS As.length C.ts hG rfl rfl rfl hd ⟨Nat.le_trans hR.1 C.rm.1, Nat.le_trans hR.2 C.rm.2⟩) ⟨Px_blind, fun U hU hW => ⟨rfl, by rw [hU], by rw [hU]; exact hPc, va_K.moved hW.alike C.K, hDc.weaken (fun _ _ _ _ => trivial), NW.warm hW C.nw⟩⟩ rfl rfl hl.1 hst (lv_room hsum) d (by rw [hz.1, hz.2]; exact hrc)) hS (fun q _ h => hFc q h) hFc ?_
  intro r w H1 locs1 hB hP1 hD1 hk1 hS1
  obtain ⟨rfl, rfl⟩ := hB
  obtain ⟨hP2, hD2⟩ := kjoin hP hD isC hC hnd (Nat.le_of_eq hle) hk1 hFc hP1 hD1
  rw [hz.1, hz.2, hst']
  exact g_sub (fun k q h => mk_put hN hps hnd hle k q (by rw [hws]; exact h)) K H1 locs1 ls hP2 hD2 hS1 hl
theorem g_callSN (C : Cx X cc own ret cA fr lo nL) (pc : Nat) {y : MethodName} {cc' : ByteArray} {nL' : Nat} {ret' : Option FieldType} {rm : Room} {As : List Value} {wc w1 ws' : va_W} {res : Option Value} {i : Nat} {host : String} (isC : List Nat) (d : decode cc pc = .ok (.invokestatic i, 3)) (hM : MT (x_l X) cA y cc' nL' ret' rm As wc (sB res w1))
    (h1 : (own, i, y, host) ∈ nwT) (h2 : Cond.static y ∈ G) (h4 : Cond.initialized y.cls ∈ G) (h5 : Cond.code y cc' nL' ret' ∈ G) (hd : okY y As.length) (hR : rm.frames + 1 ≤ fr ∧ 8 + (nL' + 11) + rm.locals ≤ lo) (hrc : k ≤ (x_R X).cells ∧ n ≤ (x_R X).slots) (hz : rm.cells = 0 ∧ rm.slots = 0)
    (hC : isC.map (fun i => ws[i]?) = wc.map some) (hnd : va_nd isC = true) (hst : st = As.reverse ++ rest) (hsum : (rest.map fun v => v.category).sum ≤ 8) (hle : isC.length = w1.length) {N0 : Nat} (hN : ws.length = N0) (ps : List (Option Nat)) (hps : planOf N0 isC = ps) (hws : mkW w1 ws ps = ws') {st' : List Value} (hst' : res.toList ++ rest = st')
    (K : Go X nL k n (pc + 3) ws' lv st') : Go X nL k n pc ws lv st := by
  intro H locs ls hP hD hS hl
  have hFc := va_free (wc := wc) hD hS C.hA isC hC
  have hPc := hP.sub (ws' := wc) isC (by
    have := congrArg (List.filterMap id) hC
    simpa [List.filterMap_map] using this)
  have hDc := hD.sub (ws' := wc) isC hnd hC
  have hG : GoodIn G (.code y cc' nL' ret' :: G) := gi_G (fun w hw => by
    rcases List.mem_cons.mp hw with rfl | hw
    · exact h5
    · exact hw)
  refine kcall (va_runSN (As := As) (rest := rest) (host := host) ⟨C.ex, C.by, C.ml, C.ow, C.ts⟩ (hM H.size (x_D X)) ⟨va_cnB As.length C.ts hG rfl rfl rfl (C.nw.1 _ h1) (C.ts _ h4) hd ⟨Nat.le_trans hR.1 C.rm.1, Nat.le_trans hR.2 C.rm.2⟩, C.ts _ h2, trivial⟩ ⟨Px_blind, fun U hU hW => ⟨rfl, by rw [hU], by rw [hU]; exact hPc, va_K.moved hW.alike C.K, hDc.weaken (fun _ _ _ _ => trivial), NW.warm hW C.nw⟩⟩ rfl rfl hl.1 hst (lv_room hsum) d (by rw [hz.1, hz.2]; exact hrc)) hS (fun q _ h => hFc q h) hFc ?_
  intro r w H1 locs1 hB hP1 hD1 hk1 hS1
  obtain ⟨rfl, rfl⟩ := hB
  obtain ⟨hP2, hD2⟩ := kjoin hP hD isC hC hnd (Nat.le_of_eq hle) hk1 hFc hP1 hD1
  rw [hz.1, hz.2, hst']
  exact g_sub (fun k q h => mk_put hN hps hnd hle k q (by rw [hws]; exact h)) K H1 locs1 ls hP2 hD2 hS1 hl
variable {B : Option Value → va_W → Prop}
theorem g_iret (C : Cx X cc own (some .int) cA fr lo nL) (pc : Nat) {v : Int32} (d : decode cc pc = .ok (.ireturn, 1)) (F : Fx X B k n) (hB : B (some (.int v)) ws) : Go X nL k n pc ws lv [.int v] := by
  intro H locs ls hP hD hS hl
  unfold XW
  rw [F.1]
  exact W.iret C.ex C.by C.rt (fun t ht hW => ⟨⟨_, _, hB, rfl, by rw [ht]; exact hP, hD⟩, va_S.F (F.2 ▸ hS) ht⟩) hS.2.2 d C.lk
theorem g_zret (C : Cx X cc own (some .boolean) cA fr lo nL) (pc : Nat) {v : Int32} (d : decode cc pc = .ok (.ireturn, 1)) (hv : v = 0 ∨ v = 1) (F : Fx X B k n) (hB : B (some (.int v)) ws) : Go X nL k n pc ws lv [.int v] := by
  intro H locs ls hP hD hS hl
  unfold XW
  rw [F.1]
  exact W.zret C.ex C.by C.rt (by rcases hv with rfl | rfl <;> rfl) (fun t ht hW => ⟨⟨_, _, hB, rfl, by rw [ht]; exact hP, hD⟩, va_S.F (F.2 ▸ hS) ht⟩) hS.2.2 d C.lk
theorem g_lret (C : Cx X cc own (some .long) cA fr lo nL) (pc : Nat) {v : Int64} (d : decode cc pc = .ok (.lreturn, 1)) (F : Fx X B k n) (hB : B (some (.long v)) ws) : Go X nL k n pc ws lv [.long v] := by
  intro H locs ls hP hD hS hl
  unfold XW
  rw [F.1]
  exact W.lret C.ex C.by C.rt (fun t ht hW => ⟨⟨_, _, hB, rfl, by rw [ht]; exact hP, hD⟩, va_S.F (F.2 ▸ hS) ht⟩) hS.2.2 d C.lk
theorem g_vret (C : Cx X cc own none cA fr lo nL) (pc : Nat) (d : decode cc pc = .ok (.return_, 1)) (F : Fx X B k n) (hB : B none ws) : Go X nL k n pc ws lv [] := by
  intro H locs ls hP hD hS hl
  unfold XW
  rw [F.1]
  exact W.vret C.ex C.by C.rt (fun t ht hW => ⟨⟨_, _, hB, rfl, by rw [ht]; exact hP, hD⟩, va_S.F (F.2 ▸ hS) ht⟩) hS.2.2 d C.lk
end GC
