/-! Calls that make cells behind the callee's own; room that is more than enough. -/
theorem Cx.mono {X : XT} {cc : ByteArray} {own : String} {ret : Option FieldType} {cA : Nat → ClassId} {fr lo fr' lo' nL : Nat} (C : Cx X cc own ret cA fr lo nL) (h : fr' ≤ fr ∧ lo' ≤ lo) : Cx X cc own ret cA fr' lo' nL :=
  ⟨C.ex, C.by, C.ml, C.ow, C.ts, C.rt, C.lk, C.K, C.nw, ⟨Nat.le_trans h.1 C.rm.1, Nat.le_trans h.2 C.rm.2⟩, C.hA⟩
theorem g_widen {X : XT} {nL k n pc : Nat} {ws : va_W} {lv : List (Nat × Value)} {st : List Value} (k' n' : Nat) (h1 : k ≤ k') (h2 : n ≤ n') (K : Go X nL k' n' pc ws lv st) : Go X nL k n pc ws lv st := fun H locs ls hP hD hS hl => W.widen h1 h2 (K H locs ls hP hD hS hl)
section MADE
variable {ws w1 Nw : va_W} {isC : List Nat} {N0 : Nat} {ps : List (Option Nat)}
theorem putAt_app : ∀ (is : List Nat) (cs Nw ws : va_W), is.length = cs.length → putAt ws is (cs ++ Nw) = putAt ws is cs ++ Nw
  | [], [], Nw, ws, _ => by rw [List.nil_append, putAt_nil, putAt_nil, List.append_nil]
  | [], _ :: _, Nw, ws, h => by simp at h
  | i :: is, [], Nw, ws, h => by simp at h
  | i :: is, c :: cs, Nw, ws, h => putAt_app is cs Nw (ws.set i c) (by simpa using h)
theorem putAt_len : ∀ (is : List Nat) (cs ws : va_W), is.length = cs.length → (putAt ws is cs).length = ws.length
  | [], [], ws, _ => by rw [putAt_nil, List.append_nil]
  | [], _ :: _, ws, h => by simp at h
  | i :: is, [], ws, h => by simp at h
  | i :: is, c :: cs, ws, h => (putAt_len is cs (ws.set i c) (by simpa using h)).trans List.length_set
theorem made_sub (hN : ws.length = N0) (hps : planOf N0 isC = ps) (hnd : va_nd isC = true) (hle : isC.length = w1.length) (k : Nat) (q : Nat × va_E) (hk : (mkW w1 ws ps ++ Nw)[k]? = some q) : (putAt ws isC (w1 ++ Nw))[k]? = some q := by
  rw [putAt_app isC w1 Nw ws hle]
  have hml : (mkW w1 ws ps).length = ws.length := mkW_len w1 ws ps (by rw [← hps, plan_len, hN])
  have hpl := putAt_len isC w1 ws hle
  by_cases h : k < ws.length
  · rw [List.getElem?_append_left (by rw [hml]; exact h)] at hk
    rw [List.getElem?_append_left (by rw [hpl]; exact h)]
    exact mk_put hN hps hnd hle k q hk
  · rw [List.getElem?_append_right (by rw [hml]; omega), hml] at hk
    rw [List.getElem?_append_right (by rw [hpl]; omega), hpl]
    exact hk
end MADE
section GM
variable {X : XT} {cc : ByteArray} {own : String} {ret : Option FieldType} {cA : Nat → ClassId} {fr lo nL k n : Nat} {ws : va_W} {lv : List (Nat × Value)} {st rest : List Value}
/-- a call that may make cells -/
theorem g_callN (C : Cx X cc own ret cA fr lo nL) (pc : Nat) {y : MethodName} {cc' : ByteArray} {nL' : Nat} {ret' : Option FieldType} {rm : Room} {b : Nat} {As : List Value} {wc : va_W} {B : Option Value → va_W → Prop} {i ci N : Nat} {fs : List Value} {T : u_T} (isC : List Nat) (q0 k' n' : Nat) (d : decode cc pc = .ok (.invokevirtual i, 3)) (hM : MT (x_l X) cA y cc' nL' ret' rm (.ref b :: As) wc B)
    (h1 : Cond.methodLink own i y ∈ G) (h2 : Cond.instanceMethod y ∈ G) (h3 : Cond.selects y.cls y y ∈ G) (h4 : Cond.initialized y.cls ∈ G) (h5 : Cond.code y cc' nL' ret' ∈ G) (hd : okY y As.length) (hR : rm.frames + 1 ≤ fr ∧ 8 + (nL' + 11) + rm.locals ≤ lo) (hk : k' ≤ (x_R X).cells ∧ n' ≤ (x_R X).slots) (hk' : k + rm.cells = k') (hn' : n + rm.slots = n')
    (hq0 : ws[q0]? = some (oB b ci fs)) (hc : vwCl[ci]? = some (y.cls, T, N)) (hC : isC.map (fun i => ws[i]?) = wc.map some) (hnd : va_nd isC = true) (hst : st = As.reverse ++ .ref b :: rest) (hsum : (rest.map fun v => v.category).sum ≤ 8) {N0 : Nat} (hN : ws.length = N0) (ps : List (Option Nat)) (hps : planOf N0 isC = ps)
    (K : ∀ (res : Option Value) (wz : va_W), B res wz → ∃ w1 Nw : va_W, wz = w1 ++ Nw ∧ isC.length = w1.length ∧ Go X nL k' n' (pc + 3) (mkW w1 ws ps ++ Nw) lv (res.toList ++ rest)) : Go X nL k n pc ws lv st := by
  subst hk'; subst hn'
  refine g_callV C pc isC q0 d hM h1 h2 h3 h4 h5 hd hR hk hq0 hc hC hnd hst hsum (fun res wz hB => ?_)
  obtain ⟨w1, Nw, rfl, hle, hgo⟩ := K res wz hB
  exact ⟨by rw [List.length_append, ← hle]; exact Nat.le_add_right _ _, g_sub (made_sub hN hps hnd hle) hgo⟩
end GM
