/-! Rows for the law: worlds in another order, cells beside, the script. -/
theorem nd_of_D {A : Nat → Prop} {ws : va_W} (h : va_D A ws) : (ws.map (fun q => q.1)).Nodup := by
  rw [List.Nodup, List.pairwise_iff_getElem]
  intro i j hi hj hij e
  have hi' : i < ws.length := by simpa using hi
  have hj' : j < ws.length := by simpa using hj
  have e' : (ws[i]).1 = (ws[j]).1 := by simpa using e
  have := h.1 i j _ _ (List.getElem?_eq_getElem hi') (List.getElem?_eq_getElem hj') e'
  omega
theorem D_of_nd {A : Nat → Prop} {ws : va_W} (h : (ws.map (fun q => q.1)).Nodup) (hA : ∀ q ∈ ws, A q.1) : va_D A ws := by
  refine ⟨fun i j p q hi hj e => ?_, fun k q hk => hA q (List.mem_of_getElem? hk)⟩
  obtain ⟨hi1, hi2⟩ := List.getElem?_eq_some_iff.mp hi
  obtain ⟨hj1, hj2⟩ := List.getElem?_eq_some_iff.mp hj
  rw [List.Nodup, List.pairwise_iff_getElem] at h
  rcases Nat.lt_trichotomy i j with hlt | rfl | hlt
  · exact (h i j (by simpa using hi1) (by simpa using hj1) hlt (by simp only [List.getElem_map, hi2, hj2, e])).elim
  · rfl
  · exact (h j i (by simpa using hj1) (by simpa using hi1) hlt (by simp only [List.getElem_map, hi2, hj2, e])).elim
theorem g_perm {X : XT} {nL k n pc : Nat} {ws ws' : va_W} {lv : List (Nat × Value)} {st : List Value} (hp : ws.Perm ws') (K : Go X nL k n pc ws' lv st) : Go X nL k n pc ws lv st := by
  intro H locs ls hP hD hS hl
  refine K H locs ls (fun k q hk => ?_) (D_of_nd ((hp.map (fun q => q.1)).nodup_iff.mp (nd_of_D hD)) (fun q hq => ?_)) hS hl
  · obtain ⟨i, hi⟩ := List.getElem?_of_mem (hp.mem_iff.mpr (List.mem_of_getElem? hk))
    exact hP i q hi
  · obtain ⟨i, hi⟩ := List.getElem?_of_mem (hp.mem_iff.mpr hq)
    exact hD.2 i q hi
theorem putAt_right : ∀ (is : List Nat) (cs ws R : va_W), is.length = cs.length → (∀ i ∈ is, i < ws.length) → putAt (ws ++ R) is cs = putAt ws is cs ++ R
  | [], [], ws, R, _, _ => by rw [putAt_nil, putAt_nil, List.append_nil, List.append_nil]
  | [], _ :: _, ws, R, h, _ => by simp at h
  | i :: is, [], ws, R, h, _ => by simp at h
  | i :: is, c :: cs, ws, R, h, hi => by
    show putAt ((ws ++ R).set i c) is cs = putAt (ws.set i c) is cs ++ R
    rw [List.set_append_left _ _ (hi i List.mem_cons_self)]
    exact putAt_right is cs (ws.set i c) R (by simpa using h) (fun j hj => by rw [List.length_set]; exact hi j (List.mem_cons_of_mem _ hj))
section GL
variable {X : XT} {cc : ByteArray} {own : String} {ret : Option FieldType} {cA : Nat → ClassId} {fr lo nL k n : Nat} {lv : List (Nat × Value)} {st rest : List Value}
/-- a call over A, with cells R beside -/
theorem g_callF (C : Cx X cc own ret cA fr lo nL) (pc : Nat) {A A' R : va_W} {y : MethodName} {cc' : ByteArray} {nL' : Nat} {ret' : Option FieldType} {rm : Room} {b : Nat} {As : List Value} {wc w1 : va_W} {res : Option Value} {i ci N : Nat} {fs : List Value} {T : u_T} (isC : List Nat) (q0 : Nat) (d : decode cc pc = .ok (.invokevirtual i, 3)) (hM : MT (x_l X) cA y cc' nL' ret' rm (.ref b :: As) wc (sB res w1))
    (h1 : Cond.methodLink own i y ∈ G) (h2 : Cond.instanceMethod y ∈ G) (h3 : Cond.selects y.cls y y ∈ G) (h4 : Cond.initialized y.cls ∈ G) (h5 : Cond.code y cc' nL' ret' ∈ G) (hd : okY y As.length) (hR : rm.frames + 1 ≤ fr ∧ 8 + (nL' + 11) + rm.locals ≤ lo) (hrc : k ≤ (x_R X).cells ∧ n ≤ (x_R X).slots) (hz : rm.cells = 0 ∧ rm.slots = 0)
    (hq0 : (A ++ R)[q0]? = some (oB b ci fs)) (hc : vwCl[ci]? = some (y.cls, T, N)) (hC : isC.map (fun i => A[i]?) = wc.map some) (hnd : va_nd isC = true) (hst : st = As.reverse ++ .ref b :: rest) (hsum : (rest.map fun v => v.category).sum ≤ 8) (hle : isC.length = w1.length) (hlen : A'.length = A.length) (hsub : ∀ (k : Nat) (q : Nat × va_E), A'[k]? = some q → (putAt A isC w1)[k]? = some q) {st' : List Value} (hst' : res.toList ++ rest = st')
    (K : Go X nL k n (pc + 3) (A' ++ R) lv st') : Go X nL k n pc (A ++ R) lv st := by
  refine g_callP C pc isC q0 d hM h1 h2 h3 h4 h5 hd hR hrc hz hq0 hc (base_C hC) hnd hst hsum hle (fun k q h => ?_) hst' K
  rw [putAt_right isC w1 A R hle (lt_of_C hC)]
  have hpl := putAt_len isC w1 A hle
  by_cases hk : k < A.length
  · rw [List.getElem?_append_left (by rw [hlen]; exact hk)] at h
    rw [List.getElem?_append_left (by rw [hpl]; exact hk)]
    exact hsub k q h
  · rw [List.getElem?_append_right (by rw [hlen]; omega), hlen] at h
    rw [List.getElem?_append_right (by rw [hpl]; omega), hpl]
    exact h
/-- a call over cells of P that may make cells; they come behind all -/
theorem g_callNB (C : Cx X cc own ret cA fr lo nL) (pc : Nat) {P S : va_W} {y : MethodName} {cc' : ByteArray} {nL' : Nat} {ret' : Option FieldType} {rm : Room} {b : Nat} {As : List Value} {wc : va_W} {B : Option Value → va_W → Prop} {i ci N : Nat} {fs : List Value} {T : u_T} (isP : List Nat) (q0 k' n' : Nat) (d : decode cc pc = .ok (.invokevirtual i, 3)) (hM : MT (x_l X) cA y cc' nL' ret' rm (.ref b :: As) wc B)
    (h1 : Cond.methodLink own i y ∈ G) (h2 : Cond.instanceMethod y ∈ G) (h3 : Cond.selects y.cls y y ∈ G) (h4 : Cond.initialized y.cls ∈ G) (h5 : Cond.code y cc' nL' ret' ∈ G) (hd : okY y As.length) (hR : rm.frames + 1 ≤ fr ∧ 8 + (nL' + 11) + rm.locals ≤ lo) (hk : k' ≤ (x_R X).cells ∧ n' ≤ (x_R X).slots) (hk' : k + rm.cells = k') (hn' : n + rm.slots = n')
    (hq0 : (P ++ S)[q0]? = some (oB b ci fs)) (hc : vwCl[ci]? = some (y.cls, T, N)) (hC : isP.map (fun i => P[i]?) = wc.map some) (hnd : va_nd isP = true) (hst : st = As.reverse ++ .ref b :: rest) (hsum : (rest.map fun v => v.category).sum ≤ 8) {N0 : Nat} (hN : P.length = N0) (ps : List (Option Nat)) (hps : planOf N0 isP = ps)
    (K : ∀ (res : Option Value) (wz : va_W), B res wz → ∃ w1 Nw : va_W, wz = w1 ++ Nw ∧ isP.length = w1.length ∧ Go X nL k' n' (pc + 3) ((mkW w1 P ps ++ S) ++ Nw) lv (res.toList ++ rest)) : Go X nL k n pc (P ++ S) lv st := by
  subst hk'; subst hn'
  refine g_callV C pc isP q0 d hM h1 h2 h3 h4 h5 hd hR hk hq0 hc (base_C hC) hnd hst hsum (fun res wz hB => ?_)
  obtain ⟨w1, Nw, rfl, hle, hgo⟩ := K res wz hB
  refine ⟨by rw [List.length_append, ← hle]; exact Nat.le_add_right _ _, g_sub (fun k q h => ?_) hgo⟩
  rw [putAt_app isP w1 Nw (P ++ S) hle]
  have hml : (mkW w1 P ps).length = P.length := mkW_len w1 P ps (by rw [← hps, plan_len, hN])
  have hpl := putAt_len isP w1 (P ++ S) hle
  by_cases hk : k < (P ++ S).length
  · rw [List.getElem?_append_left (by rw [List.length_append, hml, ← List.length_append]; exact hk)] at h
    rw [List.getElem?_append_left (by rw [hpl]; exact hk)]
    exact base_sub hN hps hC hnd hle k q h
  · rw [List.getElem?_append_right (by rw [List.length_append, hml, ← List.length_append]; omega), List.length_append, hml, ← List.length_append] at h
    rw [List.getElem?_append_right (by rw [hpl]; omega), hpl]
    exact h
/-- the script's cells -/
def Sx (X : XT) (b L : Nat) (xs : Nat → Int32) : Prop := va_X b L xs (x_s X) (x_H X) ∧ b < (x_H X).size ∧ ¬ x_A X b
theorem g_sld (C : Cx X cc own ret cA fr lo nL) (pc : Nat) {ws : va_W} {b L : Nat} {xs : Nat → Int32} (E : Sx X b L xs) (j : Nat) {i : Int32} (d : decode cc pc = .ok (.iaload, 1)) (hi : i = nI j) (hj : j < L) (hL : L < 2 ^ 31) (K : Go X nL k n (pc + 1) ws lv (.int (xs j) :: st)) : Go X nL k n pc ws lv (.int i :: .ref b :: st) := by
  intro H locs ls hP hD hS hl
  subst hi
  refine va_sld C.ex C.by E.1 E.2.1 E.2.2 hS (vp_in_nI hj hL) d ?_
  rw [nI_clamp (Nat.lt_trans hj hL)]
  exact K H locs ls hP hD hS hl
theorem g_slen (C : Cx X cc own ret cA fr lo nL) (pc : Nat) {ws : va_W} {b L : Nat} {xs : Nat → Int32} (E : Sx X b L xs) (d : decode cc pc = .ok (.arraylength, 1)) (K : Go X nL k n (pc + 1) ws lv (.int (nI L) :: st)) : Go X nL k n pc ws lv (.ref b :: st) := fun H locs ls hP hD hS hl => va_slen C.ex C.by E.1 E.2.1 E.2.2 hS d (K H locs ls hP hD hS hl)
end GL
