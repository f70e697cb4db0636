/-! Worlds with a tail: P ++ S. -/
section SUF
variable {P S wcP w1 S1 : va_W} {isP : List Nat} {N0 : Nat} {ps : List (Option Nat)}
theorem mkW_len (w1 : va_W) : ∀ (ws : va_W) (ps : List (Option Nat)), ps.length = ws.length → (mkW w1 ws ps).length = ws.length
  | [], [], _ => rfl
  | [], _ :: _, h => by simp at h
  | _ :: _, [], h => by simp at h
  | c :: cs, none :: ps, h => by simp [mkW, mkW_len w1 cs ps (by simpa using h)]
  | c :: cs, some j :: ps, h => by simp [mkW, mkW_len w1 cs ps (by simpa using h)]
theorem plan_len (N : Nat) (is : List Nat) : (planOf N is).length = N := by simp [planOf]
theorem plan_at {k : Nat} {o : Option Nat} (hps : planOf N0 isP = ps) (ho : ps[k]? = some o) : k < N0 ∧ idxI k isP = o := by
  rw [← hps, planOf, List.getElem?_map] at ho
  cases hr : (List.range N0)[k]? with
  | none => rw [hr] at ho; cases ho
  | some a =>
    rw [hr] at ho
    obtain ⟨h1, h2⟩ := List.getElem?_eq_some_iff.mp hr
    simp at h1 h2
    subst h2
    exact ⟨h1, Option.some.inj ho⟩
theorem lt_of_C (hC : isP.map (fun i => P[i]?) = wcP.map some) : ∀ i ∈ isP, i < P.length := by
  intro i hi
  obtain ⟨a, ha⟩ := List.getElem?_of_mem hi
  have h1 : (isP.map (fun i => P[i]?))[a]? = some (P[i]?) := by rw [List.getElem?_map, ha]; rfl
  rw [hC, List.getElem?_map] at h1
  cases hw : wcP[a]? with
  | none => rw [hw] at h1; cases h1
  | some c => rw [hw] at h1; exact (List.getElem?_eq_some_iff.mp (Option.some.inj h1).symm).1
theorem base_C (hC : isP.map (fun i => P[i]?) = wcP.map some) : isP.map (fun i => (P ++ S)[i]?) = wcP.map some := by
  rw [← hC]
  exact List.map_congr_left (fun i hi => List.getElem?_append_left (lt_of_C hC i hi))
theorem base_sub (hN : P.length = N0) (hps : planOf N0 isP = ps) (hC : isP.map (fun i => P[i]?) = wcP.map some) (hnd : va_nd isP = true) (hle : isP.length = w1.length) (k : Nat) (q : Nat × va_E) (hk : (mkW w1 P ps ++ S)[k]? = some q) : (putAt (P ++ S) isP w1)[k]? = some q := by
  have hlt := lt_of_C hC
  have hml : (mkW w1 P ps).length = P.length := mkW_len w1 P ps (by rw [← hps, plan_len, hN])
  refine put_sub hnd hle (fun i hi => by rw [List.length_append]; exact Nat.lt_of_lt_of_le (hlt i hi) (Nat.le_add_right _ _)) (fun k q hk => ?_) k q hk
  by_cases h : k < P.length
  · rw [List.getElem?_append_left (by rw [hml]; exact h)] at hk
    rcases mkW_get w1 P ps k q hk with ⟨j, c, h1, h2, h3⟩ | ⟨h1, h2⟩
    · obtain ⟨-, hi⟩ := plan_at hps h1
      have hj := idxI_some isP k j hi
      have hjl : j < w1.length := by rw [← hle]; exact (List.getElem?_eq_some_iff.mp hj).1
      exact Or.inl ⟨j, hj, by rw [h3, List.getD_eq_getElem?_getD, List.getElem?_eq_getElem hjl]; rfl⟩
    · obtain ⟨-, hi⟩ := plan_at hps h1
      exact Or.inr ⟨idxI_none isP k hi, by rw [List.getElem?_append_left h]; exact h2⟩
  · rw [List.getElem?_append_right (by rw [hml]; omega), hml] at hk
    exact Or.inr ⟨fun hm => h (hlt k hm), by rw [List.getElem?_append_right (by omega)]; exact hk⟩
def sufI (isP : List Nat) (p s : Nat) : List Nat := isP ++ (List.range s).map (· + p)
theorem suf_C (hC : isP.map (fun i => P[i]?) = wcP.map some) : (sufI isP P.length S.length).map (fun i => (P ++ S)[i]?) = (wcP ++ S).map some := by
  rw [sufI, List.map_append, List.map_append, base_C hC, List.map_map]
  congr 1
  rw [← all_C S]
  refine List.map_congr_left (fun i hi => ?_)
  show (P ++ S)[i + P.length]? = S[i]?
  rw [List.getElem?_append_right (by omega)]
  congr 1
  omega
theorem nd_app : ∀ (a b : List Nat), va_nd a = true → va_nd b = true → (∀ x ∈ a, x ∉ b) → va_nd (a ++ b) = true
  | [], b, _, hb, _ => hb
  | x :: a, b, ha, hb, h => by
    simp only [va_nd, Bool.and_eq_true, decide_eq_true_eq] at ha
    simp only [List.cons_append, va_nd, Bool.and_eq_true, decide_eq_true_eq]
    exact ⟨fun hm => (List.mem_append.mp hm).elim ha.1 (h x List.mem_cons_self), nd_app a b ha.2 hb (fun y hy => h y (List.mem_cons_of_mem _ hy))⟩
theorem suf_nd {p s : Nat} (hnd : va_nd isP = true) (hlt : ∀ i ∈ isP, i < p) : va_nd (sufI isP p s) = true := by
  refine nd_app _ _ hnd (nd_of_nodup _ ?_) (fun x hx hm => ?_)
  · have := @List.nodup_range s
    rw [List.Nodup, List.pairwise_map]
    exact List.Pairwise.imp (fun h e => h (by omega)) this
  · obtain ⟨a, -, ha⟩ := List.mem_map.mp hm
    have := hlt x hx
    omega
theorem suf_sub (hN : P.length = N0) (hps : planOf N0 isP = ps) (hC : isP.map (fun i => P[i]?) = wcP.map some) (hnd : va_nd isP = true) (hle : isP.length = w1.length) (hS : S1.length = S.length) (k : Nat) (q : Nat × va_E) (hk : (mkW w1 P ps ++ S1)[k]? = some q) : (putAt (P ++ S) (sufI isP P.length S.length) (w1 ++ S1))[k]? = some q := by
  have hlt := lt_of_C hC
  have hml : (mkW w1 P ps).length = P.length := mkW_len w1 P ps (by rw [← hps, plan_len, hN])
  refine put_sub (suf_nd hnd hlt) (by simp [sufI, hle, hS]) (fun i hi => ?_) (fun k q hk => ?_) k q hk
  · rw [List.length_append]
    rcases List.mem_append.mp hi with h | h
    · have := hlt i h; omega
    · obtain ⟨a, h1, h2⟩ := List.mem_map.mp h
      have := List.mem_range.mp h1
      omega
  · by_cases h : k < P.length
    · rw [List.getElem?_append_left (by rw [hml]; exact h)] at hk
      rcases mkW_get w1 P ps k q hk with ⟨j, c, h1, h2, h3⟩ | ⟨h1, h2⟩
      · obtain ⟨-, hi⟩ := plan_at hps h1
        have hj := idxI_some isP k j hi
        have hjp : j < isP.length := (List.getElem?_eq_some_iff.mp hj).1
        have hjl : j < w1.length := by rw [← hle]; exact hjp
        exact Or.inl ⟨j, by rw [sufI, List.getElem?_append_left hjp]; exact hj, by rw [List.getElem?_append_left hjl, h3, List.getD_eq_getElem?_getD, List.getElem?_eq_getElem hjl]; rfl⟩
      · obtain ⟨-, hi⟩ := plan_at hps h1
        refine Or.inr ⟨fun hm => ?_, by rw [List.getElem?_append_left h]; exact h2⟩
        rcases List.mem_append.mp hm with hm | hm
        · exact idxI_none isP k hi hm
        · obtain ⟨a, -, h2⟩ := List.mem_map.mp hm
          omega
    · rw [List.getElem?_append_right (by rw [hml]; omega), hml] at hk
      have hl := (List.getElem?_eq_some_iff.mp hk).1
      refine Or.inl ⟨isP.length + (k - P.length), ?_, ?_⟩
      · rw [sufI, List.getElem?_append_right (by omega), List.getElem?_map, List.getElem?_range (by omega)]
        simp
        omega
      · rw [List.getElem?_append_right (by omega), ← hle]
        rw [show isP.length + (k - P.length) - isP.length = k - P.length by omega]
        exact hk
end SUF
section GP
variable {X : XT} {cc : ByteArray} {own : String} {ret : Option FieldType} {cA : Nat → ClassId} {fr lo nL k n : Nat} {lv : List (Nat × Value)} {st rest : List Value}
/-- the callee has cells of P alone -/
theorem g_callB (C : Cx X cc own ret cA fr lo nL) (pc : Nat) {P P' S : va_W} {y : MethodName} {cc' : ByteArray} {nL' : Nat} {ret' : Option FieldType} {rm : Room} {b : Nat} {As : List Value} {wc w1 : va_W} {res : Option Value} {i ci N : Nat} {fs : List Value} {T : u_T} (isP : List Nat) (q0 : Nat) (d : decode cc pc = .ok (.invokevirtual i, 3)) (hM : MT (x_l X) cA y cc' nL' ret' rm (.ref b :: As) wc (sB res w1))
    (h1 : Cond.methodLink own i y ∈ G) (h2 : Cond.instanceMethod y ∈ G) (h3 : Cond.selects y.cls y y ∈ G) (h4 : Cond.initialized y.cls ∈ G) (h5 : Cond.code y cc' nL' ret' ∈ G) (hd : okY y As.length) (hR : rm.frames + 1 ≤ fr ∧ 8 + (nL' + 11) + rm.locals ≤ lo) (hrc : k ≤ (x_R X).cells ∧ n ≤ (x_R X).slots) (hz : rm.cells = 0 ∧ rm.slots = 0)
    (hq0 : (P ++ S)[q0]? = some (oB b ci fs)) (hc : vwCl[ci]? = some (y.cls, T, N)) (hC : isP.map (fun i => P[i]?) = wc.map some) (hnd : va_nd isP = true) (hst : st = As.reverse ++ .ref b :: rest) (hsum : (rest.map fun v => v.category).sum ≤ 8) (hle : isP.length = w1.length) {N0 : Nat} (hN : P.length = N0) (ps : List (Option Nat)) (hps : planOf N0 isP = ps) (hws : mkW w1 P ps = P') {st' : List Value} (hst' : res.toList ++ rest = st')
    (K : Go X nL k n (pc + 3) (P' ++ S) lv st') : Go X nL k n pc (P ++ S) lv st :=
  g_callP C pc isP q0 d hM h1 h2 h3 h4 h5 hd hR hrc hz hq0 hc (base_C hC) hnd hst hsum hle (fun k q h => base_sub hN hps hC hnd hle k q (by rw [hws]; exact h)) hst' K
/-- the callee has cells of P, and all of S -/
theorem g_callT (C : Cx X cc own ret cA fr lo nL) (pc : Nat) {P P' S S1 : va_W} {y : MethodName} {cc' : ByteArray} {nL' : Nat} {ret' : Option FieldType} {rm : Room} {b : Nat} {As : List Value} {wc w1 : va_W} {res : Option Value} {i ci N : Nat} {fs : List Value} {T : u_T} (isP : List Nat) (q0 : Nat) (d : decode cc pc = .ok (.invokevirtual i, 3)) (hM : MT (x_l X) cA y cc' nL' ret' rm (.ref b :: As) (wc ++ S) (sB res (w1 ++ S1)))
    (h1 : Cond.methodLink own i y ∈ G) (h2 : Cond.instanceMethod y ∈ G) (h3 : Cond.selects y.cls y y ∈ G) (h4 : Cond.initialized y.cls ∈ G) (h5 : Cond.code y cc' nL' ret' ∈ G) (hd : okY y As.length) (hR : rm.frames + 1 ≤ fr ∧ 8 + (nL' + 11) + rm.locals ≤ lo) (hrc : k ≤ (x_R X).cells ∧ n ≤ (x_R X).slots) (hz : rm.cells = 0 ∧ rm.slots = 0)
    (hq0 : (P ++ S)[q0]? = some (oB b ci fs)) (hc : vwCl[ci]? = some (y.cls, T, N)) (hC : isP.map (fun i => P[i]?) = wc.map some) (hnd : va_nd isP = true) (hst : st = As.reverse ++ .ref b :: rest) (hsum : (rest.map fun v => v.category).sum ≤ 8) (hle : isP.length = w1.length) (hS : S1.length = S.length) {N0 : Nat} (hN : P.length = N0) (ps : List (Option Nat)) (hps : planOf N0 isP = ps) (hws : mkW w1 P ps = P') {st' : List Value} (hst' : res.toList ++ rest = st')
    (K : Go X nL k n (pc + 3) (P' ++ S1) lv st') : Go X nL k n pc (P ++ S) lv st :=
  g_callP C pc (sufI isP P.length S.length) q0 d hM h1 h2 h3 h4 h5 hd hR hrc hz hq0 hc (suf_C hC) (suf_nd hnd (lt_of_C hC)) hst hsum (by simp [sufI, hle, hS]) (fun k q h => suf_sub hN hps hC hnd hle hS k q (by rw [hws]; exact h)) hst' K
/-- a static method over cells of P -/
theorem g_callSB (C : Cx X cc own ret cA fr lo nL) (pc : Nat) {P P' S : va_W} {y : MethodName} {cc' : ByteArray} {nL' : Nat} {ret' : Option FieldType} {rm : Room} {As : List Value} {wc w1 : va_W} {res : Option Value} {i : Nat} (isP : List Nat) (d : decode cc pc = .ok (.invokestatic i, 3)) (hM : MT (x_l X) cA y cc' nL' ret' rm As wc (sB res w1))
    (h1 : Cond.methodLink own i y ∈ G) (h2 : Cond.static y ∈ G) (h4 : Cond.initialized y.cls ∈ G) (h5 : Cond.code y cc' nL' ret' ∈ G) (hd : okY y As.length) (hR : rm.frames + 1 ≤ fr ∧ 8 + (nL' + 11) + rm.locals ≤ lo) (hrc : k ≤ (x_R X).cells ∧ n ≤ (x_R X).slots) (hz : rm.cells = 0 ∧ rm.slots = 0)
    (hC : isP.map (fun i => P[i]?) = wc.map some) (hnd : va_nd isP = true) (hst : st = As.reverse ++ rest) (hsum : (rest.map fun v => v.category).sum ≤ 8) (hle : isP.length = w1.length) {N0 : Nat} (hN : P.length = N0) (ps : List (Option Nat)) (hps : planOf N0 isP = ps) (hws : mkW w1 P ps = P') {st' : List Value} (hst' : res.toList ++ rest = st')
    (K : Go X nL k n (pc + 3) (P' ++ S) lv st') : Go X nL k n pc (P ++ S) lv st := by
  intro H locs ls hP hD hS hl
  have hC2 : isP.map (fun i => (P ++ S)[i]?) = wc.map some := base_C hC
  have hFc := va_free (wc := wc) hD hS C.hA isP hC2
  have hPc := hP.sub (ws' := wc) isP (by
    have := congrArg (List.filterMap id) hC2
    simpa [List.filterMap_map] using this)
  have hDc := hD.sub (ws' := wc) isP hnd hC2
  have hG : GoodIn G (va_wsS own i y (.code y cc' nL' ret' :: G)) := gi_G (fun w hw => by
    simp only [va_wsS, List.cons_append, List.nil_append, List.mem_cons] at hw
    rcases hw with rfl | rfl | rfl | rfl | hw
    · exact h1
    · exact h2
    · exact h4
    · exact h5
    · exact hw)
  refine kcall (va_runS (As := As) (rest := rest) ⟨C.ex, C.by, C.ml, C.ow, C.ts⟩ (hM H.size (x_D X)) (va_cwS As.length C.ts hG rfl rfl rfl hd ⟨Nat.le_trans hR.1 C.rm.1, Nat.le_trans hR.2 C.rm.2⟩) ⟨Px_blind, fun U hU hW => ⟨rfl, by rw [hU], by rw [hU]; exact hPc, va_K.moved hW.alike C.K, hDc.weaken (fun _ _ _ _ => trivial), NW.warm hW C.nw⟩⟩ rfl rfl hl.1 hst (lv_room hsum) d (by rw [hz.1, hz.2]; exact hrc)) hS (fun q _ h => hFc q h) hFc ?_
  intro r w H1 locs1 hB hP1 hD1 hk1 hS1
  obtain ⟨rfl, rfl⟩ := hB
  obtain ⟨hP2, hD2⟩ := kjoin hP hD isP hC2 hnd (Nat.le_of_eq hle) hk1 hFc hP1 hD1
  rw [hz.1, hz.2, hst']
  exact g_sub (fun k q h => base_sub hN hps hC hnd hle k q (by rw [hws]; exact h)) K H1 locs1 ls hP2 hD2 hS1 hl
/-- a static method of a nest mate without cells -/
theorem g_callSN0 (C : Cx X cc own ret cA fr lo nL) (pc : Nat) {ws : va_W} {y : MethodName} {cc' : ByteArray} {nL' : Nat} {ret' : Option FieldType} {rm : Room} {As : List Value} {res : Option Value} {i : Nat} {host : String} (d : decode cc pc = .ok (.invokestatic i, 3)) (hM : MT (x_l X) cA y cc' nL' ret' rm As [] (sB res []))
    (h1 : (own, i, y, host) ∈ nwT) (h2 : Cond.static y ∈ G) (h4 : Cond.initialized y.cls ∈ G) (h5 : Cond.code y cc' nL' ret' ∈ G) (hd : okY y As.length) (hR : rm.frames + 1 ≤ fr ∧ 8 + (nL' + 11) + rm.locals ≤ lo) (hrc : k ≤ (x_R X).cells ∧ n ≤ (x_R X).slots) (hz : rm.cells = 0 ∧ rm.slots = 0) (hst : st = As.reverse ++ rest) (hsum : (rest.map fun v => v.category).sum ≤ 8) {st' : List Value} (hst' : res.toList ++ rest = st')
    (K : Go X nL k n (pc + 3) ws lv st') : Go X nL k n pc ws lv st := by
  intro H locs ls hP hD hS hl
  have hFc := va_free (wc := []) hD hS C.hA [] rfl
  have hPc : va_P (x_D X) vwCl [] H := fun k q h => by simp at h
  have hDc : va_D (x_A X) [] := ⟨fun i j p q h => by simp at h, fun k q h => by simp at h⟩
  have hG : GoodIn G (.code y cc' nL' ret' :: G) := gi_G (fun w hw => by
    rcases List.mem_cons.mp hw with rfl | hw
    · exact h5
    · exact hw)
  refine kcall (va_runSN (As := As) (rest := rest) (host := host) ⟨C.ex, C.by, C.ml, C.ow, C.ts⟩ (hM H.size (x_D X)) ⟨va_cnB As.length C.ts hG rfl rfl rfl (C.nw.1 _ h1) (C.ts _ h4) hd ⟨Nat.le_trans hR.1 C.rm.1, Nat.le_trans hR.2 C.rm.2⟩, C.ts _ h2, trivial⟩ ⟨Px_blind, fun U hU hW => ⟨rfl, by rw [hU], by rw [hU]; exact hPc, va_K.moved hW.alike C.K, hDc.weaken (fun _ _ _ _ => trivial), NW.warm hW C.nw⟩⟩ rfl rfl hl.1 hst (lv_room hsum) d (by rw [hz.1, hz.2]; exact hrc)) hS (fun q _ h => hFc q h) hFc ?_
  intro r w H1 locs1 hB hP1 hD1 hk1 hS1
  obtain ⟨rfl, rfl⟩ := hB
  obtain ⟨hP2, hD2⟩ := kjoin hP hD [] rfl rfl (Nat.le_refl _) hk1 hFc hP1 hD1
  rw [putAt_nil, List.append_nil] at hP2 hD2
  rw [hz.1, hz.2, hst']
  exact K H1 locs1 ls hP2 hD2 hS1 hl
end GP
