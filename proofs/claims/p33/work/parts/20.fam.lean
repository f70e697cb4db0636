/-! The search's levels: fifteen objects of one kind, two cells each. -/
def lvW (cA : Nat → ClassId) (ad an : Nat → Nat) (lf ne : Nat → Int32) (nr : Nat → Nat → Int32) : va_W := (List.range 30).map (fun k => if k % 2 = 0 then oB (ad (k / 2)) 1 [.ref (an (k / 2)), .int (lf (k / 2)), .int (ne (k / 2))] else aI cA (an (k / 2)) 14 (nr (k / 2)))
theorem lvW_len {cA : Nat → ClassId} {ad an : Nat → Nat} {lf ne : Nat → Int32} {nr : Nat → Nat → Int32} : (lvW cA ad an lf ne nr).length = 30 := by simp [lvW]
theorem lvW_get {cA : Nat → ClassId} {ad an : Nat → Nat} {lf ne : Nat → Int32} {nr : Nat → Nat → Int32} {k : Nat} (h : k < 30) : (lvW cA ad an lf ne nr)[k]? = some (if k % 2 = 0 then oB (ad (k / 2)) 1 [.ref (an (k / 2)), .int (lf (k / 2)), .int (ne (k / 2))] else aI cA (an (k / 2)) 14 (nr (k / 2))) := by
  unfold lvW
  rw [List.getElem?_map, List.getElem?_range h]
  rfl
section FAM
variable {B : va_W} {cA : Nat → ClassId} {ad an : Nat → Nat} {lf ne : Nat → Int32} {nr : Nat → Nat → Int32} {n0 j i : Nat}
theorem fam_o (hB : B.length = n0) (hj : j < 15) : (B ++ lvW cA ad an lf ne nr)[n0 + 2 * j]? = some (oB (ad j) 1 [.ref (an j), .int (lf j), .int (ne j)]) := by
  subst hB
  rw [List.getElem?_append_right (by omega), show B.length + 2 * j - B.length = 2 * j by omega, lvW_get (by omega), if_pos (by omega), show 2 * j / 2 = j by omega]
theorem fam_a (hB : B.length = n0) (hj : j < 15) : (B ++ lvW cA ad an lf ne nr)[n0 + 2 * j + 1]? = some (aI cA (an j) 14 (nr j)) := by
  subst hB
  rw [List.getElem?_append_right (by omega), show B.length + 2 * j + 1 - B.length = 2 * j + 1 by omega, lvW_get (by omega), if_neg (by omega), show (2 * j + 1) / 2 = j by omega]
theorem fam_b (hB : B.length = n0) {k : Nat} (hk : k < n0) : (B ++ lvW cA ad an lf ne nr)[k]? = B[k]? := by
  subst hB
  exact List.getElem?_append_left hk
theorem fam_cases (hB : B.length = n0) {k : Nat} {q : Nat × va_E} (h : (B ++ lvW cA ad an lf ne nr)[k]? = some q) : (k < n0 ∧ B[k]? = some q) ∨ (∃ j, j < 15 ∧ k = n0 + 2 * j ∧ q = oB (ad j) 1 [.ref (an j), .int (lf j), .int (ne j)]) ∨ (∃ j, j < 15 ∧ k = n0 + 2 * j + 1 ∧ q = aI cA (an j) 14 (nr j)) := by
  subst hB
  by_cases hk : k < B.length
  · rw [List.getElem?_append_left hk] at h
    exact Or.inl ⟨hk, h⟩
  · rw [List.getElem?_append_right (by omega)] at h
    have hl : k - B.length < 30 := by
      have := (List.getElem?_eq_some_iff.mp h).1
      rwa [lvW_len] at this
    rw [lvW_get hl] at h
    by_cases he : (k - B.length) % 2 = 0
    · rw [if_pos he] at h
      exact Or.inr (Or.inl ⟨(k - B.length) / 2, by omega, by omega, (Option.some.inj h).symm⟩)
    · rw [if_neg he] at h
      exact Or.inr (Or.inr ⟨(k - B.length) / 2, by omega, by omega, (Option.some.inj h).symm⟩)
/-- where a callee's cells came back, and what else is as it was -/
theorem put_sub {ws ws' w1 : va_W} {isC : List Nat} (hnd : va_nd isC = true) (hle : isC.length = w1.length) (hlt : ∀ k ∈ isC, k < ws.length) (h : ∀ (k : Nat) (q : Nat × va_E), ws'[k]? = some q → (∃ a : Nat, isC[a]? = some k ∧ w1[a]? = some q) ∨ (k ∉ isC ∧ ws[k]? = some q)) (k : Nat) (q : Nat × va_E) (hk : ws'[k]? = some q) : (putAt ws isC w1)[k]? = some q := by
  rcases h k q hk with ⟨a, h1, h2⟩ | ⟨h1, h2⟩
  · rw [putAt_at1 isC w1 ws a k (Nat.le_of_eq hle) hnd h1 (hlt k (List.mem_of_getElem? h1))]
    exact h2
  · rw [putAt_at2 isC w1 ws k (Nat.le_of_eq hle) h1 (List.getElem?_eq_some_iff.mp h2).1]
    exact h2
theorem put_same {ws wc : va_W} {isC : List Nat} (hnd : va_nd isC = true) (hC : isC.map (fun i => ws[i]?) = wc.map some) (k : Nat) (q : Nat × va_E) (hk : ws[k]? = some q) : (putAt ws isC wc)[k]? = some q := by
  have hle : isC.length = wc.length := by simpa using congrArg List.length hC
  have hlt : ∀ i ∈ isC, i < ws.length := by
    intro i hi
    obtain ⟨a, ha⟩ := List.getElem?_of_mem hi
    have h1 : (isC.map (fun i => ws[i]?))[a]? = some (ws[i]?) := by rw [List.getElem?_map, ha]; rfl
    rw [hC, List.getElem?_map] at h1
    cases hw : wc[a]? with
    | none => rw [hw] at h1; cases h1
    | some c => rw [hw] at h1; exact (List.getElem?_eq_some_iff.mp (Option.some.inj h1).symm).1
  refine put_sub hnd hle hlt (fun k q h => ?_) k q hk
  by_cases hm : k ∈ isC
  · obtain ⟨a, ha⟩ := List.getElem?_of_mem hm
    refine Or.inl ⟨a, ha, ?_⟩
    have h1 : (isC.map (fun i => ws[i]?))[a]? = some (ws[k]?) := by rw [List.getElem?_map, ha]; rfl
    rw [hC, List.getElem?_map, h] at h1
    cases hw : wc[a]? with
    | none => rw [hw] at h1; cases h1
    | some c => rw [hw] at h1; exact Option.some.inj h1
  · exact Or.inr ⟨hm, h⟩
/-- a level's two cells came back, others that the callee had are as they were -/
theorem fam_sub (hB : B.length = n0) (hj : j < 15) {x y : Int32} {f : Nat → Int32} {is : List Nat} {wc : va_W} (hC : is.map (fun i => (B ++ lvW cA ad an lf ne nr)[i]?) = wc.map some) (hnd : va_nd ((n0 + 2 * j) :: (n0 + 2 * j + 1) :: is) = true) (k : Nat) (q : Nat × va_E) (hk : (B ++ lvW cA ad an (upd lf j x) (upd ne j y) (va_up nr j f))[k]? = some q) : (putAt (B ++ lvW cA ad an lf ne nr) ((n0 + 2 * j) :: (n0 + 2 * j + 1) :: is) (oB (ad j) 1 [.ref (an j), .int x, .int y] :: aI cA (an j) 14 f :: wc))[k]? = some q := by
  have hle : is.length = wc.length := by simpa using congrArg List.length hC
  have at' : ∀ (a i : Nat), is[a]? = some i → ∃ c, wc[a]? = some c ∧ (B ++ lvW cA ad an lf ne nr)[i]? = some c := by
    intro a i ha
    have h1 : (is.map (fun i => (B ++ lvW cA ad an lf ne nr)[i]?))[a]? = some ((B ++ lvW cA ad an lf ne nr)[i]?) := by rw [List.getElem?_map, ha]; rfl
    rw [hC, List.getElem?_map] at h1
    cases hw : wc[a]? with
    | none => rw [hw] at h1; cases h1
    | some c => rw [hw] at h1; exact ⟨c, rfl, (Option.some.inj h1).symm⟩
  have hlen : (B ++ lvW cA ad an lf ne nr).length = n0 + 30 := by rw [List.length_append, lvW_len, hB]
  have hnd' := hnd
  simp only [va_nd, Bool.and_eq_true, decide_eq_true_eq] at hnd'
  obtain ⟨n1, n2, n3⟩ := hnd'
  refine put_sub hnd (by simp [hle]) (fun i hi => ?_) (fun k q hk => ?_) k q hk
  · rw [hlen]
    rcases List.mem_cons.mp hi with rfl | hi
    · omega
    rcases List.mem_cons.mp hi with rfl | hi
    · omega
    obtain ⟨a, ha⟩ := List.getElem?_of_mem hi
    obtain ⟨c, -, h2⟩ := at' a i ha
    have := (List.getElem?_eq_some_iff.mp h2).1
    rwa [hlen] at this
  · have old : k ≠ n0 + 2 * j → k ≠ n0 + 2 * j + 1 → (B ++ lvW cA ad an lf ne nr)[k]? = some q → (∃ a : Nat, ((n0 + 2 * j) :: (n0 + 2 * j + 1) :: is)[a]? = some k ∧ (oB (ad j) 1 [.ref (an j), .int x, .int y] :: aI cA (an j) 14 f :: wc)[a]? = some q) ∨ (k ∉ ((n0 + 2 * j) :: (n0 + 2 * j + 1) :: is) ∧ (B ++ lvW cA ad an lf ne nr)[k]? = some q) := by
      intro h1 h2 h3
      by_cases hm : k ∈ is
      · obtain ⟨a, ha⟩ := List.getElem?_of_mem hm
        obtain ⟨c, h4, h5⟩ := at' a k ha
        rw [h3] at h5
        cases h5
        exact Or.inl ⟨a + 2, by simpa using ha, by simpa using h4⟩
      · exact Or.inr ⟨fun h => by
          rcases List.mem_cons.mp h with h | h
          · exact h1 h
          rcases List.mem_cons.mp h with h | h
          · exact h2 h
          exact hm h, h3⟩
    rcases fam_cases hB hk with ⟨h1, h2⟩ | ⟨i, h1, h2, h3⟩ | ⟨i, h1, h2, h3⟩
    · exact old (by omega) (by omega) (by rw [fam_b hB h1]; exact h2)
    · by_cases hij : i = j
      · subst hij
        refine Or.inl ⟨0, by simp [h2], ?_⟩
        rw [h3]
        simp [upd]
      · refine old (by omega) (by omega) ?_
        rw [h2, fam_o hB h1, h3]
        simp [upd, hij]
    · by_cases hij : i = j
      · subst hij
        refine Or.inl ⟨1, by simp [h2], ?_⟩
        rw [h3]
        simp [va_up]
      · refine old (by omega) (by omega) ?_
        rw [h2, fam_a hB h1, h3]
        simp [va_up, hij]
theorem fam_C (hB : B.length = n0) (hj : j < 15) : [n0 + 2 * j, n0 + 2 * j + 1].map (fun i => (B ++ lvW cA ad an lf ne nr)[i]?) = ([oB (ad j) 1 [.ref (an j), .int (lf j), .int (ne j)], aI cA (an j) 14 (nr j)] : va_W).map some := by
  simp only [List.map_cons, List.map_nil, fam_o hB hj, fam_a hB hj]
theorem fam_C2 (hB : B.length = n0) (hj : j < 15) {is : List Nat} {wc : va_W} (hC : is.map (fun i => (B ++ lvW cA ad an lf ne nr)[i]?) = wc.map some) : ((n0 + 2 * j) :: (n0 + 2 * j + 1) :: is).map (fun i => (B ++ lvW cA ad an lf ne nr)[i]?) = (oB (ad j) 1 [.ref (an j), .int (lf j), .int (ne j)] :: aI cA (an j) 14 (nr j) :: wc).map some := by
  simp only [List.map_cons, fam_o hB hj, fam_a hB hj, hC]
theorem nd2 : va_nd [n0 + 2 * j, n0 + 2 * j + 1] = true := by simp [va_nd]
theorem nd4 (h : i ≠ j) : va_nd [n0 + 2 * j, n0 + 2 * j + 1, n0 + 2 * i, n0 + 2 * i + 1] = true := by
  simp [va_nd]
  omega
theorem ndb {a b : Nat} (ha : a < n0) (hb : b < n0) (hab : a ≠ b) : va_nd [n0 + 2 * j, n0 + 2 * j + 1, a, b] = true := by
  simp [va_nd]
  omega
end FAM
def ckI {β : Type} (i : Int32) (n : Nat) (k : Option β) : Option β := if okI i n then k else none
theorem ckI_some {β : Type} {i : Int32} {n : Nat} {k : Option β} {r : β} (h : ckI i n k = some r) : vp_in i n ∧ k = some r := by
  unfold ckI at h; split at h
  · exact ⟨‹_›, h⟩
  · cases h
section GF
variable {X : XT} {cc : ByteArray} {own : String} {ret : Option FieldType} {cA : Nat → ClassId} {fr lo nL k n : Nat} {ws : va_W} {lv : List (Nat × Value)} {st rest : List Value} {ρ : Type} {r : ρ}
theorem g_ald (C : Cx X cc own ret cA fr lo nL) (pc q : Nat) {a m : Nat} {ad : Nat → Nat} {i : Int32} {kf : Option ρ} (d : decode cc pc = .ok (.aaload, 1)) (ha : ws[q]? = some (aG cA a m (fun i => some (ad i)))) (hf : ckI i m kf = some r) (K : i.toNatClampNeg < m → kf = some r → Go X nL k n (pc + 1) ws lv (.ref (ad i.toNatClampNeg) :: st)) : Go X nL k n pc ws lv (.int i :: .ref a :: st) := fun H locs ls hP hD hS hl => va_aldq C.ex C.by C.K hP q 3 ha rfl (ckI_some hf).1 d (K (Nat.not_le.mp fun h => (ckI_some hf).1 (Or.inr h)) (ckI_some hf).2 H locs ls hP hD hS hl)
/-- a call whose cells come back by any proof -/
theorem g_callP (C : Cx X cc own ret cA fr lo nL) (pc : Nat) {y : MethodName} {cc' : ByteArray} {nL' : Nat} {ret' : Option FieldType} {rm : Room} {b : Nat} {As : List Value} {wc w1 ws' : va_W} {res : Option Value} {i ci N : Nat} {fs : List Value} {T : u_T} (isC : List Nat) (q0 : Nat) (d : decode cc pc = .ok (.invokevirtual i, 3)) (hM : MT (x_l X) cA y cc' nL' ret' rm (.ref b :: As) wc (sB res w1))
    (h1 : Cond.methodLink own i y ∈ G) (h2 : Cond.instanceMethod y ∈ G) (h3 : Cond.selects y.cls y y ∈ G) (h4 : Cond.initialized y.cls ∈ G) (h5 : Cond.code y cc' nL' ret' ∈ G) (hd : okY y As.length) (hR : rm.frames + 1 ≤ fr ∧ 8 + (nL' + 11) + rm.locals ≤ lo) (hrc : k ≤ (x_R X).cells ∧ n ≤ (x_R X).slots) (hz : rm.cells = 0 ∧ rm.slots = 0)
    (hq0 : ws[q0]? = some (oB b ci fs)) (hc : vwCl[ci]? = some (y.cls, T, N)) (hC : isC.map (fun i => ws[i]?) = wc.map some) (hnd : va_nd isC = true) (hst : st = As.reverse ++ .ref b :: rest) (hsum : (rest.map fun v => v.category).sum ≤ 8) (hle : isC.length = w1.length) (hsub : ∀ (k : Nat) (q : Nat × va_E), ws'[k]? = some q → (putAt ws isC w1)[k]? = some q) {st' : List Value} (hst' : res.toList ++ rest = st')
    (K : Go X nL k n (pc + 3) ws' lv st') : Go X nL k n pc ws lv st := by
  refine g_callV C pc isC q0 d hM h1 h2 h3 h4 h5 hd hR (by rw [hz.1, hz.2]; exact hrc) hq0 hc hC hnd hst hsum (fun r w h => ?_)
  obtain ⟨rfl, rfl⟩ := h
  refine ⟨Nat.le_of_eq hle, ?_⟩
  rw [hz.1, hz.2, hst']
  exact g_sub hsub K
theorem all_C (ws : va_W) : (List.range ws.length).map (fun i => ws[i]?) = ws.map some := by
  apply List.ext_getElem?
  intro i
  rw [List.getElem?_map, List.getElem?_map]
  by_cases h : i < ws.length
  · rw [List.getElem?_range h, List.getElem?_eq_getElem h]
    simp [h]
  · rw [List.getElem?_eq_none (by simp; omega), List.getElem?_eq_none (by omega)]
    rfl
theorem nd_of_nodup : ∀ (l : List Nat), l.Nodup → va_nd l = true
  | [], _ => rfl
  | a :: l, h => by
    obtain ⟨h1, h2⟩ := List.nodup_cons.mp h
    simp [va_nd, h1, nd_of_nodup l h2]
theorem all_nd (n : Nat) : va_nd (List.range n) = true := nd_of_nodup _ List.nodup_range
/-- a call that has all cells -/
theorem g_callA (C : Cx X cc own ret cA fr lo nL) (pc : Nat) {y : MethodName} {cc' : ByteArray} {nL' : Nat} {ret' : Option FieldType} {rm : Room} {b : Nat} {As : List Value} {w1 : va_W} {res : Option Value} {i ci N : Nat} {fs : List Value} {T : u_T} (q0 : Nat) (d : decode cc pc = .ok (.invokevirtual i, 3)) (hM : MT (x_l X) cA y cc' nL' ret' rm (.ref b :: As) ws (sB res w1))
    (h1 : Cond.methodLink own i y ∈ G) (h2 : Cond.instanceMethod y ∈ G) (h3 : Cond.selects y.cls y y ∈ G) (h4 : Cond.initialized y.cls ∈ G) (h5 : Cond.code y cc' nL' ret' ∈ G) (hd : okY y As.length) (hR : rm.frames + 1 ≤ fr ∧ 8 + (nL' + 11) + rm.locals ≤ lo) (hrc : k ≤ (x_R X).cells ∧ n ≤ (x_R X).slots) (hz : rm.cells = 0 ∧ rm.slots = 0)
    (hq0 : ws[q0]? = some (oB b ci fs)) (hc : vwCl[ci]? = some (y.cls, T, N)) (hst : st = As.reverse ++ .ref b :: rest) (hsum : (rest.map fun v => v.category).sum ≤ 8) (hle : ws.length = w1.length) {st' : List Value} (hst' : res.toList ++ rest = st')
    (K : Go X nL k n (pc + 3) w1 lv st') : Go X nL k n pc ws lv st := by
  refine g_callP C pc (List.range ws.length) q0 d hM h1 h2 h3 h4 h5 hd hR hrc hz hq0 hc (all_C ws) (all_nd _) hst hsum (by rw [List.length_range]; exact hle) (fun k q h => ?_) hst' K
  have hk : k < ws.length := by rw [hle]; exact (List.getElem?_eq_some_iff.mp h).1
  rw [putAt_at1 (List.range ws.length) w1 ws k k (by rw [List.length_range]; exact Nat.le_of_eq hle) (all_nd _) (List.getElem?_range hk) hk]
  exact h
end GF
