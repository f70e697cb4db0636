/-- only the last bag hangs nowhere -/
def RtA (bs : Int32) (ups : Nat → Int32) : Prop := ∀ b, b ≤ 14 → bs = nI b → ∀ i, i < b → ups i = -1 → i + 1 = b
theorem fresh_n {n q b : Nat} {B Ms par : Nat → Nat} {near0 masks fo : Nat → Int32} {tq : Int32} (N : NetN n B near0) (M : MsA n b Ms masks) (h5 : ∀ i, i < b → pcN (Ms i) ≤ 5) (hp : ∀ i, i < b → i < par i) (hS : Snd n b B Ms par) (F : FoA q tq fo) (ps : Int32) (knots oth oc sc us fe fc places bm : Nat → Int32) (gl ge : Int32) (gn : Nat → Int32) (top : Nat → Int32) : ∃ kn pl O U knots' oth' oc' sc' us' fe' fc' r1 r2 r3 r4 r5 op', f_X8_freshTally (nI n) near0 (nI b) masks tq fo ps knots oth oc sc us fe fc places bm gl ge gn top = some (nI n, knots', oth', oc', sc', us', fe', fc', r1, r2, r3, r4, r5, op') ∧ PlD n B kn pl O U ∧ PlA n kn O U knots' oth' oc' sc' us' fe' fc' ∧ ∀ i, i < n → op' i = nI (wF q fo i) := by
  obtain ⟨kn, pl, O, U, knots', oth', oc', sc', us', fe', fc', ⟨r1, r2, r3, r4, r5⟩, l1, l2, l3⟩ := lay_n N M h5 hp hS ps knots oth oc sc us fe fc places bm gl ge gn
  obtain ⟨op', o1, o2⟩ := openAll_n N.1 F top
  refine ⟨kn, pl, O, U, knots', oth', oc', sc', us', fe', fc', r1, r2, r3, r4, r5, op', ?_, l2, l3, o2⟩
  unfold f_X8_freshTally J_X8_freshTally_30
  rw [cal_e l1, cal_e o1]
theorem ref_n {n b : Nat} {B Ms par : Nat → Nat} {near0 bag up : Nat → Int32} (A : AskN n b B Ms par near0 bag up) (hr : ∀ i, i < b → (par i = b ↔ i + 1 = b)) (hS : Snd n b B Ms par) {a1 : Int32} {sg : Int} (hs : Sg a1 sg) {tq : Int32} {wt ed fa pf fo mn : Nat → Int32} (L : LwB wt ed fa pf) {fx : Nat → Int32} {op : Nat → Nat → Bool} (hop : MayB n tq fo fx op) (ac ab am : Int64) (st : Nat → Int32) (tc tbs tm : Nat → Int64) : ∃ c' b' m' r, f_X9_ask a1 (nI n) (nI b) tq ac ab am wt near0 ed bag up fa pf fo mn fx st tc tbs tm = some (c', b', m', r) ∧ Cel sg c' b' m' (ALL n B op wt ed fa pf mn sg) ∧ vB (4 ^ 14) 29400000 (ALL n B op wt ed fa pf mn sg) := by
  obtain ⟨c', b', m', r, r1, r2, r3⟩ := ask_n A hr hS hs tq L fo mn fx hop ac ab am st tc tbs tm
  rw [ALL_m hS] at r2 r3
  exact ⟨c', b', m', r, r1, r2, r3⟩
/-- what may be asked: both sides ready -/
theorem ready {n q : Nat} {B : Nat → Nat} {near0 : Nat → Int32} (N : NetN n B near0) {bs tb tq : Int32} {masks ups bag up fo wt ed fa pf mn : Nat → Int32} (T : BagT n bs tb masks ups bag up) (R : RtA bs ups) (F : FoA q tq fo) (L : LwB wt ed fa pf) (Y : Sy n B ed pf mn) : (f_X8_canAsk (nI n) near0 bs masks ups = some 0 ∧ f_X9_isAsked (nI n) tb near0 bag up = some 0) ∨ (f_X8_canAsk (nI n) near0 bs masks ups = some 1 ∧ f_X9_isAsked (nI n) tb near0 bag up = some 1 ∧ (∀ (ps : Int32) (knots oth oc sc us fe fc places bm : Nat → Int32) (gl ge : Int32) (gn : Nat → Int32) top, ∃ kn pl O U knots' oth' oc' sc' us' fe' fc' r1 r2 r3 r4 r5 op', f_X8_freshTally (nI n) near0 bs masks tq fo ps knots oth oc sc us fe fc places bm gl ge gn top = some (nI n, knots', oth', oc', sc', us', fe', fc', r1, r2, r3, r4, r5, op') ∧ PlD n B kn pl O U ∧ PlA n kn O U knots' oth' oc' sc' us' fe' fc' ∧ ∀ i, i < n → op' i = nI (wF q fo i)) ∧ ∀ a1 sg, Sg a1 sg → ∀ fx op, MayB n tq fo fx op → ∀ ac ab am st tc tbs tm, ∃ c' b' m' r, f_X9_ask a1 (nI n) tb tq ac ab am wt near0 ed bag up fa pf fo mn fx st tc tbs tm = some (c', b', m', r) ∧ Cel sg c' b' m' (ALL n B op wt ed fa pf mn sg) ∧ vB (4 ^ 14) 29400000 (ALL n B op wt ed fa pf mn sg)) := by
  rcases can_rel N T with h | ⟨h1, h2, b, rfl, rfl, rfl, rfl, b0, b14, hM, hU, hS⟩
  · exact Or.inl h
  · right
    refine ⟨h1, h2, fun ps knots oth oc sc us fe fc places bm gl ge gn top => ?_, fun a1 sg hs fx op hop ac ab am st tc tbs tm => ?_⟩
    · exact fresh_n N ⟨b14, fun i hi => ⟨(hM i hi).1, (hM i hi).2.1⟩⟩ (fun i hi => (hM i hi).2.2) (fun i hi => by rcases hU i hi with ⟨_, z, _⟩ | ⟨_, z⟩ <;> omega) hS F ps knots oth oc sc us fe fc places bm gl ge gn top
    · refine ref_n ⟨N, b0, b14, hM, hU⟩ (fun i hi => ?_) hS hs L hop ac ab am st tc tbs tm
      constructor
      · intro e
        rcases hU i hi with ⟨_, _, z⟩ | ⟨z, _⟩
        · omega
        · exact R b b14 rfl i hi z
      · intro e
        rcases hU i hi with ⟨_, z1, z2⟩ | ⟨_, z⟩
        · omega
        · exact z
theorem may_free {n q : Nat} (hn : n ≤ 14) {tq : Int32} {fo fx : Nat → Int32} (F : FoA q tq fo) (h : ∀ i, i < 14 → fx i = -1) : MayB n tq fo fx (opF q (wF q fo)) := fun k s hk hs => (may_n F (by omega) hs).1 (h k (by omega))
theorem ways_rel {n q : Nat} {B : Nat → Nat} {near0 : Nat → Int32} (N : NetN n B near0) {bs tb tq : Int32} {masks ups bag up fo wt ed fa pf mn : Nat → Int32} (T : BagT n bs tb masks ups bag up) (R : RtA bs ups) (F : FoA q tq fo) (L : LwB wt ed fa pf) (Y : Sy n B ed pf mn) (ps : Int32) (knots oth oc sc us fe fc places bm : Nat → Int32) (gl ge : Int32) (gn : Nat → Int32) (tsum tmany tsign tch tps : Int32) (top ost ocn picks str su co : Nat → Int32) (ac ab am : Int64) (fx st : Nat → Int32) (tc tbs tm : Nat → Int64) : Rel (f_X8_ways (nI n) wt near0 ed bs masks ups tq fa pf mn fo ps knots oth oc sc us fe fc places bm gl ge gn tsum tmany tsign tch tps top ost ocn picks str su co) (f_X9_ways (nI n) tb tq ac ab am wt near0 ed bag up fa pf fo mn fx st tc tbs tm) (fun x m => m.1 = x.1) := by
  have hn := N.1
  unfold f_X8_ways f_X9_ways
  rcases ready N T R F L Y with ⟨h1, h2⟩ | ⟨h1, h2, h3, h4⟩
  · exact rl (cal_e h1) (rr (cal_e h2) (rl (if_pos rfl) (rr (if_pos rfl) (rel_some rfl))))
  · obtain ⟨kn, pl, O, U, knots', oth', oc', sc', us', fe', fc', r1, r2, r3, r4, r5, op', p1, p2, p3, p4⟩ := h3 ps knots oth oc sc us fe fc places bm gl ge gn top
    obtain ⟨fx', f1, f2⟩ := free_n fx
    obtain ⟨c', b', m', r, a1, a2, a3⟩ := h4 1 1 (Or.inr ⟨by decide, rfl⟩) fx' _ (may_free hn F f2) ac ab am st tc tbs tm
    obtain ⟨rfl, q1, q4, _⟩ := id F
    obtain ⟨s1, s2, s3, s4, s5, s6, s7, s8, s9, t1, t2, -, -⟩ := sweep_n N q4 p2 p3 (w := wF q fo) (op := op') (fun k hk => ⟨p4 k hk, wF_lt q4 fo k⟩) L Y (zs := 0) (z := 0) (by decide) rfl tsum tmany tsign tch tps ost ocn picks str su co
    refine rl (cal_e h1) (rr (cal_e h2) (rl (if_neg n10) (rr (if_neg n10) (rl (cal_e p1) (rr (cal_e f1) (rr (cal_e a1) ?_))))))
    unfold J_X8_ways_15
    refine rl (cal_e t1) (rel_some ?_)
    exact (cnt_eq t2 a2 a3).symm
theorem best_rel {n q : Nat} {B : Nat → Nat} {near0 : Nat → Int32} (N : NetN n B near0) {bs tb tq : Int32} {masks ups bag up fo wt ed fa pf mn : Nat → Int32} (T : BagT n bs tb masks ups bag up) (R : RtA bs ups) (F : FoA q tq fo) (L : LwB wt ed fa pf) (Y : Sy n B ed pf mn) {a1 : Int32} (ha : a1 = 0 ∨ a1 = 1) (ps : Int32) (knots oth oc sc us fe fc places bm : Nat → Int32) (gl ge : Int32) (gn : Nat → Int32) (tsum tmany tsign tch tps : Int32) (top ost ocn picks str su co : Nat → Int32) (ac ab am : Int64) (fx st : Nat → Int32) (tc tbs tm : Nat → Int64) : Rel (f_X8_best a1 (nI n) wt near0 ed bs masks ups tq fa pf mn fo ps knots oth oc sc us fe fc places bm gl ge gn tsum tmany tsign tch tps top ost ocn picks str su co) (f_X9_best a1 (nI n) tb tq ac ab am wt near0 ed bag up fa pf fo mn fx st tc tbs tm) (fun x m => m.1 = x.1) := by
  have hn := N.1
  unfold f_X8_best f_X9_best
  rcases ready N T R F L Y with ⟨h1, h2⟩ | ⟨h1, h2, h3, h4⟩
  · exact rl (cal_e h1) (rr (cal_e h2) (rl (if_pos rfl) (rr (if_pos rfl) (rel_some rfl))))
  · obtain ⟨kn, pl, O, U, knots', oth', oc', sc', us', fe', fc', r1, r2, r3, r4, r5, op', p1, p2, p3, p4⟩ := h3 ps knots oth oc sc us fe fc places bm gl ge gn top
    obtain ⟨fx', f1, f2⟩ := free_n fx
    obtain ⟨sg, hs, hsg, hso⟩ : ∃ sg, Sg a1 sg ∧ (sg = 1 ∨ sg = -1) ∧ f_X8_signOf a1 = some (Int32.ofInt sg) := by
      rcases ha with h | h <;> subst h
      · exact ⟨-1, Or.inl ⟨rfl, rfl⟩, Or.inr rfl, rfl⟩
      · exact ⟨1, Or.inr ⟨by decide, rfl⟩, Or.inl rfl, rfl⟩
    obtain ⟨c', b', m', r, a2, a3, a4⟩ := h4 a1 sg hs fx' _ (may_free hn F f2) ac ab am st tc tbs tm
    obtain ⟨rfl, q1, q4, _⟩ := id F
    obtain ⟨s1, s2, s3, s4, s5, s6, s7, s8, s9, t1, t2, -, -⟩ := sweep_n N q4 p2 p3 (w := wF q fo) (op := op') (fun k hk => ⟨p4 k hk, wF_lt q4 fo k⟩) L Y (zs := Int32.ofInt sg) (z := sg) (by omega) rfl tsum tmany tsign tch tps ost ocn picks str su co
    refine rl (cal_e h1) (rr (cal_e h2) (rl (if_neg n10) (rr (if_neg n10) (rl (cal_e p1) (rr (cal_e f1) (rr (cal_e a2) ?_))))))
    unfold J_X8_best_15
    refine rl (cal_e hso) (rl (cal_e t1) ?_)
    rcases mx_eq hsg t2 a3 a4 with ⟨e1, e2⟩ | ⟨e1, e2, e3, e4⟩
    · exact rl (if_pos e1) (rr (if_pos e2) (rel_some rfl))
    · refine rl (if_neg e1) (rr (if_neg e2) ?_)
      exact rl (cal_e hso) (rel_some e3.symm)
theorem bests_rel {n q : Nat} {B : Nat → Nat} {near0 : Nat → Int32} (N : NetN n B near0) {bs tb tq : Int32} {masks ups bag up fo wt ed fa pf mn : Nat → Int32} (T : BagT n bs tb masks ups bag up) (R : RtA bs ups) (F : FoA q tq fo) (L : LwB wt ed fa pf) (Y : Sy n B ed pf mn) {a1 : Int32} (ha : a1 = 0 ∨ a1 = 1) (ps : Int32) (knots oth oc sc us fe fc places bm : Nat → Int32) (gl ge : Int32) (gn : Nat → Int32) (tsum tmany tsign tch tps : Int32) (top ost ocn picks str su co : Nat → Int32) (ac ab am : Int64) (fx st : Nat → Int32) (tc tbs tm : Nat → Int64) : Rel (f_X8_bests a1 (nI n) wt near0 ed bs masks ups tq fa pf mn fo ps knots oth oc sc us fe fc places bm gl ge gn tsum tmany tsign tch tps top ost ocn picks str su co) (f_X9_bests a1 (nI n) tb tq ac ab am wt near0 ed bag up fa pf fo mn fx st tc tbs tm) (fun x m => m.1 = x.1) := by
  have hn := N.1
  unfold f_X8_bests f_X9_bests
  rcases ready N T R F L Y with ⟨h1, h2⟩ | ⟨h1, h2, h3, h4⟩
  · exact rl (cal_e h1) (rr (cal_e h2) (rl (if_pos rfl) (rr (if_pos rfl) (rel_some rfl))))
  · obtain ⟨kn, pl, O, U, knots', oth', oc', sc', us', fe', fc', r1, r2, r3, r4, r5, op', p1, p2, p3, p4⟩ := h3 ps knots oth oc sc us fe fc places bm gl ge gn top
    obtain ⟨fx', f1, f2⟩ := free_n fx
    obtain ⟨sg, hs, hsg, hso⟩ : ∃ sg, Sg a1 sg ∧ (sg = 1 ∨ sg = -1) ∧ f_X8_signOf a1 = some (Int32.ofInt sg) := by
      rcases ha with h | h <;> subst h
      · exact ⟨-1, Or.inl ⟨rfl, rfl⟩, Or.inr rfl, rfl⟩
      · exact ⟨1, Or.inr ⟨by decide, rfl⟩, Or.inl rfl, rfl⟩
    obtain ⟨c', b', m', r, a2, a3, a4⟩ := h4 a1 sg hs fx' _ (may_free hn F f2) ac ab am st tc tbs tm
    obtain ⟨rfl, q1, q4, _⟩ := id F
    obtain ⟨s1, s2, s3, s4, s5, s6, s7, s8, s9, t1, t2, -, -⟩ := sweep_n N q4 p2 p3 (w := wF q fo) (op := op') (fun k hk => ⟨p4 k hk, wF_lt q4 fo k⟩) L Y (zs := Int32.ofInt sg) (z := sg) (by omega) rfl tsum tmany tsign tch tps ost ocn picks str su co
    refine rl (cal_e h1) (rr (cal_e h2) (rl (if_neg n10) (rr (if_neg n10) (rl (cal_e p1) (rr (cal_e f1) (rr (cal_e a2) ?_))))))
    unfold J_X8_bests_15
    refine rl (cal_e hso) (rl (cal_e t1) ?_)
    rcases mx_eq hsg t2 a3 a4 with ⟨e1, e2⟩ | ⟨e1, e2, e3, e4⟩
    · exact rl (if_pos e1) (rr (if_pos e2) (rel_some rfl))
    · refine rl (if_neg e1) (rr (if_neg e2) ?_)
      exact rel_some e4.symm
theorem fix_op {q : Nat} (hq : q ≤ 4) (fo : Nat → Int32) {k t : Nat} (j s : Nat) (hs : s < 4) : opF q (fun i => if i = k then wF q fo k &&& 2 ^ t else wF q fo i) j s = (opF q (wF q fo) j s && (decide (j ≠ k) || decide (s = t))) := by
  show (decide (s < q) && (if j = k then wF q fo k &&& 2 ^ t else wF q fo j).testBit s) = (decide (s < q) && (wF q fo j).testBit s && (decide (j ≠ k) || decide (s = t)))
  by_cases e : j = k
  · rw [if_pos e, Nat.testBit_and, Nat.testBit_two_pow, decide_eq_false (show ¬(j ≠ k) from fun z => z e), Bool.false_or, e, Bool.and_assoc]
    congr 2
    rw [Bool.eq_iff_iff, decide_eq_true_eq, decide_eq_true_eq]
    exact eq_comm
  · rw [if_neg e, decide_eq_true (show j ≠ k from e), Bool.true_or, Bool.and_true]
theorem share_rel {n q : Nat} {B : Nat → Nat} {near0 : Nat → Int32} (N : NetN n B near0) {bs tb tq : Int32} {masks ups bag up fo wt ed fa pf mn : Nat → Int32} (T : BagT n bs tb masks ups bag up) (R : RtA bs ups) (F : FoA q tq fo) (L : LwB wt ed fa pf) (Y : Sy n B ed pf mn) (a1 a2 : Int32) (ps : Int32) (knots oth oc sc us fe fc places bm : Nat → Int32) (gl ge : Int32) (gn : Nat → Int32) (tsum tmany tsign tch tps : Int32) (top ost ocn picks str su co : Nat → Int32) (ac ab am : Int64) (fx st : Nat → Int32) (tc tbs tm : Nat → Int64) : Rel (f_X8_share a1 a2 (nI n) wt near0 ed bs masks ups tq fa pf mn fo ps knots oth oc sc us fe fc places bm gl ge gn tsum tmany tsign tch tps top ost ocn picks str su co) (f_X9_share a1 a2 (nI n) tb tq ac ab am wt near0 ed bag up fa pf fo mn fx st tc tbs tm) (fun x m => m.1 = x.1) := by
  have hn := N.1
  unfold f_X8_share f_X9_share
  rcases ready N T R F L Y with ⟨h1, h2⟩ | ⟨h1, h2, h3, h4⟩
  · exact rl (cal_e h1) (rr (cal_e h2) (rl (if_pos rfl) (rr (if_pos rfl) (rel_some rfl))))
  · refine rl (cal_e h1) (rr (cal_e h2) (rl (if_neg n10) (rr (if_neg n10) ?_)))
    rcases has_n hn a1 with z | ⟨k, k1, rfl, z⟩
    · exact rl (cal_e z) (rr (cal_e (show f_X9_isKnot a1 (nI n) = some 0 from z)) (rl (if_pos rfl) (rr (if_pos rfl) (rel_some rfl))))
    · refine rl (cal_e z) (rr (cal_e (show f_X9_isKnot (nI k) (nI n) = some 1 from z)) (rl (if_neg n10) (rr (if_neg n10) ?_)))
      obtain ⟨rfl, q1, q4, _⟩ := id F
      rcases has_n (show q ≤ 14 by omega) a2 with y | ⟨t, t1, rfl, y⟩
      · exact rl (cal_e (show f_X3_has a2 (nI q) = some 0 from y)) (rr (cal_e (show f_X9_isState a2 (nI q) = some 0 from y)) (rl (if_pos rfl) (rr (if_pos rfl) (rel_some rfl))))
      · refine rl (cal_e (show f_X3_has (nI t) (nI q) = some 1 from y)) (rr (cal_e (show f_X9_isState (nI t) (nI q) = some 1 from y)) (rl (if_neg n10) (rr (if_neg n10) ?_)))
        obtain ⟨kn, pl, O, U, knots', oth', oc', sc', us', fe', fc', r1, r2, r3, r4, r5, op', p1, p2, p3, p4⟩ := h3 ps knots oth oc sc us fe fc places bm gl ge gn top
        obtain ⟨fx', f1, f2⟩ := free_n fx
        have hmay : MayB n (nI q) fo (upd fx' k (nI t)) (opF q (fun i => if i = k then wF q fo k &&& 2 ^ t else wF q fo i)) := by
          intro j s hj hs
          rw [fix_op q4 fo j s hs]
          by_cases e : j = k
          · subst e
            rw [decide_eq_false (show ¬(j ≠ j) from fun z => z rfl), Bool.false_or]
            exact (may_n F (by omega) hs).2 t (by omega) up_e
          · rw [decide_eq_true (show j ≠ k from e), Bool.true_or, Bool.and_true]
            exact (may_n F (by omega) hs).1 (by rw [up_n e]; exact f2 j (by omega))
        obtain ⟨c', b', m', r, a3, a4, a5⟩ := h4 1 1 (Or.inr ⟨by decide, rfl⟩) (upd fx' k (nI t)) _ hmay ac ab am st tc tbs tm
        have w16 : wF q fo k &&& 2 ^ t < 16 := Nat.lt_of_le_of_lt Nat.and_le_left (wF_lt q4 fo k)
        obtain ⟨s1, s2, s3, s4, s5, s6, s7, s8, s9, y1, y2, -, -⟩ := sweep_n N q4 p2 p3 (w := fun i => if i = k then wF q fo k &&& 2 ^ t else wF q fo i) (op := upd op' k (nI (wF q fo k &&& 2 ^ t))) (fun i hi => by
          show upd op' k (nI (wF q fo k &&& 2 ^ t)) i = nI (if i = k then wF q fo k &&& 2 ^ t else wF q fo i) ∧ (if i = k then wF q fo k &&& 2 ^ t else wF q fo i) < 16
          by_cases e : i = k
          · rw [if_pos e, e, up_e]; exact ⟨rfl, w16⟩
          · rw [if_neg e, up_n e]; exact ⟨p4 i hi, wF_lt q4 fo i⟩) L Y (zs := 0) (z := 0) (by decide) rfl tsum tmany tsign tch tps ost ocn picks str su co
        refine rl (cal_e p1) (rr (cal_e f1) (rr (sI_ok _ (in14 (by omega))) ?_))
        rw [cl14 (by omega)]
        refine rr (cal_e a3) ?_
        unfold J_X8_share_37
        refine rl (ld_ok _ (in14 (by omega))) (rl (sI_ok _ (in14 (by omega))) ?_)
        dsimp only
        rw [cl14 (by omega), p4 k k1, nx_bit1 t (by omega), nx_and]
        refine rl (cal_e y1) (rel_some ?_)
        exact (cnt_eq y2 a4 a5).symm
theorem cal_i {α β : Type} {o : Option α} {k : α → Option β} {y : β} (h : cal o k = some y) : ∃ r, o = some r ∧ k r = some y := by
  cases o with
  | none => cases h
  | some r => exact ⟨r, rfl, h⟩
theorem ld_i {α β : Type} {f : Nat → α} {n : Nat} {i : Int32} {k : α → Option β} {y : β} (h : ldA f n i k = some y) : okI i n ∧ k (f i.toNatClampNeg) = some y := by
  by_cases c : okI i n
  · rw [ld_ok _ c] at h; exact ⟨c, h⟩
  · unfold ldA at h; rw [if_neg c] at h; cases h
theorem st_i {β : Type} {f : Nat → Int32} {n : Nat} {i x : Int32} {k : (Nat → Int32) → Option β} {y : β} (h : stI f n i x k = some y) : okI i n ∧ k (upd f i.toNatClampNeg x) = some y := by
  by_cases c : okI i n
  · rw [sI_ok _ c] at h; exact ⟨c, h⟩
  · unfold stI at h; rw [if_neg c] at h; cases h
theorem sz_i {β : Type} {f : Nat → Int32} {n : Nat} {i x : Int32} {k : (Nat → Int32) → Option β} {y : β} (h : stZ f n i x k = some y) : okI i n ∧ k (upd f i.toNatClampNeg (vp_nar .boolean x)) = some y := by
  by_cases c : okI i n
  · rw [sZ_ok _ c] at h; exact ⟨c, h⟩
  · unfold stZ at h; rw [if_neg c] at h; cases h
/-- what the law's numbers are like -/
def X4F (wt ed fa pf mn fo : Nat → Int32) (bs : Int32) (ups : Nat → Int32) : Prop := LwB wt ed fa pf ∧ (∀ i, 0 ≤ (fo i).toInt ∧ (fo i).toInt ≤ 15) ∧ (∀ k j, k < 14 → j < 14 → ed (14 * k + j) = ed (14 * j + k)) ∧ (∀ s t, s < 4 → t < 4 → pf (4 * s + t) = pf (4 * t + s)) ∧ (∀ s t, s < 4 → t < 4 → mn (4 * s + t) = mn (4 * t + s)) ∧ RtA bs ups
theorem bd_u {f : Nat → Int32} {P : Int32 → Prop} (h : ∀ i, P (f i)) {k : Nat} {x : Int32} (hx : P x) : ∀ i, P (upd f k x i) := fun i => by
  by_cases e : i = k
  · rw [e, up_e]; exact hx
  · rw [up_n e]; exact h i
theorem sy14 {f : Nat → Int32} (h : ∀ k j, k < 14 → j < 14 → f (14 * k + j) = f (14 * j + k)) {a b : Nat} (ha : a < 14) (hb : b < 14) (x : Int32) : ∀ k j, k < 14 → j < 14 → upd (upd f (14 * a + b) x) (14 * b + a) x (14 * k + j) = upd (upd f (14 * a + b) x) (14 * b + a) x (14 * j + k) := by
  intro k j hk hj
  by_cases e1 : k = b ∧ j = a
  · obtain ⟨rfl, rfl⟩ := e1
    rw [up_e]
    by_cases e3 : 14 * j + k = 14 * k + j
    · rw [e3, up_e]
    · rw [up_n e3, up_e]
  · by_cases e2 : k = a ∧ j = b
    · obtain ⟨rfl, rfl⟩ := e2
      rw [up_n (f := upd f (14 * k + j) x) (by omega), up_e, up_e]
    · rw [up_n (by omega), up_n (by omega), up_n (by omega), up_n (by omega)]
      exact h k j hk hj
theorem sy4 {f : Nat → Int32} (h : ∀ k j, k < 4 → j < 4 → f (4 * k + j) = f (4 * j + k)) {a b : Nat} (ha : a < 4) (hb : b < 4) (x : Int32) : ∀ k j, k < 4 → j < 4 → upd (upd f (4 * a + b) x) (4 * b + a) x (4 * k + j) = upd (upd f (4 * a + b) x) (4 * b + a) x (4 * j + k) := by
  intro k j hk hj
  by_cases e1 : k = b ∧ j = a
  · obtain ⟨rfl, rfl⟩ := e1
    rw [up_e]
    by_cases e3 : 4 * j + k = 4 * k + j
    · rw [e3, up_e]
    · rw [up_n e3, up_e]
  · by_cases e2 : k = a ∧ j = b
    · obtain ⟨rfl, rfl⟩ := e2
      rw [up_n (f := upd f (4 * k + j) x) (by omega), up_e, up_e]
    · rw [up_n (by omega), up_n (by omega), up_n (by omega), up_n (by omega)]
      exact h k j hk hj
theorem wgt_i {a u : Int32} (h : f_X8_isWeight a = some u) (hu : ¬u = 0) : a.toInt.natAbs ≤ 1000 := by
  unfold f_X8_isWeight at h
  by_cases c : a < 0
  · rw [if_pos c] at h; exact absurd (Option.some.inj h).symm hu
  · rw [if_neg c] at h
    by_cases d : (1000 : Int32) < a
    · rw [if_pos d] at h; exact absurd (Option.some.inj h).symm hu
    · have h1 := nlt c
      have h2 := nlt d
      have l0 : (0 : Int32).toInt = 0 := rfl
      have l1 : (1000 : Int32).toInt = 1000 := rfl
      omega
theorem fac_i {a u : Int32} (h : f_X8_isFactor a = some u) (hu : ¬u = 0) : a.toInt.natAbs ≤ 10 := by
  unfold f_X8_isFactor at h
  by_cases c : a < (-10 : Int32)
  · rw [if_pos c] at h; exact absurd (Option.some.inj h).symm hu
  · rw [if_neg c] at h
    by_cases d : (10 : Int32) < a
    · rw [if_pos d] at h; exact absurd (Option.some.inj h).symm hu
    · have h1 := nlt c
      have h2 := nlt d
      have l0 : (-10 : Int32).toInt = -10 := rfl
      have l1 : (10 : Int32).toInt = 10 := rfl
      omega
theorem knot_4 {a s os oh bs : Int32} {w : Nat → Int32} {r : Int32 × Int32 × (Nat → Int32) × Int32 × Int32 × Int32} (h : f_X8_knot a s w os oh bs = some r) (hw : ∀ i, (w i).toInt.natAbs ≤ 1000) : (∀ i, (r.2.2.1 i).toInt.natAbs ≤ 1000) ∧ (r.2.2.2.2.2 = bs ∨ r.2.2.2.2.2 = 0) := by
  unfold f_X8_knot at h
  obtain ⟨u, h1, h⟩ := cal_i h
  by_cases c : u = 0
  · rw [if_pos c] at h; cases h; exact ⟨hw, Or.inl rfl⟩
  · rw [if_neg c] at h
    by_cases d : s < (14 : Int32)
    · rw [if_pos d] at h
      obtain ⟨u2, h2, h⟩ := cal_i h
      obtain ⟨u3, h3, h⟩ := cal_i h
      obtain ⟨u4, h4, h⟩ := cal_i h
      cases h
      unfold f_X4_addKnot at h4
      obtain ⟨_, h4⟩ := st_i h4
      rw [bnd_s] at h4
      cases h4
      unfold f_X0_empty at h3
      rw [bnd_s] at h3
      cases h3
      exact ⟨bd_u (P := fun x => x.toInt.natAbs ≤ 1000) hw (wgt_i h1 c), Or.inr rfl⟩
    · rw [if_neg d] at h; cases h; exact ⟨hw, Or.inl rfl⟩
theorem weigh_4 {a b s : Int32} {w : Nat → Int32} {r : Int32 × (Nat → Int32)} (h : f_X8_weigh a b s w = some r) (hw : ∀ i, (w i).toInt.natAbs ≤ 1000) : ∀ i, (r.2 i).toInt.natAbs ≤ 1000 := by
  unfold f_X8_weigh at h
  obtain ⟨u, h1, h⟩ := cal_i h
  by_cases c : u = 0
  · rw [if_pos c] at h; cases h; exact hw
  · rw [if_neg c] at h
    obtain ⟨u2, h2, h⟩ := cal_i h
    by_cases d : u2 = 0
    · rw [if_pos d] at h; cases h; exact hw
    · rw [if_neg d] at h
      obtain ⟨_, h⟩ := ld_i h
      rw [bnd_s] at h
      obtain ⟨_, h⟩ := st_i h
      cases h
      exact bd_u (P := fun x => x.toInt.natAbs ≤ 1000) hw (wgt_i h2 d)
theorem factor_4 {a b s : Int32} {w : Nat → Int32} {r : Int32 × (Nat → Int32)} (h : f_X8_factor a b s w = some r) (hw : ∀ i, (w i).toInt.natAbs ≤ 10) : ∀ i, (r.2 i).toInt.natAbs ≤ 10 := by
  unfold f_X8_factor at h
  obtain ⟨u, h1, h⟩ := cal_i h
  by_cases c : u = 0
  · rw [if_pos c] at h; cases h; exact hw
  · rw [if_neg c] at h
    obtain ⟨u2, h2, h⟩ := cal_i h
    by_cases d : u2 = 0
    · rw [if_pos d] at h; cases h; exact hw
    · rw [if_neg d] at h
      obtain ⟨_, h⟩ := ld_i h
      rw [bnd_s] at h
      obtain ⟨_, h⟩ := st_i h
      cases h
      exact bd_u (P := fun x => x.toInt.natAbs ≤ 10) hw (fac_i h2 d)
theorem forbid_4 {a b s : Int32} {w : Nat → Int32} {r : Int32 × (Nat → Int32)} (h : f_X8_forbid a b s w = some r) (hw : ∀ i, 0 ≤ (w i).toInt ∧ (w i).toInt ≤ 15) : ∀ i, 0 ≤ (r.2 i).toInt ∧ (r.2 i).toInt ≤ 15 := by
  unfold f_X8_forbid at h
  obtain ⟨u, h1, h⟩ := cal_i h
  by_cases c : u = 0
  · rw [if_pos c] at h; cases h; exact hw
  · rw [if_neg c] at h
    by_cases d : b < 0
    · rw [if_pos d] at h; cases h; exact hw
    · rw [if_neg d] at h
      by_cases e : b ≤ (15 : Int32)
      · rw [if_pos e] at h
        obtain ⟨_, h⟩ := ld_i h
        rw [bnd_s] at h
        obtain ⟨_, h⟩ := st_i h
        cases h
        refine bd_u (P := fun x => 0 ≤ x.toInt ∧ x.toInt ≤ 15) hw ?_
        have h1 := nlt d
        have h2 := ple e
        have l0 : (0 : Int32).toInt = 0 := rfl
        have l1 : (15 : Int32).toInt = 15 := rfl
        exact ⟨by omega, by omega⟩
      · rw [if_neg e] at h; cases h; exact hw
theorem edge_4 {n : Nat} (hn : n ≤ 14) {a b c e : Int32} {near ed : Nat → Int32} {r : Int32 × Int32 × (Nat → Int32) × (Nat → Int32)} (h : f_X8_edge a b c (nI n) e near ed = some r) (hw : ∀ i, (ed i).toInt.natAbs ≤ 1000) (hs : ∀ k j, k < 14 → j < 14 → ed (14 * k + j) = ed (14 * j + k)) : (∀ i, (r.2.2.2 i).toInt.natAbs ≤ 1000) ∧ ∀ k j, k < 14 → j < 14 → r.2.2.2 (14 * k + j) = r.2.2.2 (14 * j + k) := by
  unfold f_X8_edge at h
  rcases has_n hn a with z | ⟨k, k1, rfl, z⟩
  · rw [cal_e z, if_pos rfl] at h; cases h; exact ⟨hw, hs⟩
  · rw [cal_e z, if_neg n10] at h
    rcases has_n hn b with y | ⟨j, j1, rfl, y⟩
    · rw [cal_e y, if_pos rfl] at h; cases h; exact ⟨hw, hs⟩
    · rw [cal_e y, if_neg n10] at h
      by_cases q : nI k = nI j
      · rw [if_pos q] at h; cases h; exact ⟨hw, hs⟩
      · rw [if_neg q] at h
        obtain ⟨u3, h3, h⟩ := cal_i h
        by_cases d : u3 = 0
        · rw [if_pos d] at h; cases h; exact ⟨hw, hs⟩
        · rw [if_neg d] at h
          obtain ⟨u4, h4, h⟩ := cal_i h
          have key : u4.2.2.2 = upd (upd ed (14 * k + j) c) (14 * j + k) c := by
            have j35 : ∀ (x4 e : Int32) (y : Int32 × Int32 × (Nat → Int32) × (Nat → Int32)), J_X4_join_35 (nI k) (nI j) c x4 e near ed = some y → y.2.2.2 = upd (upd ed (14 * k + j) c) (14 * j + k) c := by
              intro x4 e y hy
              unfold J_X4_join_35 at hy
              obtain ⟨_, hy⟩ := ld_i hy
              obtain ⟨_, hy⟩ := st_i hy
              obtain ⟨_, hy⟩ := ld_i hy
              obtain ⟨_, hy⟩ := st_i hy
              obtain ⟨_, hy⟩ := st_i hy
              obtain ⟨_, hy⟩ := st_i hy
              rw [nx_s14, nx_s14, nI_clamp (n := 14 * k + j) (by omega), nI_clamp (n := 14 * j + k) (by omega)] at hy
              by_cases w : x4 = 0 ∨ x4 = 1
              · rw [chk_ok w] at hy
                cases hy; rfl
              · unfold chk at hy
                rw [if_neg w] at hy
                cases hy
            have j18 : ∀ (x e : Int32) (y : Int32 × Int32 × (Nat → Int32) × (Nat → Int32)), J_X4_join_18 (nI k) (nI j) c x e near ed = some y → y.2.2.2 = upd (upd ed (14 * k + j) c) (14 * j + k) c := by
              intro x e y hy
              unfold J_X4_join_18 at hy
              rw [bnd_s] at hy
              by_cases w : x = 0
              · rw [if_pos w] at hy; exact j35 _ _ _ hy
              · rw [if_neg w, bnd_s] at hy; exact j35 _ _ _ hy
            unfold f_X4_join at h4
            obtain ⟨_, h4⟩ := ld_i h4
            obtain ⟨u, _, h4⟩ := cal_i h4
            by_cases w : u = 0
            · rw [if_pos w] at h4; exact j18 _ _ _ h4
            · rw [if_neg w] at h4; exact j18 _ _ _ h4
          have er : r.2.2.2 = u4.2.2.2 := by
            by_cases w : u4.1 = 0
            · rw [if_pos w] at h; cases h; rfl
            · rw [if_neg w] at h; cases h; rfl
          rw [er, key]
          have hc := wgt_i h3 d
          exact ⟨bd_u (P := fun x => x.toInt.natAbs ≤ 1000) (bd_u (P := fun x => x.toInt.natAbs ≤ 1000) hw hc) hc, sy14 hs (by omega) (by omega) c⟩
theorem pair_4 {q : Nat} (hq : q ≤ 4) {a b c d : Int32} {pf mn : Nat → Int32} {r : Int32 × (Nat → Int32) × (Nat → Int32)} (h : f_X8_pair a b c d (nI q) pf mn = some r) (hw : ∀ i, (pf i).toInt.natAbs ≤ 10) (hs : ∀ s t, s < 4 → t < 4 → pf (4 * s + t) = pf (4 * t + s)) (hm : ∀ s t, s < 4 → t < 4 → mn (4 * s + t) = mn (4 * t + s)) : (∀ i, (r.2.1 i).toInt.natAbs ≤ 10) ∧ (∀ s t, s < 4 → t < 4 → r.2.1 (4 * s + t) = r.2.1 (4 * t + s)) ∧ ∀ s t, s < 4 → t < 4 → r.2.2 (4 * s + t) = r.2.2 (4 * t + s) := by
  have H : (∀ i, (pf i).toInt.natAbs ≤ 10) ∧ (∀ s t, s < 4 → t < 4 → pf (4 * s + t) = pf (4 * t + s)) ∧ ∀ s t, s < 4 → t < 4 → mn (4 * s + t) = mn (4 * t + s) := ⟨hw, hs, hm⟩
  unfold f_X8_pair at h
  rcases has_n (show q ≤ 14 by omega) a with z | ⟨k, k1, rfl, z⟩
  · rw [cal_e (show f_X3_has a (nI q) = some 0 from z), if_pos rfl] at h; cases h; exact H
  · rw [cal_e (show f_X3_has (nI k) (nI q) = some 1 from z), if_neg n10] at h
    rcases has_n (show q ≤ 14 by omega) b with y | ⟨j, j1, rfl, y⟩
    · rw [cal_e (show f_X3_has b (nI q) = some 0 from y), if_pos rfl] at h; cases h; exact H
    · rw [cal_e (show f_X3_has (nI j) (nI q) = some 1 from y), if_neg n10] at h
      by_cases c1 : c < 0
      · rw [if_pos c1] at h; cases h; exact H
      · rw [if_neg c1] at h
        by_cases c2 : (1 : Int32) < c
        · rw [if_pos c2] at h; cases h; exact H
        · rw [if_neg c2] at h
          obtain ⟨u3, h3, h⟩ := cal_i h
          by_cases c3 : u3 = 0
          · rw [if_pos c3] at h; cases h; exact H
          · rw [if_neg c3] at h
            have hd := fac_i h3 c3
            have sp : ∀ (x : Int32) (y : (Nat → Int32) × (Nat → Int32)), f_X3_setPair (nI k) (nI j) x d pf mn = some y → (∀ i, (y.1 i).toInt.natAbs ≤ 10) ∧ (∀ s t, s < 4 → t < 4 → y.1 (4 * s + t) = y.1 (4 * t + s)) ∧ ∀ s t, s < 4 → t < 4 → y.2 (4 * s + t) = y.2 (4 * t + s) := by
              intro x y hy
              unfold f_X3_setPair at hy
              obtain ⟨_, hy⟩ := st_i hy
              obtain ⟨_, hy⟩ := st_i hy
              obtain ⟨_, hy⟩ := sz_i hy
              obtain ⟨_, hy⟩ := sz_i hy
              rw [nx_s4, nx_s4, nI_clamp (n := 4 * k + j) (by omega), nI_clamp (n := 4 * j + k) (by omega)] at hy
              cases hy
              exact ⟨bd_u (P := fun x => x.toInt.natAbs ≤ 10) (bd_u (P := fun x => x.toInt.natAbs ≤ 10) hw hd) hd, sy4 hs (by omega) (by omega) d, sy4 hm (by omega) (by omega) _⟩
            have j80 : ∀ (x : Int32), J_X8_pair_80 (nI k) (nI j) c d (nI q) x pf mn = some r → (∀ i, (r.2.1 i).toInt.natAbs ≤ 10) ∧ (∀ s t, s < 4 → t < 4 → r.2.1 (4 * s + t) = r.2.1 (4 * t + s)) ∧ ∀ s t, s < 4 → t < 4 → r.2.2 (4 * s + t) = r.2.2 (4 * t + s) := by
              intro x hy
              unfold J_X8_pair_80 at hy
              rw [bnd_s] at hy
              by_cases w : c = 0
              · rw [if_pos w] at hy
                obtain ⟨u, hu, hy⟩ := cal_i hy
                cases hy; exact sp _ _ hu
              · rw [if_neg w] at hy
                obtain ⟨u, hu, hy⟩ := cal_i hy
                cases hy; exact sp _ _ hu
            obtain ⟨_, h⟩ := ld_i h
            by_cases w : mn (nI k * (4 : Int32) + nI j).toNatClampNeg = 0
            · rw [if_pos w] at h
              obtain ⟨_, h⟩ := ld_i h
              exact j80 _ h
            · rw [if_neg w] at h
              exact j80 _ h
theorem states_4 {a q : Int32} {fa pf mn fo : Nat → Int32} {r : Int32 × Int32 × (Nat → Int32) × (Nat → Int32) × (Nat → Int32) × (Nat → Int32)} (h : f_X8_states a q fa pf mn fo = some r) (hfa : ∀ i, (fa i).toInt.natAbs ≤ 10) (hpf : ∀ i, (pf i).toInt.natAbs ≤ 10) (hfo : ∀ i, 0 ≤ (fo i).toInt ∧ (fo i).toInt ≤ 15) (hs : ∀ s t, s < 4 → t < 4 → pf (4 * s + t) = pf (4 * t + s)) (hm : ∀ s t, s < 4 → t < 4 → mn (4 * s + t) = mn (4 * t + s)) : (∀ i, (r.2.2.1 i).toInt.natAbs ≤ 10) ∧ (∀ i, (r.2.2.2.1 i).toInt.natAbs ≤ 10) ∧ (∀ i, 0 ≤ (r.2.2.2.2.2 i).toInt ∧ (r.2.2.2.2.2 i).toInt ≤ 15) ∧ (∀ s t, s < 4 → t < 4 → r.2.2.2.1 (4 * s + t) = r.2.2.2.1 (4 * t + s)) ∧ ∀ s t, s < 4 → t < 4 → r.2.2.2.2.1 (4 * s + t) = r.2.2.2.2.1 (4 * t + s) := by
  have l62 : ∀ f x q' (fa pf mn fo : Nat → Int32) y, L_X3_startAgain_62 a f x q' fa pf mn fo = some y → (∀ i, 0 ≤ (fo i).toInt ∧ (fo i).toInt ≤ 15) → y.2.1 = fa ∧ y.2.2.1 = pf ∧ y.2.2.2.1 = mn ∧ ∀ i, 0 ≤ (y.2.2.2.2 i).toInt ∧ (y.2.2.2.2 i).toInt ≤ 15 := by
    intro f
    induction f with
    | zero => intro x q' fa pf mn fo y hy; cases hy
    | succ f ih =>
      intro x q' fa pf mn fo y hy hfo
      rw [L_X3_startAgain_62] at hy
      by_cases c : (14 : Int32) ≤ x
      · rw [if_pos c] at hy; cases hy; exact ⟨rfl, rfl, rfl, hfo⟩
      · rw [if_neg c] at hy
        obtain ⟨_, hy⟩ := st_i hy
        rw [bnd_s] at hy
        exact ih _ _ _ _ _ _ _ hy (bd_u (P := fun x => 0 ≤ x.toInt ∧ x.toInt ≤ 15) hfo ⟨by decide, by decide⟩)
  have l31 : ∀ f j q' (fa pf mn fo : Nat → Int32) y, j ≤ 16 → L_X3_startAgain_31 a f (nI j) q' fa pf mn fo = some y → (∀ i, i < j → pf i = 0 ∧ mn i = 0) → (∀ i, (pf i).toInt.natAbs ≤ 10) → (∀ i, 0 ≤ (fo i).toInt ∧ (fo i).toInt ≤ 15) → y.2.1 = fa ∧ (∀ i, (y.2.2.1 i).toInt.natAbs ≤ 10) ∧ (∀ i, i < 16 → y.2.2.1 i = 0 ∧ y.2.2.2.1 i = 0) ∧ ∀ i, 0 ≤ (y.2.2.2.2 i).toInt ∧ (y.2.2.2.2 i).toInt ≤ 15 := by
    intro f
    induction f with
    | zero => intro j q' fa pf mn fo y _ hy; cases hy
    | succ f ih =>
      intro j q' fa pf mn fo y hj hy h0 hpf hfo
      rw [L_X3_startAgain_31] at hy
      rcases Nat.lt_or_ge j 16 with c | c
      · rw [if_neg (show ¬(16 : Int32) ≤ nI j from nI_ge (b := 16) c (by decide))] at hy
        obtain ⟨_, hy⟩ := st_i hy
        obtain ⟨_, hy⟩ := sz_i hy
        rw [bnd_s, nI_1, nI_clamp (by omega)] at hy
        refine ih (j + 1) _ _ _ _ _ _ (by omega) hy (fun i hi => ?_) (bd_u (P := fun x => x.toInt.natAbs ≤ 10) hpf (by decide)) hfo
        by_cases e : i = j
        · rw [e, up_e, up_e]; exact ⟨rfl, by decide⟩
        · rw [up_n e, up_n e]; exact h0 i (by omega)
      · rw [if_pos (show (16 : Int32) ≤ nI j from nI_le (a := 16) c (by omega)), bnd_s] at hy
        obtain ⟨y1, y2, y3, y4⟩ := l62 _ _ _ _ _ _ _ _ hy hfo
        rw [y1, y2, y3]
        exact ⟨rfl, hpf, fun i hi => h0 i (by omega), y4⟩
  have l7 : ∀ f x q' (fa pf mn fo : Nat → Int32) y, L_X3_startAgain_7 a f x q' fa pf mn fo = some y → (∀ i, (fa i).toInt.natAbs ≤ 10) → (∀ i, (pf i).toInt.natAbs ≤ 10) → (∀ i, 0 ≤ (fo i).toInt ∧ (fo i).toInt ≤ 15) → (∀ i, (y.2.1 i).toInt.natAbs ≤ 10) ∧ (∀ i, (y.2.2.1 i).toInt.natAbs ≤ 10) ∧ (∀ i, i < 16 → y.2.2.1 i = 0 ∧ y.2.2.2.1 i = 0) ∧ ∀ i, 0 ≤ (y.2.2.2.2 i).toInt ∧ (y.2.2.2.2 i).toInt ≤ 15 := by
    intro f
    induction f with
    | zero => intro x q' fa pf mn fo y hy; cases hy
    | succ f ih =>
      intro x q' fa pf mn fo y hy hfa hpf hfo
      rw [L_X3_startAgain_7] at hy
      by_cases c : (4 : Int32) ≤ x
      · rw [if_pos c, bnd_s] at hy
        obtain ⟨y1, y2⟩ := l31 NN 0 _ _ _ _ _ _ (by omega) hy (fun i hi => by omega) hpf hfo
        rw [y1]
        exact ⟨hfa, y2⟩
      · rw [if_neg c] at hy
        obtain ⟨_, hy⟩ := st_i hy
        rw [bnd_s] at hy
        exact ih _ _ _ _ _ _ _ hy (bd_u (P := fun x => x.toInt.natAbs ≤ 10) hfa (by decide)) hpf hfo
  unfold f_X8_states at h
  by_cases c : a < (1 : Int32)
  · rw [if_pos c] at h; cases h; exact ⟨hfa, hpf, hfo, hs, hm⟩
  · rw [if_neg c] at h
    by_cases d : a ≤ (4 : Int32)
    · rw [if_pos d, bnd_s] at h
      obtain ⟨u, hu, h⟩ := cal_i h
      cases h
      unfold f_X3_startAgain at hu
      rw [bnd_s, bnd_s] at hu
      obtain ⟨y1, y2, y3, y4⟩ := l7 _ _ _ _ _ _ _ _ hu hfa hpf hfo
      refine ⟨y1, y2, y4, fun s t h1 h2 => ?_, fun s t h1 h2 => ?_⟩
      · exact (y3 _ (by omega)).1.trans (y3 _ (by omega)).1.symm
      · exact (y3 _ (by omega)).2.trans (y3 _ (by omega)).2.symm
    · rw [if_neg d] at h; cases h; exact ⟨hfa, hpf, hfo, hs, hm⟩
theorem Rt_0 (ups : Nat → Int32) : RtA 0 ups := fun b hb e i hi => by
  have := (nI_eq (a := 0) (b := b) (by omega) (by omega)).mp e
  omega
theorem bag_4 {n : Nat} {bs tb a : Int32} {masks ups bag up : Nat → Int32} (T : BagT n bs tb masks ups bag up) (R : RtA bs ups) {r : Int32 × Int32 × (Nat → Int32) × (Nat → Int32)} (h : f_X8_bag a (nI n) bs masks ups = some r) : RtA r.2.1 r.2.2.2 := by
  obtain ⟨_, _, _, b, hb, rfl, hm, hu⟩ := T
  unfold f_X8_bag at h
  by_cases c : a = 0
  · rw [if_pos c] at h; cases h; exact R
  · rw [if_neg c] at h
    obtain ⟨u, _, h⟩ := cal_i h
    by_cases d : (a &&& (u ^^^ (-1 : Int32))) = 0
    · rw [if_pos d] at h
      rcases Nat.lt_or_ge b 14 with e | e
      · rw [if_pos (show nI b < (14 : Int32) from nI_lt (b := 14) e (by decide))] at h
        obtain ⟨u2, h2, h⟩ := cal_i h
        cases h
        have j22 : ∀ (ups' : Nat → Int32) (y : Int32 × Int32 × (Nat → Int32) × (Nat → Int32)), J_X0_append_22 a (nI b) masks ups' = some y → (∀ i, i < b → ¬ups' i = -1) → RtA y.2.1 y.2.2.2 := by
          intro ups' y hy hn'
          unfold J_X0_append_22 at hy
          obtain ⟨_, hy⟩ := st_i hy
          obtain ⟨_, hy⟩ := st_i hy
          rw [bnd_s, nI_1, nI_clamp (by omega)] at hy
          cases hy
          intro b' hb' eb i hi hz
          have : b + 1 = b' := (nI_eq (by omega) (by omega)).mp eb
          by_cases w : i = b
          · omega
          · have hz : upd ups' b (-1) i = -1 := hz
            rw [up_n w] at hz
            exact absurd hz (hn' i (by omega))
        unfold f_X0_append at h2
        rcases Nat.eq_zero_or_pos b with w | w
        · subst w
          rw [if_pos (by decide)] at h2
          exact j22 _ _ h2 (fun i hi => by omega)
        · rw [if_neg (nI_nle w (by omega))] at h2
          obtain ⟨_, h2⟩ := st_i h2
          have es : nI b - (1 : Int32) = nI (b - 1) := pk_sub (b := 1) (by omega)
          rw [es, nI_clamp (by omega)] at h2
          refine j22 _ _ h2 (fun i hi z => ?_)
          by_cases w2 : i = b - 1
          · rw [w2, up_e] at z
            exact m1_n (by omega) z
          · rw [up_n w2] at z
            have := R b hb rfl i hi z
            omega
      · rw [if_neg (show ¬nI b < (14 : Int32) from nI_nlt (b := 14) e (by omega))] at h
        cases h; exact R
    · rw [if_neg d] at h; cases h; exact R
theorem hang_4 {n : Nat} {bs tb a c : Int32} {masks ups bag up : Nat → Int32} (T : BagT n bs tb masks ups bag up) (R : RtA bs ups) {r : Int32 × (Nat → Int32)} (h : f_X8_hang a c bs ups = some r) : RtA bs r.2 := by
  obtain ⟨_, _, _, b, hb, rfl, hm, hu⟩ := T
  unfold f_X8_hang at h
  rcases has_n hb a with z | ⟨k, k1, rfl, z⟩
  · rw [cal_e (show f_X0_has a (nI b) = some 0 from z), if_pos rfl] at h; cases h; exact R
  · rw [cal_e (show f_X0_has (nI k) (nI b) = some 1 from z), if_neg n10] at h
    rcases has_n hb c with y | ⟨j, j1, rfl, y⟩
    · rw [cal_e (show f_X0_has c (nI b) = some 0 from y), if_pos rfl] at h; cases h; exact R
    · rw [cal_e (show f_X0_has (nI j) (nI b) = some 1 from y), if_neg n10] at h
      by_cases d : nI k = nI b - 1
      · rw [if_pos d] at h; cases h; exact R
      · rw [if_neg d] at h
        by_cases e : nI k < nI j
        · rw [if_pos e] at h
          obtain ⟨_, h⟩ := ld_i h
          rw [bnd_s] at h
          obtain ⟨_, h⟩ := st_i h
          rw [nI_clamp (n := k) (by omega)] at h
          cases h
          intro b' hb' eb i hi hz
          have hz : upd ups k (nI j) i = -1 := hz
          by_cases w : i = k
          · rw [w, up_e] at hz; exact absurd hz (m1_n (by omega))
          · rw [up_n w] at hz; exact R b' hb' eb i hi hz
        · rw [if_neg e] at h; cases h; exact R
theorem make_4 {n : Nat} {B : Nat → Nat} {near0 : Nat → Int32} (N : NetN n B near0) {os held rowed bs : Int32} {knots row masks ups : Nat → Int32} (T : OrdT n os held rowed knots row) (R : RtA bs ups) {left ne : Int32} {near : Nat → Int32} {x : Int32 × Int32 × (Nat → Int32) × (Nat → Int32) × Int32 × Int32 × (Nat → Int32)} (h : f_X8_make (nI n) near0 os knots bs masks ups left ne near = some x) : RtA x.2.1 x.2.2.2.1 := by
  have hn := N.1
  obtain ⟨r, hr, rfl, rfl, e, hR, rfl, hp⟩ := T
  unfold f_X8_make at h
  rcases Nat.eq_zero_or_pos n with z | z
  · subst z
    rw [if_pos (by decide)] at h; cases h; exact R
  · rw [if_neg (nI_ne0 z (by omega))] at h
    by_cases c : r = n
    · subst c
      rw [if_pos rfl] at h
      have hRk : RowN r knots r := fun j hj => by
        obtain ⟨k, k1, k2⟩ := hR j hj
        exact ⟨k, k1, by rw [e j hj]; exact k2⟩
      have erm : rmN knots r = rmN row r := rmN_congr r e
      obtain ⟨l1, n1, h1, S⟩ := start_g N left ne near
      obtain ⟨masks', ups', a, b, cc, g1, g2, g3⟩ := cl_apart N hRk (by rw [erm]; exact hp) r 0 0 NN masks ups l1 n1 (by omega) (by show r < 32768; omega) S
      have et : f_X0_takeApart bs masks ups (nI r) knots l1 0 n1 = some (nI r, masks', ups', a, b, cc) := by
        unfold f_X0_takeApart
        rw [bnd_s, bnd_s]; exact g1
      rw [cal_e h1, cal_e et] at h
      obtain ⟨u, _, h⟩ := cal_i h
      cases h
      intro b' hb' eb i hi hz
      have eb2 : r = b' := (nI_eq (by omega) (by omega)).mp eb
      obtain ⟨k, k1, k2, k3, k4, k5⟩ := g3 i (Nat.zero_le _) (by omega)
      have hz : ups' i = -1 := hz
      rcases k5 with ⟨j, j1, j2, _, _, j5⟩ | ⟨_, b2⟩
      · rw [j5] at hz; exact absurd hz (m1_n (by omega))
      · by_cases c : i + 1 < r
        · rw [if_pos c] at b2
          rw [b2] at hz; exact absurd hz (m1_n (by omega))
        · omega
    · have c2 : ¬ nI r = nI n := fun w => c ((nI_eq (by omega) (by omega)).mp w)
      rw [if_neg c2] at h; cases h; exact R
