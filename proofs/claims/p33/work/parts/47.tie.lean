/-! What both sides do alike: the net's edges and weights, the law. -/
theorem ld_ok {α β : Type} {f : Nat → α} {n : Nat} {i : Int32} (k : α → Option β) (h : okI i n) : ldA f n i k = k (f i.toNatClampNeg) := if_pos h
theorem sI_ok {β : Type} {f : Nat → Int32} {n : Nat} {i x : Int32} (k : (Nat → Int32) → Option β) (h : okI i n) : stI f n i x k = k (upd f i.toNatClampNeg x) := if_pos h
theorem sZ_ok {β : Type} {f : Nat → Int32} {n : Nat} {i x : Int32} (k : (Nat → Int32) → Option β) (h : okI i n) : stZ f n i x k = k (upd f i.toNatClampNeg (vp_nar .boolean x)) := if_pos h
theorem cal_s {α β : Type} (a : α) (k : α → Option β) : cal (some a) k = k a := rfl
theorem bnd_s {α β : Type} (a : α) (k : α → β) : bnd a k = k a := rfl
theorem and1 (x : Int32) : x &&& 1 = 0 ∨ x &&& 1 = 1 := b01 (and_rg2 rfl (by decide))
theorem edge9_eq (a b s : Int32) (near : Nat → Int32) : f_X9_isEdge a b s near = f_X4_joined a b s near := by
  unfold f_X9_isEdge f_X4_joined
  have e1 : ∀ a, f_X9_isKnot a s = f_X4_has a s := fun _ => rfl
  rw [e1, e1]
  congr 1; funext u1
  by_cases z1 : u1 = 0
  · rw [if_pos z1, if_pos z1]
  · rw [if_neg z1, if_neg z1]
    congr 1; funext u2
    by_cases z2 : u2 = 0
    · rw [if_pos z2, if_pos z2]
    · rw [if_neg z2, if_neg z2]
      congr 1; funext v
      unfold f_X8_hasBit
      rcases and1 (v >>> (b &&& 31)) with h | h
      · rw [if_neg (by rw [h]; decide), if_pos h]; rfl
      · rw [if_pos h, if_neg (by rw [h]; decide)]; rfl
theorem weight_eq (a b s : Int32) (w near ties : Nat → Int32) : f_X9_weight a b s w near ties = f_X8_weight a b s w near ties := by
  unfold f_X9_weight f_X8_weight
  rw [edge9_eq, Int32.mul_comm 14 a]; rfl
theorem beside_eq (a s : Int32) (near : Nat → Int32) : f_X9_beside a s near = f_X8_beside a s near := rfl
theorem weigh_eq (a b s : Int32) (w : Nat → Int32) : f_X9_weigh a b s w = f_X8_weigh a b s w := rfl
theorem factor_eq (a b s : Int32) (w : Nat → Int32) : f_X9_factor a b s w = f_X8_factor a b s w := rfl
theorem forbid_eq (a b s : Int32) (w : Nat → Int32) : f_X9_forbid a b s w = f_X8_forbid a b s w := rfl
theorem has_ok {a s : Int32} (hs : 0 ≤ s.toInt ∧ s.toInt ≤ 14) {u : Int32} (h : f_X4_has a s = some u) (hu : ¬ u = 0) : 0 ≤ a.toInt ∧ a.toInt < s.toInt := by
  obtain ⟨v, e, q, -⟩ := s_X4_has a s hs
  rw [h] at e
  cases e
  have l0 : (0 : Int32).toInt = 0 := rfl
  have := neq hu
  omega
/-! both sides in step -/
def Rel {α β : Type} (o : Option α) (q : Option β) (P : α → β → Prop) : Prop := ∃ a b, o = some a ∧ q = some b ∧ P a b
theorem rel_some {α β : Type} {a : α} {b : β} {P : α → β → Prop} (h : P a b) : Rel (some a) (some b) P := ⟨a, b, rfl, rfl, h⟩
theorem rl {α β : Type} {o o' : Option α} {q : Option β} {P : α → β → Prop} (e : o = o') (h : Rel o' q P) : Rel o q P := by rw [e]; exact h
theorem rr {α β : Type} {o : Option α} {q q' : Option β} {P : α → β → Prop} (e : q = q') (h : Rel o q' P) : Rel o q P := by rw [e]; exact h
theorem cal_e {α β : Type} {o : Option α} {a : α} {k : α → Option β} (e : o = some a) : cal o k = k a := by rw [e]; rfl
theorem chk_ok {β : Type} {c : Prop} [Decidable c] {k : Option β} (h : c) : chk c k = k := if_pos h
theorem rel_mono {α β : Type} {o : Option α} {q : Option β} {P Q : α → β → Prop} (h : Rel o q P) (hPQ : ∀ a b, P a b → Q a b) : Rel o q Q := by
  obtain ⟨a, b, e1, e2, hp⟩ := h
  exact ⟨a, b, e1, e2, hPQ a b hp⟩
theorem cut_rel (a b s e : Int32) (near ties : Nat → Int32) (hs : 0 ≤ s.toInt ∧ s.toInt ≤ 14) : Rel (f_X8_cut a b s e near ties) (f_X9_cut a b s near ties) (fun r m => m = (r.1, r.2.2) ∧ ∀ i : Nat, s.toInt ≤ (i : Int) → r.2.2 i = near i) := by
  unfold f_X9_cut f_X8_cut
  obtain ⟨u, hu, hq, -⟩ := s_X4_joined a b s near hs
  refine rl (cal_e hu) (rr (cal_e ((edge9_eq a b s near).trans hu)) ?_)
  by_cases z : u = 0
  · exact rl (if_pos z) (rr (if_pos z) (rel_some ⟨rfl, fun _ _ => rfl⟩))
  · refine rl (if_neg z) (rr (if_neg z) ?_)
    have l0 : (0 : Int32).toInt = 0 := rfl
    have hz := neq z
    have hr := hq.1.resolve_left (by omega)
    have k1 : (a * (14 : Int32)).toInt = a.toInt * 14 := ti_mulc rfl (by omega)
    have k2 : ((a * (14 : Int32)) + b).toInt = (a * (14 : Int32)).toInt + b.toInt := ti_add (by omega) (by omega)
    have h1 : okI a 14 := okI_of (by omega)
    have h2 : okI b 14 := okI_of (by omega)
    have h3 : okI ((a * (14 : Int32)) + b) 196 := okI_of (by omega)
    have na := tn (x := a) (by omega)
    have nb := tn (x := b) (by omega)
    have hp : f_X4_part a b e near ties = some (ties ((a * (14 : Int32)) + b).toNatClampNeg, e - 1, upd (upd near a.toNatClampNeg (near a.toNatClampNeg &&& (((1 : Int32) <<< (b &&& 31)) ^^^ (-1 : Int32)))) b.toNatClampNeg ((upd near a.toNatClampNeg (near a.toNatClampNeg &&& (((1 : Int32) <<< (b &&& 31)) ^^^ (-1 : Int32)))) b.toNatClampNeg &&& (((1 : Int32) <<< (a &&& 31)) ^^^ (-1 : Int32)))) := by
      unfold f_X4_part
      rw [ld_ok _ h1, sI_ok _ h1, ld_ok _ h2, sI_ok _ h2, bnd_s, ld_ok _ h3]
    refine rl (cal_e hp) ?_
    refine rr (ld_ok _ h1) (rr (sI_ok _ h1) (rr (ld_ok _ h2) (rr (sI_ok _ h2) ?_)))
    rw [Int32.mul_comm 14 a]
    refine rr (ld_ok _ h3) (rel_some ⟨rfl, fun i hi => ?_⟩)
    dsimp only
    rw [pk_un (by omega), pk_un (by omega)]
theorem edge_rel (a b w s e : Int32) (near ties : Nat → Int32) (hs : 0 ≤ s.toInt ∧ s.toInt ≤ 14) : Rel (f_X8_edge a b w s e near ties) (f_X9_edge a b w s near ties) (fun r m => m = (r.1, r.2.2.1, r.2.2.2) ∧ ∀ i : Nat, s.toInt ≤ (i : Int) → r.2.2.1 i = near i) := by
  unfold f_X9_edge f_X8_edge
  obtain ⟨u1, h1, -⟩ := s_X4_has a s hs
  obtain ⟨u2, h2, -⟩ := s_X4_has b s hs
  obtain ⟨u3, h3, -⟩ := s_X8_isWeight w
  refine rl (cal_e h1) (rr (cal_e (show f_X9_isKnot a s = some u1 from h1)) ?_)
  by_cases z1 : u1 = 0
  · exact rl (if_pos z1) (rr (if_pos z1) (rel_some ⟨rfl, fun _ _ => rfl⟩))
  · refine rl (if_neg z1) (rr (if_neg z1) (rl (cal_e h2) (rr (cal_e (show f_X9_isKnot b s = some u2 from h2)) ?_)))
    by_cases z2 : u2 = 0
    · exact rl (if_pos z2) (rr (if_pos z2) (rel_some ⟨rfl, fun _ _ => rfl⟩))
    · refine rl (if_neg z2) (rr (if_neg z2) ?_)
      by_cases zab : a = b
      · exact rl (if_pos zab) (rr (if_pos zab) (rel_some ⟨rfl, fun _ _ => rfl⟩))
      · refine rl (if_neg zab) (rr (if_neg zab) (rl (cal_e h3) (rr (cal_e (show f_X9_isWeight w = some u3 from h3)) ?_)))
        by_cases z3 : u3 = 0
        · exact rl (if_pos z3) (rr (if_pos z3) (rel_some ⟨rfl, fun _ _ => rfl⟩))
        · refine rl (if_neg z3) (rr (if_neg z3) ?_)
          have ra := has_ok hs h1 z1
          have rb := has_ok hs h2 z2
          have k1 : (a * (14 : Int32)).toInt = a.toInt * 14 := ti_mulc rfl (by omega)
          have k2 : ((a * (14 : Int32)) + b).toInt = (a * (14 : Int32)).toInt + b.toInt := ti_add (by omega) (by omega)
          have k3 : (b * (14 : Int32)).toInt = b.toInt * 14 := ti_mulc rfl (by omega)
          have k4 : ((b * (14 : Int32)) + a).toInt = (b * (14 : Int32)).toInt + a.toInt := ti_add (by omega) (by omega)
          have o1 : okI a 14 := okI_of (by omega)
          have o2 : okI b 14 := okI_of (by omega)
          have o3 : okI ((a * (14 : Int32)) + b) 196 := okI_of (by omega)
          have o4 : okI ((b * (14 : Int32)) + a) 196 := okI_of (by omega)
          have na := tn (x := a) (by omega)
          have nb := tn (x := b) (by omega)
          refine rr (ld_ok _ o1) (rr (bnd_s _ _) (rr (ld_ok _ o1) (rr (sI_ok _ o1) (rr (ld_ok _ o2) (rr (sI_ok _ o2) ?_)))))
          rw [Int32.mul_comm 14 a, Int32.mul_comm 14 b]
          refine rr (sI_ok _ o3) (rr (sI_ok _ o4) ?_)
          have hJ : ∀ x4 e2, (x4 = 0 ∨ x4 = 1) → J_X4_join_35 a b w x4 e2 near ties = some (x4, e2, upd (upd near a.toNatClampNeg (near a.toNatClampNeg ||| ((1 : Int32) <<< (b &&& 31)))) b.toNatClampNeg ((upd near a.toNatClampNeg (near a.toNatClampNeg ||| ((1 : Int32) <<< (b &&& 31)))) b.toNatClampNeg ||| ((1 : Int32) <<< (a &&& 31))), upd (upd ties ((a * (14 : Int32)) + b).toNatClampNeg w) ((b * (14 : Int32)) + a).toNatClampNeg w) := by
            intro x4 e2 hx
            unfold J_X4_join_35
            rw [ld_ok _ o1, sI_ok _ o1, ld_ok _ o2, sI_ok _ o2, sI_ok _ o3, sI_ok _ o4, chk_ok hx]
          rcases and1 (near a.toNatClampNeg >>> (b &&& 31)) with h | h
          · have hj : f_X4_join a b w e near ties = J_X4_join_35 a b w 1 (e + 1) near ties := by
              unfold f_X4_join f_X8_hasBit
              rw [ld_ok _ o1, if_pos h]; rfl
            refine rl (cal_e (hj.trans (hJ 1 (e + 1) (Or.inr rfl)))) (rl (if_neg (by show ¬ (1 : Int32) = 0; decide)) ?_)
            refine rel_some ⟨by rw [h]; rfl, fun i hi => ?_⟩
            dsimp only
            rw [pk_un (by omega), pk_un (by omega)]
          · have hj : f_X4_join a b w e near ties = J_X4_join_35 a b w 0 e near ties := by
              unfold f_X4_join f_X8_hasBit
              rw [ld_ok _ o1, if_neg (by rw [h]; decide)]; rfl
            refine rl (cal_e (hj.trans (hJ 0 e (Or.inl rfl)))) (rl (if_pos rfl) ?_)
            refine rel_some ⟨by rw [h]; rfl, fun i hi => ?_⟩
            dsimp only
            rw [pk_un (by omega), pk_un (by omega)]
theorem pair_rel (a b c d q : Int32) (pf mn : Nat → Int32) (hq : 1 ≤ q.toInt ∧ q.toInt ≤ 4) : Rel (f_X8_pair a b c d q pf mn) (f_X9_pair a b c d q pf mn) (fun r m => m = r) := by
  unfold f_X9_pair f_X8_pair
  obtain ⟨u1, h1, q1, -⟩ := s_X3_has a q hq
  obtain ⟨u2, h2, q2, -⟩ := s_X3_has b q hq
  obtain ⟨u3, h3, -⟩ := s_X8_isFactor d
  have l0 : (0 : Int32).toInt = 0 := rfl
  refine rl (cal_e h1) (rr (cal_e (show f_X9_isState a q = some u1 from h1)) ?_)
  by_cases z1 : u1 = 0
  · exact rl (if_pos z1) (rr (if_pos z1) (rel_some rfl))
  · refine rl (if_neg z1) (rr (if_neg z1) (rl (cal_e h2) (rr (cal_e (show f_X9_isState b q = some u2 from h2)) ?_)))
    by_cases z2 : u2 = 0
    · exact rl (if_pos z2) (rr (if_pos z2) (rel_some rfl))
    · refine rl (if_neg z2) (rr (if_neg z2) ?_)
      have z1 := neq z1
      have z2 := neq z2
      have ra := q1.1.resolve_left (by omega)
      have rb := q2.1.resolve_left (by omega)
      have k1 : (a * (4 : Int32)).toInt = a.toInt * 4 := ti_mulc rfl (by omega)
      have k2 : ((a * (4 : Int32)) + b).toInt = (a * (4 : Int32)).toInt + b.toInt := ti_add (by omega) (by omega)
      have k3 : (b * (4 : Int32)).toInt = b.toInt * 4 := ti_mulc rfl (by omega)
      have k4 : ((b * (4 : Int32)) + a).toInt = (b * (4 : Int32)).toInt + a.toInt := ti_add (by omega) (by omega)
      have o3 : okI ((a * (4 : Int32)) + b) 16 := okI_of (by omega)
      have o4 : okI ((b * (4 : Int32)) + a) 16 := okI_of (by omega)
      have hS : ∀ x : Int32, f_X3_setPair a b x d pf mn = some (upd (upd pf ((a * (4 : Int32)) + b).toNatClampNeg d) ((b * (4 : Int32)) + a).toNatClampNeg d, upd (upd mn ((a * (4 : Int32)) + b).toNatClampNeg (vp_nar .boolean x)) ((b * (4 : Int32)) + a).toNatClampNeg (vp_nar .boolean x)) := by
        intro x
        unfold f_X3_setPair
        rw [sI_ok _ o3, sI_ok _ o4, sZ_ok _ o3, sZ_ok _ o4]
      have hM : ∀ s0 x mm, J_X9_pair_108 a b c d q s0 x ((b * (4 : Int32)) + a) pf mm = some (s0, upd (upd pf ((a * (4 : Int32)) + b).toNatClampNeg d) ((b * (4 : Int32)) + a).toNatClampNeg d, upd mm ((b * (4 : Int32)) + a).toNatClampNeg (vp_nar .boolean x)) := by
        intro s0 x mm
        unfold J_X9_pair_108
        rw [Int32.mul_comm 4 a, Int32.mul_comm 4 b, sZ_ok _ o4, sI_ok _ o3, sI_ok _ o4]
      have hJ : ∀ s0 : Int32, Rel (J_X8_pair_80 a b c d q s0 pf mn) (J_X9_pair_69 a b c d q s0 pf mn) (fun r m => m = r) := by
        intro s0
        unfold J_X9_pair_69 J_X8_pair_80
        rw [Int32.mul_comm 4 a]
        by_cases zc : c = 0
        · refine rl (if_pos zc) (rr (if_pos zc) (rl (cal_e (hS 1)) ?_))
          unfold J_X9_pair_89
          refine rr (sZ_ok _ o3) (rr (if_pos zc) ?_)
          rw [Int32.mul_comm 4 b]
          exact rr (hM _ _ _) (rel_some rfl)
        · refine rl (if_neg zc) (rr (if_neg zc) (rl (cal_e (hS 0)) ?_))
          unfold J_X9_pair_89
          refine rr (sZ_ok _ o3) (rr (if_neg zc) ?_)
          rw [Int32.mul_comm 4 b]
          exact rr (hM _ _ _) (rel_some rfl)
      by_cases c1 : c < 0
      · exact rl (if_pos c1) (rr (if_pos c1) (rel_some rfl))
      · refine rl (if_neg c1) (rr (if_neg c1) ?_)
        by_cases c2 : (1 : Int32) < c
        · exact rl (if_pos c2) (rr (if_pos c2) (rel_some rfl))
        · refine rl (if_neg c2) (rr (if_neg c2) (rl (cal_e h3) (rr (cal_e (show f_X9_isFactor d = some u3 from h3)) ?_)))
          by_cases z3 : u3 = 0
          · exact rl (if_pos z3) (rr (if_pos z3) (rel_some rfl))
          · refine rl (if_neg z3) (rr (if_neg z3) ?_)
            rw [Int32.mul_comm 4 a]
            refine rl (ld_ok _ o3) (rr (ld_ok _ o3) ?_)
            by_cases zb : mn ((a * (4 : Int32)) + b).toNatClampNeg = 0
            · exact rl (if_pos zb) (rr (if_pos zb) (rl (ld_ok _ o3) (rr (ld_ok _ o3) (hJ _))))
            · exact rl (if_neg zb) (rr (if_neg zb) (hJ _))
theorem st73 (a : Int32) : ∀ (n : Nat) (w x3 q : Int32) (f p fo b : Nat → Int32), L_X9_states_73 a n w x3 q f p fo b = (L_X3_startAgain_62 a n x3 q f p b fo).map (fun r => (w, r.1, r.2.1, r.2.2.1, r.2.2.2.2, r.2.2.2.1)) := by
  intro n
  induction n with
  | zero => intros; rfl
  | succ n ih =>
    intro w x3 q f p fo b
    rw [L_X9_states_73, L_X3_startAgain_62]
    by_cases h : (14 : Int32) ≤ x3
    · rw [if_pos h, if_pos h]; rfl
    · rw [if_neg h, if_neg h]
      unfold stI
      by_cases h2 : okI x3 14
      · rw [if_pos h2, if_pos h2]; exact ih ..
      · rw [if_neg h2, if_neg h2]; rfl
theorem st45 (a : Int32) : ∀ (n : Nat) (w x3 q : Int32) (f p fo b : Nat → Int32), L_X9_states_45 a n w x3 q f p fo b = (L_X3_startAgain_31 a n x3 q f p b fo).map (fun r => (w, r.1, r.2.1, r.2.2.1, r.2.2.2.2, r.2.2.2.1)) := by
  intro n
  induction n with
  | zero => intros; rfl
  | succ n ih =>
    intro w x3 q f p fo b
    rw [L_X9_states_45, L_X3_startAgain_31]
    by_cases h : (16 : Int32) ≤ x3
    · rw [if_pos h, if_pos h, bnd_s, bnd_s, st73]
    · rw [if_neg h, if_neg h]
      by_cases h2 : okI x3 16
      · rw [sI_ok _ h2, sI_ok _ h2, sZ_ok _ h2, sZ_ok _ h2]; exact ih ..
      · unfold stI
        rw [if_neg h2, if_neg h2]; rfl
theorem st25 (a : Int32) : ∀ (n : Nat) (w x3 q : Int32) (f p fo b : Nat → Int32), L_X9_states_25 a n w x3 q f p fo b = (L_X3_startAgain_7 a n x3 q f p b fo).map (fun r => (w, r.1, r.2.1, r.2.2.1, r.2.2.2.2, r.2.2.2.1)) := by
  intro n
  induction n with
  | zero => intros; rfl
  | succ n ih =>
    intro w x3 q f p fo b
    rw [L_X9_states_25, L_X3_startAgain_7]
    by_cases h : (4 : Int32) ≤ x3
    · rw [if_pos h, if_pos h, bnd_s, bnd_s, st45]
    · rw [if_neg h, if_neg h]
      unfold stI
      by_cases h2 : okI x3 4
      · rw [if_pos h2, if_pos h2]; exact ih ..
      · rw [if_neg h2, if_neg h2]; rfl
theorem states_rel (a q : Int32) (f p b fo : Nat → Int32) : f_X9_states a q f p fo b = (f_X8_states a q f p b fo).map (fun r => (r.1, r.2.1, r.2.2.1, r.2.2.2.1, r.2.2.2.2.2, r.2.2.2.2.1)) := by
  unfold f_X9_states f_X8_states
  by_cases h1 : a < (1 : Int32)
  · rw [if_pos h1, if_pos h1]; rfl
  · rw [if_neg h1, if_neg h1]
    by_cases h2 : a ≤ (4 : Int32)
    · rw [if_pos h2, if_pos h2, bnd_s, bnd_s, bnd_s, bnd_s, st25]
      unfold f_X3_startAgain
      rw [bnd_s, bnd_s]
      cases L_X3_startAgain_7 a NN 0 a f p b fo with
      | none => rfl
      | some r => rfl
    · rw [if_neg h2, if_neg h2]; rfl
theorem knot_rel (a s os oh bs rowed bags : Int32) (w near : Nat → Int32) (hs : 0 ≤ s.toInt ∧ s.toInt ≤ 14) (hz : ∀ i : Nat, s.toInt ≤ (i : Int) → near i = 0) : Rel (f_X8_knot a s w os oh bs) (f_X9_knot a s rowed bags w near) (fun r m => s.toInt ≤ r.2.1.toInt ∧ m.1 = r.1 ∧ m.2.1 = r.2.1 ∧ m.2.2.2.2.1 = r.2.2.1 ∧ m.2.2.2.2.2 = near) := by
  unfold f_X9_knot f_X8_knot
  obtain ⟨u, h, -⟩ := s_X8_isWeight a
  refine rl (cal_e h) (rr (cal_e (show f_X9_isWeight a = some u from h)) ?_)
  have l14 : (14 : Int32).toInt = 14 := rfl
  have l1 : (1 : Int32).toInt = 1 := rfl
  by_cases z : u = 0
  · exact rl (if_pos z) (rr (if_pos z) (rel_some ⟨Int.le_refl _, rfl, rfl, rfl, rfl⟩))
  · refine rl (if_neg z) (rr (if_neg z) ?_)
    by_cases zs : s < (14 : Int32)
    · have zs2 := plt zs
      have ns := tn (x := s) hs.1
      have o : okI s 14 := okI_of (by omega)
      have k1 : (s + (1 : Int32)).toInt = s.toInt + (1 : Int32).toInt := ti_add (by omega) (by omega)
      refine rl (if_pos zs) (rr (if_neg (fun e => by rw [e] at zs2; omega)) (rr (sI_ok _ o) (rr (sI_ok _ o) ?_)))
      have e0 : upd near s.toNatClampNeg 0 = near := by
        funext i
        unfold upd
        by_cases hi : i = s.toNatClampNeg
        · rw [if_pos hi]; exact (hz i (by omega)).symm
        · rw [if_neg hi]
      have ha : f_X4_addKnot a s w = some ((s + 1) - 1, s + 1, upd w s.toNatClampNeg a) := by
        unfold f_X4_addKnot
        rw [sI_ok _ o]; rfl
      refine rl (cal_e (show f_X2_empty os oh = some (0, 0) from rfl)) (rl (cal_e (show f_X0_empty bs = some 0 from rfl)) (rl (cal_e ha) ?_))
      exact rel_some ⟨by show s.toInt ≤ (s + 1).toInt; omega, rfl, rfl, rfl, e0⟩
    · have zs2 := nlt zs
      have es : s = 14 := Int32.toInt_inj.mp (by omega)
      exact rl (if_neg zs) (rr (if_pos es) (rel_some ⟨Int.le_refl _, rfl, rfl, rfl, rfl⟩))
