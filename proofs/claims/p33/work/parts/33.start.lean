/-! THE CLAIM OUT OF ONE WALK OF THE LAW'S BODY. Your part is whole_start (and what it stands on); all else here is the same for every law, but numbers. -/
def R_law : String := "BagTreeLaw"
def lw_P (b : Addr) (xs : List Int32) (args : Array Value) (s : State) : Prop := args = #[.ref b] ∧ s.IntsAt b xs ∧ xs.length ≤ 2560 ∧ (Jvm.Cond.and given_1 narrow_1).before args s = true
def lw_Q (_ : Array Value) (s : State) (o : Outcome) (t : State) : Prop := o = .returned (some (.int 1)) ∧ Framed s o t [] 600000 7302249
def lw_Z (below : List Frame) (a : Array Value) (s : State) : State → Prop := fun t => ∃ o, t.status = .running ∧ Ended t below o ∧ lw_Q a s o t
/-- the law's own end, with 1 on the stack, nothing written that was there before, its room as the claim has it -/
theorem lw_ret {p : Program} {l : Launch} {e : Env} {s : State} {m : MethodId} {below : List Frame} {meth : Method} {c : Code} {b : Nat} (hx : p.tables.exec = Jvm.exec) (hb : c.code = code) (hr : meth.sig.returnType = ret) (hlocks : meth.locks = false) {pc : Nat} {H : Heap} {ls : Array Slot} (hdg : decode code pc = .ok (.ireturn, 1)) : W p l e room_1 s m #[Value.ref b] below meth c H [] 600000 7302249 (lw_Z below #[Value.ref b] s) (F0 m pc ls [.int 1]) := by
  intro T hT X
  obtain ⟨fs, hret, hrun, hended, hW, hframe⟩ := X.leave (v := some (.int 1)) (hlocks := hlocks) (fun h => by rw [hr] at h; cases h)
  have hmeth' : T.vm.method? m = some meth := X.method'
  refine ⟨T.setFrames fs, ?_, .returned (some (.int 1)), hrun, hended, rfl, ⟨_, rfl⟩, hW, hframe⟩
  jvm_step X.here [X.here.top, hx, hb, hdg, hmeth', hr, ret, narrow_b1]
  (try refine ⟨rfl, ?_⟩); (try refine ⟨rfl, ?_⟩)
  first | (intro acts; rw [hret _ acts rfl rfl rfl]) | rw [hret _ _ rfl rfl rfl]
  exact Steps.refl _
/-- what holds at the law's entry: the machine, the code, the tables' words (any of lw_tbl by 'hts w (by decide +kernel)'), the script of L ints xs at the cell b, what the Statement gives of the start (any of its parts by flat_of_before) -/
def lw_At (p : Program) (s : State) (m : MethodId) (meth : Method) (c : Code) (b L : Nat) (xs : Nat → Int32) : Prop :=
  p.tables.exec = Jvm.exec ∧ c.code = code ∧ meth.sig.returnType = ret ∧ c.maxLocals = 4 ∧ s.vm.findClass R_law = some m.cls ∧ (∀ w ∈ lw_tbl, w.before #[Value.ref b] s = true) ∧ va_X b L xs s s.heap ∧ b < s.heap.size ∧ meth.locks = false ∧ (Jvm.Cond.and given_1 narrow_1).before #[Value.ref b] s = true
noncomputable def σ0 : XS := (fun i => if i = 5 then 2 else 0, fun _ => 0, fun _ _ => 0, fun _ _ => 0, fun _ _ => 0)
noncomputable def μ0 : MS := (fun i => if i = 3 then 2 else 0, fun _ => 0, fun _ _ => 0, fun _ _ => 0)
theorem arr_known {s : State} {args : Array Value} {ty : FieldType} (hp : ∀ C, ty ≠ .object C) (h : (Cond.arrayClass ty).before args s = true) : ∃ c : ClassId, ArrOfT s c ty ∧ va_RA s c ty := by
  obtain ⟨c, k, comp, h1, h2, h3⟩ := Cond.arrayClass_spec h
  refine ⟨c, fun n z => ⟨fun k h => (by cases h), k, h2, comp, h3⟩, ?_⟩
  cases ty with
  | object C => exact absurd rfl (hp C)
  | _ => exact h1
theorem arr_knownO {s : State} {C : String} (h : va_AO C s) : ∃ c : ClassId, ArrOfT s c (.object C) ∧ va_RA s c (.object C) := by
  obtain ⟨comp, c, k, h1, h2, h3, h4, h5⟩ := Cond.arrayOver_spec h
  exact ⟨c, fun n z => ⟨fun k h => (by cases h), k, h3, comp, h4⟩, k, comp, h3, h4, h1, h5⟩
theorem nw_start {s : State} {args : Array Value} (hts : ∀ w ∈ lw_tbl, w.before args s = true) : NW s := by
  refine ⟨fun q hq => ?_, va_AO.of (hts _ (inT2 136 rfl))⟩
  have hall : ∀ q ∈ nwT, Cond.methodLinkNest q.1 q.2.1 q.2.2.1 q.2.2.2 ∈ lw_tbl := by
    unfold nwT
    exact List.forall_mem_cons.mpr ⟨inT1 25 rfl, List.forall_mem_cons.mpr ⟨inT1 61 rfl, List.forall_mem_cons.mpr ⟨inT1 81 rfl, List.forall_mem_cons.mpr ⟨inT1 100 rfl, List.forall_mem_cons.mpr ⟨inT1 132 rfl, List.forall_mem_cons.mpr ⟨inT1 154 rfl, List.forall_mem_cons.mpr ⟨inT1 159 rfl, List.forall_mem_cons.mpr ⟨inT2 18 rfl, List.forall_mem_cons.mpr ⟨inT2 54 rfl, List.forall_mem_cons.mpr ⟨inT2 94 rfl, List.forall_mem_cons.mpr ⟨inT2 135 rfl, List.forall_mem_cons.mpr ⟨inT2 191 rfl, List.forall_mem_cons.mpr ⟨inT3 24 rfl, List.forall_mem_cons.mpr ⟨inT3 164 rfl, List.forall_mem_cons.mpr ⟨inT3 192 rfl, fun _ h => absurd h List.not_mem_nil⟩⟩⟩⟩⟩⟩⟩⟩⟩⟩⟩⟩⟩⟩⟩
  exact va_Nw.of rfl (hts _ (hall q hq))
set_option maxHeartbeats 4000000 in
set_option maxRecDepth 100000 in
theorem law_start {p : Program} {e : Env} {s : State} {m : MethodId} {below : List Frame} {meth : Method} {c : Code} (l : Launch) {b L : Nat} {xs : Nat → Int32} (hL : L ≤ 2560) (C0 : lw_At p s m meth c b L xs) (I : Nat → XS → MS → Prop) (h0 : I 0 σ0 μ0) (H : ∀ j, 5 * j + 5 ≤ L → OkAll I j) : W p l e room_1 s m #[Value.ref b] below meth c s.heap [] 0 0 (lw_Z below #[Value.ref b] s) (entryFrame m ([Value.ref b] : List Value).toArray 4) := by
  obtain ⟨hx, hb, hr, hml, hown, hts, hX, hbl, hlocks, hgv⟩ := id C0
  obtain ⟨c0, iS0, hKn0⟩ := u_known (C := RX0) (T := TX0) (N := 3) (n := 3) hts (fun w h => G_in w (inX0 w h)) (hts (.instantiable RX0 3) (G_in _ kw_555))
  obtain ⟨c1, iS1, hKn1⟩ := u_known (C := RX1) (T := TX1) (N := 3) (n := 3) hts (fun w h => G_in w (inX1 w h)) (hts (.instantiable RX1 3) (G_in _ kw_541))
  obtain ⟨c2, iS2, hKn2⟩ := u_known (C := RX2) (T := TX2) (N := 3) (n := 3) hts (fun w h => G_in w (inX2 w h)) (hts (.instantiable RX2 3) (G_in _ kw_551))
  obtain ⟨c3, iS3, hKn3⟩ := u_known (C := RX3) (T := TX3) (N := 5) (n := 5) hts (fun w h => G_in w (inX3 w h)) (hts (.instantiable RX3 5) (G_in _ kw_559))
  obtain ⟨c4, iS4, hKn4⟩ := u_known (C := RX4) (T := TX4) (N := 5) (n := 5) hts (fun w h => G_in w (inX4 w h)) (hts (.instantiable RX4 5) (G_in _ kw_547))
  obtain ⟨c5, iS5, hKn5⟩ := u_known (C := RX5) (T := TX5) (N := 11) (n := 11) hts (fun w h => G_in w (inX5 w h)) (hts (.instantiable RX5 11) (G_in _ kw_564))
  obtain ⟨c6, iS6, hKn6⟩ := u_known (C := RX6) (T := TX6) (N := 4) (n := 4) hts (fun w h => G_in w (inX6 w h)) (hts (.instantiable RX6 4) (G_in _ kw_572))
  obtain ⟨c7, iS7, hKn7⟩ := u_known (C := RX7) (T := TX7) (N := 17) (n := 17) hts (fun w h => G_in w (inX7 w h)) (hts (.instantiable RX7 17) (G_in _ kw_577))
  obtain ⟨c8, iS8, hKn8⟩ := u_known (C := RX8) (T := TX8) (N := 8) (n := 8) hts (fun w h => G_in w (inX8 w h)) (hts (.instantiable RX8 8) (G_in _ kw_833))
  obtain ⟨c9, iS9, hKn9⟩ := u_known (C := RX9) (T := TX9) (N := 23) (n := 23) hts (fun w h => G_in w (inX9 w h)) (hts (.instantiable RX9 23) (G_in _ kw_838))
  have hNW := nw_start hts
  obtain ⟨a0, ha0⟩ := arr_known (fun C h => by cases h) (hts (.arrayClass .int) (G_in _ kw_533))
  obtain ⟨a1, ha1⟩ := arr_known (fun C h => by cases h) (hts (.arrayClass .long) (G_in _ kw_568))
  obtain ⟨a2, ha2⟩ := arr_known (fun C h => by cases h) (hts (.arrayClass .boolean) (G_in _ kw_537))
  obtain ⟨a3, ha3⟩ := arr_knownO hNW.2
  obtain ⟨D, hKc⟩ : ∃ D : va_G, ∀ (k : Nat) (q : vw_C), vwCl[k]? = some q → u_Kn s q.1 q.2.1 q.2.2 (D.1 k) (D.2 k) := by
    refine ⟨(fun k => if k = 0 then c0 else if k = 1 then c1 else if k = 2 then c2 else if k = 3 then c3 else if k = 4 then c4 else if k = 5 then c5 else if k = 6 then c6 else if k = 7 then c7 else if k = 8 then c8 else c9, fun k => if k = 0 then iS0 else if k = 1 then iS1 else if k = 2 then iS2 else if k = 3 then iS3 else if k = 4 then iS4 else if k = 5 then iS5 else if k = 6 then iS6 else if k = 7 then iS7 else if k = 8 then iS8 else iS9), ?_⟩
    intro k q hq
    match k, hq with
    | 0, hq => cases hq; exact hKn0
    | 1, hq => cases hq; exact hKn1
    | 2, hq => cases hq; exact hKn2
    | 3, hq => cases hq; exact hKn3
    | 4, hq => cases hq; exact hKn4
    | 5, hq => cases hq; exact hKn5
    | 6, hq => cases hq; exact hKn6
    | 7, hq => cases hq; exact hKn7
    | 8, hq => cases hq; exact hKn8
    | 9, hq => cases hq; exact hKn9
    | k + 10, hq => simp [vwCl] at hq
  obtain ⟨cA, hcA⟩ : ∃ cA : Nat → ClassId, ∀ (k : Nat) (q : ClassId × FieldType), (TY cA)[k]? = some q → ArrOfT s q.1 q.2 ∧ va_RA s q.1 q.2 := by
    refine ⟨fun k => if k = 0 then a0 else if k = 1 then a1 else if k = 2 then a2 else a3, ?_⟩
    intro k q hq
    match k, hq with
    | 0, hq => cases hq; exact ha0
    | 1, hq => cases hq; exact ha1
    | 2, hq => cases hq; exact ha2
    | 3, hq => cases hq; exact ha3
    | k + 4, hq => simp at hq
  generalize hXe : ((p, l, e, room_1, s, m, #[Value.ref b], below, meth, c, D, (fun q : Nat => s.heap.size ≤ q), s.heap, lw_Z below #[Value.ref b] s) : XT) = X
  have C : Cx X cL_law RL (some .boolean) cA 2048 84000 4 := by
    rw [← hXe]
    exact ⟨hx, hb, hml, hown, fun w hw => hts w (G_in w hw), hr, hlocks, ⟨hKc, hcA⟩, hNW, ⟨Nat.le_refl _, Nat.le_refl _⟩, fun _ h => h⟩
  have E : Sx X b L xs := by
    rw [← hXe]
    exact ⟨hX, hbl, Nat.not_le.mpr hbl⟩
  have hc : 600000 ≤ (x_R X).cells ∧ 7302249 ≤ (x_R X).slots := by
    rw [← hXe]
    exact ⟨Nat.le_refl _, Nat.le_refl _⟩
  have hret : ∀ (kk nn : Nat) (ws : va_W) (lv : List (Nat × Value)), kk ≤ 600000 → nn ≤ 7302249 → Go X 4 kk nn 1036 ws lv [] := by
    intro kk nn ws lv h1 h2
    refine g_iconst C 1036 (1 : Int32) dL_law_1036 (by decide) ?_
    rw [← hXe]
    intro H locs ls hP hD hS hl
    refine va_forget (fun q hq => hS.2.2 q hq) ?_
    refine W.widen h1 h2 ?_
    exact lw_ret hx hb hr hlocks dL_law_1037
  suffices hgo : Go X 4 0 0 0 [] [(0, .ref b)] [] by
    rw [← hXe] at hgo
    rw [lg_entry_eq]
    exact hgo s.heap [] _ (fun k q h => by simp at h) ⟨fun i j p q h => by simp at h, fun k q h => by simp at h⟩ va_S.rf (lv_entry ([.ref b]) (n := 4) (Nat.le_of_ble_eq_true rfl))
  refine g_new C 0 tyX8 [.null, .null, .null, .null, .null, .null, .null, .null] 1 8 (fun z => [oB z 8 [.null, .null, .null, .null, .null, .null, .null, .null]]) dL_law_0 inX8 tyX8_ok kw_832 kw_833 kw_6 rfl (by decide) (Nat.le_trans (by decide) hc.1) (Nat.le_trans (by decide) hc.2) rfl rfl (fun _ => rfl) (fun x => ?_)
  refine g_dup C 3 dL_law_3 rfl ?_
  refine g_callI C 4 [0] (rest := [.ref x]) 29 735 dL_law_4 (c_X8_init (x_l X) cA x) kw_834 kw_835 kw_6 kw_836 rfl ok_X8_init ⟨by decide, by decide⟩ (Nat.le_trans (by decide) hc.1) (Nat.le_trans (by decide) hc.2) rfl rfl rfl rfl rfl (Nat.le_of_ble_eq_true rfl) ?_
  intro res w1 hB; obtain ⟨x_q5, x_q5_q7, x_q5_q15, x_q5_q24, x_q16, x_q16_q7, x_q27, x_q27_q7, x_q27_q15, x_q38, x_q38_q11, x_q38_q19, x_q38_q27, x_q38_q35, x_q49, x_q49_q7, x_q60, x_q60_q7, x_q60_q15, x_q60_q23, x_q60_q31, x_q60_q39, x_q60_q48, x_q60_q56, x_q60_q64, x_q60_q72, x_q60_q78, x_q60_q78_q7, rfl, rfl⟩ := hB
  refine ⟨Nat.le_of_ble_eq_true rfl, ?_⟩
  show Go X 4 29 735 7 [oB x 8 [.ref x_q5, .ref x_q16, .ref x_q27, .ref x_q38, .ref x_q49, .ref x_q60, .null, .null], oB x_q5 4 [.ref x_q5_q7, .ref x_q5_q15, .ref x_q5_q24, .int 0, .int 0], aI cA x_q5_q7 14 (fun _ => 0), aI cA x_q5_q15 14 (fun _ => 0), aI cA x_q5_q24 196 (fun _ => 0), oB x_q16 2 [.ref x_q16_q7, .int 0, .int 0], aI cA x_q16_q7 14 (fun _ => 0), oB x_q27 0 [.ref x_q27_q7, .ref x_q27_q15, .int 0], aI cA x_q27_q7 14 (fun _ => 0), aI cA x_q27_q15 14 (fun _ => 0), oB x_q38 3 [.int (2 : Int32), .ref x_q38_q11, .ref x_q38_q19, .ref x_q38_q27, .ref x_q38_q35], aI cA x_q38_q11 4 (fun _ => 0), aI cA x_q38_q19 16 (fun _ => 0), aZ cA x_q38_q27 16 (fun _ => 0), aI cA x_q38_q35 14 (fun _ => 0), oB x_q49 1 [.ref x_q49_q7, .int 0, .int 0], aI cA x_q49_q7 14 (fun _ => 0), oB x_q60 5 [.ref x_q60_q7, .ref x_q60_q15, .ref x_q60_q23, .ref x_q60_q31, .ref x_q60_q39, .ref x_q60_q48, .ref x_q60_q56, .int 0, .ref x_q60_q64, .ref x_q60_q72, .ref x_q60_q78], aI cA x_q60_q7 14 (fun _ => 0), aI cA x_q60_q15 56 (fun _ => 0), aI cA x_q60_q23 14 (fun _ => 0), aI cA x_q60_q31 14 (fun _ => 0), aI cA x_q60_q39 14 (fun _ => 0), aI cA x_q60_q48 196 (fun _ => 0), aI cA x_q60_q56 14 (fun _ => 0), aI cA x_q60_q64 14 (fun _ => 0), aI cA x_q60_q72 14 (fun _ => 0), oB x_q60_q78 1 [.ref x_q60_q78_q7, .int 0, .int 0], aI cA x_q60_q78_q7 14 (fun _ => 0)] [(0, .ref b)] [.ref x]
  refine g_astore_n C 7 (lv' := [(1, .ref x), (0, .ref b)]) dL_law_7 rfl (by decide) rfl ?_
  refine g_new C 8 tyX9 [.int 0, .null, .null, .null, .int 0, .null, .int 0, .null, .null, .null, .int 0, .null, .null, .null, .null, .null, .null, .null, .null, .null, .long 0, .long 0, .long 0] 30 758 (fun z => [oB x 8 [.ref x_q5, .ref x_q16, .ref x_q27, .ref x_q38, .ref x_q49, .ref x_q60, .null, .null], oB x_q5 4 [.ref x_q5_q7, .ref x_q5_q15, .ref x_q5_q24, .int 0, .int 0], aI cA x_q5_q7 14 (fun _ => 0), aI cA x_q5_q15 14 (fun _ => 0), aI cA x_q5_q24 196 (fun _ => 0), oB x_q16 2 [.ref x_q16_q7, .int 0, .int 0], aI cA x_q16_q7 14 (fun _ => 0), oB x_q27 0 [.ref x_q27_q7, .ref x_q27_q15, .int 0], aI cA x_q27_q7 14 (fun _ => 0), aI cA x_q27_q15 14 (fun _ => 0), oB x_q38 3 [.int (2 : Int32), .ref x_q38_q11, .ref x_q38_q19, .ref x_q38_q27, .ref x_q38_q35], aI cA x_q38_q11 4 (fun _ => 0), aI cA x_q38_q19 16 (fun _ => 0), aZ cA x_q38_q27 16 (fun _ => 0), aI cA x_q38_q35 14 (fun _ => 0), oB x_q49 1 [.ref x_q49_q7, .int 0, .int 0], aI cA x_q49_q7 14 (fun _ => 0), oB x_q60 5 [.ref x_q60_q7, .ref x_q60_q15, .ref x_q60_q23, .ref x_q60_q31, .ref x_q60_q39, .ref x_q60_q48, .ref x_q60_q56, .int 0, .ref x_q60_q64, .ref x_q60_q72, .ref x_q60_q78], aI cA x_q60_q7 14 (fun _ => 0), aI cA x_q60_q15 56 (fun _ => 0), aI cA x_q60_q23 14 (fun _ => 0), aI cA x_q60_q31 14 (fun _ => 0), aI cA x_q60_q39 14 (fun _ => 0), aI cA x_q60_q48 196 (fun _ => 0), aI cA x_q60_q56 14 (fun _ => 0), aI cA x_q60_q64 14 (fun _ => 0), aI cA x_q60_q72 14 (fun _ => 0), oB x_q60_q78 1 [.ref x_q60_q78_q7, .int 0, .int 0], aI cA x_q60_q78_q7 14 (fun _ => 0), oB z 9 [.int 0, .null, .null, .null, .int 0, .null, .int 0, .null, .null, .null, .int 0, .null, .null, .null, .null, .null, .null, .null, .null, .null, .long 0, .long 0, .long 0]]) dL_law_8 inX9 tyX9_ok kw_837 kw_838 kw_343 rfl (by decide) (Nat.le_trans (by decide) hc.1) (Nat.le_trans (by decide) hc.2) rfl rfl (fun _ => rfl) (fun m0 => ?_)
  refine g_dup C 11 dL_law_11 rfl ?_
  refine g_callI C 12 [29] (rest := [.ref m0]) 46 60494 dL_law_12 (c_X9_init (x_l X) cA m0) kw_839 kw_840 kw_343 kw_841 rfl ok_X9_init ⟨by decide, by decide⟩ (Nat.le_trans (by decide) hc.1) (Nat.le_trans (by decide) hc.2) rfl rfl rfl rfl rfl (Nat.le_of_ble_eq_true rfl) ?_
  intro res w1 hB; obtain ⟨m_q12, m_q20, m_q29, m_q42, m_q55, m_q63, m_q72, m_q84, m_q92, m_q100, m_q108, m_q116, m_q124, m_q133, m_q142, m_q151, rfl, rfl⟩ := hB
  refine ⟨Nat.le_of_ble_eq_true rfl, ?_⟩
  show Go X 4 46 60494 15 [oB x 8 [.ref x_q5, .ref x_q16, .ref x_q27, .ref x_q38, .ref x_q49, .ref x_q60, .null, .null], oB x_q5 4 [.ref x_q5_q7, .ref x_q5_q15, .ref x_q5_q24, .int 0, .int 0], aI cA x_q5_q7 14 (fun _ => 0), aI cA x_q5_q15 14 (fun _ => 0), aI cA x_q5_q24 196 (fun _ => 0), oB x_q16 2 [.ref x_q16_q7, .int 0, .int 0], aI cA x_q16_q7 14 (fun _ => 0), oB x_q27 0 [.ref x_q27_q7, .ref x_q27_q15, .int 0], aI cA x_q27_q7 14 (fun _ => 0), aI cA x_q27_q15 14 (fun _ => 0), oB x_q38 3 [.int (2 : Int32), .ref x_q38_q11, .ref x_q38_q19, .ref x_q38_q27, .ref x_q38_q35], aI cA x_q38_q11 4 (fun _ => 0), aI cA x_q38_q19 16 (fun _ => 0), aZ cA x_q38_q27 16 (fun _ => 0), aI cA x_q38_q35 14 (fun _ => 0), oB x_q49 1 [.ref x_q49_q7, .int 0, .int 0], aI cA x_q49_q7 14 (fun _ => 0), oB x_q60 5 [.ref x_q60_q7, .ref x_q60_q15, .ref x_q60_q23, .ref x_q60_q31, .ref x_q60_q39, .ref x_q60_q48, .ref x_q60_q56, .int 0, .ref x_q60_q64, .ref x_q60_q72, .ref x_q60_q78], aI cA x_q60_q7 14 (fun _ => 0), aI cA x_q60_q15 56 (fun _ => 0), aI cA x_q60_q23 14 (fun _ => 0), aI cA x_q60_q31 14 (fun _ => 0), aI cA x_q60_q39 14 (fun _ => 0), aI cA x_q60_q48 196 (fun _ => 0), aI cA x_q60_q56 14 (fun _ => 0), aI cA x_q60_q64 14 (fun _ => 0), aI cA x_q60_q72 14 (fun _ => 0), oB x_q60_q78 1 [.ref x_q60_q78_q7, .int 0, .int 0], aI cA x_q60_q78_q7 14 (fun _ => 0), oB m0 9 [.int (0 : Int32), .ref m_q12, .ref m_q20, .ref m_q29, .int (0 : Int32), .ref m_q42, .int (0 : Int32), .ref m_q55, .ref m_q63, .ref m_q72, .int (2 : Int32), .ref m_q84, .ref m_q92, .ref m_q100, .ref m_q108, .ref m_q116, .ref m_q124, .ref m_q133, .ref m_q142, .ref m_q151, .long (0 : Int64), .long (0 : Int64), .long (0 : Int64)], aI cA m_q12 14 (fun _ => 0), aI cA m_q20 14 (fun _ => 0), aI cA m_q29 196 (fun _ => 0), aI cA m_q42 14 (fun _ => 0), aI cA m_q55 14 (fun _ => 0), aI cA m_q63 14 (fun _ => 0), aI cA m_q72 16384 (fun _ => 0), aI cA m_q84 4 (fun _ => 0), aI cA m_q92 16 (fun _ => 0), aI cA m_q100 14 (fun _ => 0), aZ cA m_q108 16 (fun _ => 0), aI cA m_q116 14 (fun _ => 0), aI cA m_q124 14 (fun _ => 0), aJ cA m_q133 14336 (fun _ => 0), aJ cA m_q142 14336 (fun _ => 0), aJ cA m_q151 14336 (fun _ => 0)] [(1, .ref x), (0, .ref b)] [.ref m0]
  refine g_astore_n C 15 (lv' := [(2, .ref m0), (1, .ref x), (0, .ref b)]) dL_law_15 rfl (by decide) rfl ?_
  refine g_iconst C 16 (0 : Int32) dL_law_16 (by decide) ?_
  refine g_istore_n C 17 (fun z => [(3, .int z), (2, .ref m0), (1, .ref x), (0, .ref b)]) dL_law_17 rfl (by decide) (fun _ => rfl) (rfl : bnd (0 : Int32) some = some 0) (fun z hz => ?_)
  cases hz
  refine g_lv [3, 2, 1, 0] rfl ?_
  exact law_loop C E (by omega) (fun i => ([x, x_q5, x_q5_q7, x_q5_q15, x_q5_q24, x_q16, x_q16_q7, x_q27, x_q27_q7, x_q27_q15, x_q38, x_q38_q11, x_q38_q19, x_q38_q27, x_q38_q35, x_q49, x_q49_q7, x_q60, x_q60_q7, x_q60_q15, x_q60_q23, x_q60_q31, x_q60_q39, x_q60_q48, x_q60_q56, x_q60_q64, x_q60_q72, x_q60_q78, x_q60_q78_q7] : List Nat).getD i 0) (fun i => ([m0, m_q12, m_q20, m_q29, m_q42, m_q55, m_q63, m_q72, m_q84, m_q92, m_q100, m_q108, m_q116, m_q124, m_q133, m_q142, m_q151] : List Nat).getD i 0) I (by omega) hc H hret (L + 1) 0 σ0 μ0 .null .null [] [] 46 60494 (by omega) (by omega) h0 (Or.inl ⟨rfl, rfl, rfl, rfl, rfl, rfl, rfl, rfl, rfl, rfl⟩) (Or.inl ⟨rfl, rfl, rfl, rfl, rfl, rfl, rfl, rfl, rfl, rfl, rfl, rfl, rfl, rfl, rfl, rfl⟩) (by decide) (by decide)
