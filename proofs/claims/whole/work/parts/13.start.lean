/-! THE CLAIM OUT OF ONE WALK OF THE LAW'S BODY. Your part is whole_start (and what it stands on); all else here is the same for every law, but numbers. -/
def R_law : String := "ThreadTownLaw"
def lw_P (b : Addr) (xs : List Int32) (args : Array Value) (s : State) : Prop := args = #[.ref b] ∧ s.IntsAt b xs ∧ xs.length ≤ 3072 ∧ (Jvm.Cond.and given_1 narrow_1).before args s = true
def lw_Q (_ : Array Value) (s : State) (o : Outcome) (t : State) : Prop := o = .returned (some (.int 1)) ∧ Framed s o t [] 600000 7302250
def lw_Z (below : List Frame) (a : Array Value) (s : State) : State → Prop := fun t => ∃ o, t.status = .running ∧ Ended t below o ∧ lw_Q a s o t
/-- the law's own end, with 1 on the stack, nothing written that was there before, its room as the claim has it -/
theorem lw_ret {p : Program} {l : Launch} {e : Env} {s : State} {m : MethodId} {below : List Frame} {meth : Method} {c : Code} {b : Nat} (hx : p.tables.exec = Jvm.exec) (hb : c.code = code) (hr : meth.sig.returnType = ret) (hlocks : meth.locks = false) {pc : Nat} {H : Heap} {ls : Array Slot} (hdg : decode code pc = .ok (.ireturn, 1)) : W p l e room_1 s m #[Value.ref b] below meth c H [] 600000 7302250 (lw_Z below #[Value.ref b] s) (F0 m pc ls [.int 1]) := by
  intro T hT X
  obtain ⟨fs, hret, hrun, hended, hW, hframe⟩ := X.leave (v := some (.int 1)) (hlocks := hlocks) (fun h => by rw [hr] at h; cases h)
  have hmeth' : T.vm.method? m = some meth := X.method'
  refine ⟨T.setFrames fs, ?_, .returned (some (.int 1)), hrun, hended, rfl, ⟨_, rfl⟩, hW, hframe⟩
  jvm_step X.here [X.here.top, hx, hb, hdg, hmeth', hr, ret, narrow_b1]
  (try refine ⟨rfl, ?_⟩); (try refine ⟨rfl, ?_⟩)
  first | (intro acts; rw [hret _ acts rfl rfl rfl]) | rw [hret _ _ rfl rfl rfl]
  exact Steps.refl _
/-- what holds at the law's entry: the machine, the code, the tables' words (any of lw_tbl by 'hts w (by decide +kernel)'), the script of L ints xs at the cell b, what the Statement gives of the start (any of its parts by flat_of_before) -/
def lw_At (p : Program) (s : State) (m : MethodId) (meth : Method) (c : Code) (b L : Nat) (xs : Nat → Int32) : Prop :=
  p.tables.exec = Jvm.exec ∧ c.code = code ∧ meth.sig.returnType = ret ∧ c.maxLocals = 4 ∧ s.vm.findClass R_law = some m.cls ∧ (∀ w ∈ lw_tbl, w.before #[Value.ref b] s = true) ∧ va_X b L xs s s.heap ∧ b < s.heap.size ∧ meth.locks = false ∧ (Jvm.Cond.and given_1 narrow_1).before #[Value.ref b] s = true

/-! THE LAW's START: what the Statement gives is a state of the little machine -/
def kL (nm : String) : zK := (code, R_law, 4, ret, ⟨R_law, nm, ""⟩)
def zI0 (xs : Nat → Int32) : zI := fun a j => if a = 1000000 then xs j else if a = 1000001 then ([0, 0, 1, 0, -1] : List Int32).getD j 0 else if a = 1000002 then ([0, 1, 0, -1, 0] : List Int32).getD j 0 else if a = 1000005 then (zbytS.getD 0 []).getD j 0 else if a = 1000006 then (zbytS.getD 1 []).getD j 0 else 0
def zZ0 (L : Nat) : zZ := (0, 0, fun a => if a = 1000000 then (1, L) else if a = 1000001 then (1, 5) else if a = 1000002 then (1, 5) else if a = 1000005 then (3, 80) else if a = 1000006 then (3, 9) else (0, 0), fun _ _ => none)
def zLawOK : Prop := ∀ (nm : String) (L : Nat) (xs : Nat → Int32), L ≤ 3072 → ∃ (Z : zZ) (I : zI) (J : zJ), zE 11 (kL nm) 0 [some (.ref 1000000), none, none, none] [] (zZ0 L) (zI0 xs) (fun _ _ => 0) (some (.int 1), Z, I, J) ∧ Z.1 ≤ 600000 ∧ Z.2.1 ≤ 7302250
theorem z_arr {ty : FieldType} {args : Array Value} {s : State} (h : (Cond.arrayClass ty).before args s = true) : ∃ cA, ArrOfT s cA ty ∧ s.vm.findClass ("[" ++ ty.toString) = some cA := by
  obtain ⟨cA, kA, comp, h1, h2, h3⟩ := Cond.arrayClass_spec (args := args) (first := s) (o := none) (s := s) (idx := []) h
  exact ⟨cA, fun n z => ⟨(fun k h => by cases h), kA, h2, comp, h3⟩, h1⟩
theorem z_arrO {C : String} {args : Array Value} {s : State} (h : (Cond.arrayOver (.object C)).before args s = true) : ∃ cA, ArrOfT s cA (.object C) ∧ va_RA s cA (.object C) := by
  obtain ⟨comp, cA, kA, h1, -, h2, h3, h4⟩ := Cond.arrayOver_spec (args := args) (first := s) (o := none) (s := s) (idx := []) h
  exact ⟨cA, fun n z => ⟨(fun k h => by cases h), kA, h2, comp, h3⟩, kA, comp, h2, h3, h1, h4⟩
theorem z_lt5 {P : Nat → Prop} (h0 : P 0) (h1 : P 1) (h2 : P 2) (h3 : P 3) (h4 : P 4) : ∀ j, j < 5 → P j := by
  intro j hj
  match j, hj with
  | 0, _ => exact h0
  | 1, _ => exact h1
  | 2, _ => exact h2
  | 3, _ => exact h3
  | 4, _ => exact h4
theorem z_lt2 {P : Nat → Prop} (h0 : P 0) (h1 : P 1) : ∀ j, j < 2 → P j := by
  intro j hj
  match j, hj with
  | 0, _ => exact h0
  | 1, _ => exact h1
def z_tm (i : Nat) : Term := .string RX8 (if i = 0 then 28 else 80)
set_option maxRecDepth 100000 in
theorem z_str0 : ∀ j, j < 80 → Cond.eq (.elem (.field (z_tm 0) "java/lang/String" "value" "[B") (.int (Int32.ofNat j))) (.int ((zbytS.getD 0 []).getD j 0)) ∈ flatC (Jvm.Cond.and given_1 narrow_1) := by decide +kernel
set_option maxRecDepth 100000 in
theorem z_str1 : ∀ j, j < 9 → Cond.eq (.elem (.field (z_tm 1) "java/lang/String" "value" "[B") (.int (Int32.ofNat j))) (.int ((zbytS.getD 1 []).getD j 0)) ∈ flatC (Jvm.Cond.and given_1 narrow_1) := by decide +kernel
set_option maxHeartbeats 4000000 in
set_option maxRecDepth 100000 in
theorem whole_start_open (hLaw : zLawOK) {p : Program} {e : Env} {s : State} {m : MethodId} {below : List Frame} {meth : Method} {c : Code} (l : Launch) (hflags : l.flags = flags0) {b L : Nat} {xs : Nat → Int32} (hL : L ≤ 3072) (C0 : lw_At p s m meth c b L xs) : W p l e room_1 s m #[Value.ref b] below meth c s.heap [] 0 0 (lw_Z below #[Value.ref b] s) (entryFrame m ([Value.ref b] : List Value).toArray 4) := by
  obtain ⟨hx, hb, hr, hml, hown, hts, hX, hbl, hlocks, hgv⟩ := id C0
  have hgs := flat_of_before _ hgv
  have hA : ∀ q : Nat, s.heap.size ≤ q → (fun q : Nat => s.heap.size ≤ q) q := fun _ h => h
  have hnA : ∀ a : Nat, a < s.heap.size → ¬ (fun q : Nat => s.heap.size ≤ q) a := fun a h => Nat.not_le.mpr h
  have htz : ∀ w ∈ zT, w.before #[Value.ref b] s = true := fun w h => hts w (zT_good w h).1
  -- classes
  have hKn : ∀ ci : Nat, ∃ q : ClassId × (Nat → Nat), ci < 13 → u_Kn s (zcR ci) (zcT ci) (zcN ci) q.1 q.2 := by
    intro ci
    by_cases h : ci < 13
    · obtain ⟨cC, iS, hk⟩ := u_known htz (z_in h) (htz _ (z_ins h).1)
      exact ⟨(cC, iS), fun _ => hk⟩
    · exact ⟨(0, fun _ => 0), fun h2 => absurd h2 h⟩
  obtain ⟨D, hD⟩ : ∃ D : va_G, ∀ ci, ci < 13 → u_Kn s (zcR ci) (zcT ci) (zcN ci) (D.1 ci) (D.2 ci) := ⟨(fun ci => (Classical.choose (hKn ci)).1, fun ci => (Classical.choose (hKn ci)).2), fun ci h => Classical.choose_spec (hKn ci) h⟩
  obtain ⟨cI, hI1, hI2⟩ := z_arr (hts (.arrayClass .int) (by decide +kernel))
  obtain ⟨cJ, hJ1, hJ2⟩ := z_arr (hts (.arrayClass .long) (by decide +kernel))
  obtain ⟨cB, hB1, hB2⟩ := z_arr (hts (.arrayClass .byte) (by decide +kernel))
  obtain ⟨cZ, hZ1, hZ2⟩ := z_arr (hts (.arrayClass .boolean) (by decide +kernel))
  have hAO : (Cond.arrayOver (.object RX0)).before #[Value.ref b] s = true := hts _ (by decide +kernel)
  obtain ⟨cO, hO1, hO2⟩ := z_arrO hAO
  obtain ⟨cy, hcy⟩ : ∃ cy : Nat → ClassId, cy 1 = cI ∧ cy 2 = cJ ∧ cy 3 = cB ∧ cy 4 = cZ ∧ cy 5 = cO := ⟨fun k => if k = 1 then cI else if k = 2 then cJ else if k = 3 then cB else if k = 4 then cZ else cO, rfl, rfl, rfl, rfl, rfl⟩
  have hK : va_K D vwCl (ztys cy) s := by
    refine ⟨fun ci q hq => ?_, fun k q hq => ?_⟩
    · have hlt : ci < 13 := (List.getElem?_eq_some_iff.mp hq).1
      cases (z_cl hlt).symm.trans hq
      exact hD ci hlt
    · have hlt : k < 5 := (List.getElem?_eq_some_iff.mp hq).1
      obtain ⟨e1, e2, e3, e4, e5⟩ := hcy
      revert q
      refine z_lt5 (P := fun k => ∀ q, (ztys cy)[k]? = some q → ArrOfT s q.1 q.2 ∧ va_RA s q.1 q.2) ?_ ?_ ?_ ?_ ?_ k hlt <;> intro q hq <;> cases hq
      · rw [e1]; exact ⟨hI1, hI2⟩
      · rw [e2]; exact ⟨hJ1, hJ2⟩
      · rw [e3]; exact ⟨hB1, hB2⟩
      · rw [e4]; exact ⟨hZ1, hZ2⟩
      · rw [e5]; exact ⟨hO1, hO2⟩
  -- static rows
  obtain ⟨tX, hX1, hX2⟩ := va_Tof (tm := .static RX11 "STEP_X" "[I") (ty := .int) (N := 5) (f := fun j => .int (([0, 0, 1, 0, -1] : List Int32).getD j 0)) (A := fun q : Nat => s.heap.size ≤ q) (args := #[Value.ref b]) (s := s) (by decide) (hgs _ (by decide +kernel)) (va_eqt (hgs _ (by decide +kernel))) (z_lt5 (va_eqt (hgs _ (by decide +kernel))) (va_eqt (hgs _ (by decide +kernel))) (va_eqt (hgs _ (by decide +kernel))) (va_eqt (hgs _ (by decide +kernel))) (va_eqt (hgs _ (by decide +kernel)))) hnA
  obtain ⟨tY, hY1, hY2⟩ := va_Tof (tm := .static RX11 "STEP_Y" "[I") (ty := .int) (N := 5) (f := fun j => .int (([0, 1, 0, -1, 0] : List Int32).getD j 0)) (A := fun q : Nat => s.heap.size ≤ q) (args := #[Value.ref b]) (s := s) (by decide) (hgs _ (by decide +kernel)) (va_eqt (hgs _ (by decide +kernel))) (z_lt5 (va_eqt (hgs _ (by decide +kernel))) (va_eqt (hgs _ (by decide +kernel))) (va_eqt (hgs _ (by decide +kernel))) (va_eqt (hgs _ (by decide +kernel))) (va_eqt (hgs _ (by decide +kernel)))) hnA
  have hZX := va_Zof (A := fun q : Nat => s.heap.size ≤ q) (hts (.laysStatic RX11 "STEP_X" "[I") (by decide +kernel)) (hts (.initialized RX11) (by decide +kernel)) hX1 hnA
  have hZY := va_Zof (A := fun q : Nat => s.heap.size ≤ q) (hts (.laysStatic RX11 "STEP_Y" "[I") (by decide +kernel)) (hts (.initialized RX11) (by decide +kernel)) hY1 hnA
  have hZC := va_Zof (A := fun q : Nat => s.heap.size ≤ q) (hts (.laysStatic "java/lang/String" "COMPACT_STRINGS" "Z") (by decide +kernel)) (hts (.initialized "java/lang/String") (by decide +kernel)) (va_eqt (z := 1) (hgs _ (by decide +kernel))) hnA
  obtain ⟨vF, hF1, hF2⟩ := Cond.isRef_spec (hgs (.isRef (.static "jdk/internal/util/Preconditions" "SIOOBE_FORMATTER" "Ljava/util/function/BiFunction;")) (by decide +kernel))
  have hZF := va_Zof (A := fun q : Nat => s.heap.size ≤ q) (hts (.laysStatic "jdk/internal/util/Preconditions" "SIOOBE_FORMATTER" "Ljava/util/function/BiFunction;") (by decide +kernel)) (hts (.initialized "jdk/internal/util/Preconditions") (by decide +kernel)) hF1 hnA
  obtain ⟨tF, hF3⟩ : ∃ tF : Nat, vF = .null ∨ vF = .ref tF := by
    cases vF with
    | null => exact ⟨0, Or.inl rfl⟩
    | ref a => exact ⟨a, Or.inr rfl⟩
    | _ => exact absurd hF2 (by simp [Value.isRef])
  obtain ⟨adK, adV, hvS, hvE⟩ := vk_Sof (args := #[Value.ref b]) (s := s) (N := 2) (tm := z_tm) (len := zlenS) (byt := zbytS) (A := fun q : Nat => s.heap.size ≤ q) (z_lt2 (by decide) (by decide)) (z_lt2 (hgs _ (by decide +kernel)) (hgs _ (by decide +kernel))) (z_lt2 (hgs _ (by decide +kernel)) (hgs _ (by decide +kernel))) (z_lt2 (hgs _ (by decide +kernel)) (hgs _ (by decide +kernel))) (z_lt2 (hgs _ (by decide +kernel)) (hgs _ (by decide +kernel)))
    (z_lt2 (fun j hj => hgs _ (z_str0 j hj)) (fun j hj => hgs _ (z_str1 j hj))) (fun i j hi hj hne => by
      have h01 : (Cond.not (Cond.eq (z_tm 0) (z_tm 1))).before #[Value.ref b] s = true ∨ (Cond.not (Cond.eq (z_tm 1) (z_tm 0))).before #[Value.ref b] s = true := by first | exact Or.inl (hgs _ (by decide +kernel)) | exact Or.inr (hgs _ (by decide +kernel))
      obtain ⟨rfl, rfl⟩ | ⟨rfl, rfl⟩ : (i = 0 ∧ j = 1) ∨ (i = 1 ∧ j = 0) := by omega
      · exact h01
      · exact h01.symm) hnA
  have hR0 : vk_R RX8 28 "town man goes long errand pillar dye seed if then else x y minute left lot rank " (adK 0) s := vk_R.of (hts _ (by decide +kernel)) (hvE 0 (by decide))
  have hR1 : vk_R RX8 80 ";=+-*/<()" (adK 1) s := vk_R.of (hts _ (by decide +kernel)) (hvE 1 (by decide))
  -- addresses
  obtain ⟨α, hα, hα0, hα1, hα2, hα3, hα4, hα5, hα6, hα7, hα8⟩ : ∃ α : Nat → Nat, (∀ a, a < 999999 → α (a + 1) = α a + 1) ∧ α 0 = s.heap.size ∧ α 1000000 = b ∧ α 1000001 = tX ∧ α 1000002 = tY ∧ α 1000003 = adK 0 ∧ α 1000004 = adK 1 ∧ α 1000005 = adV 0 ∧ α 1000006 = adV 1 ∧ α 1000007 = tF := by
    refine ⟨fun a => if a < 1000000 then s.heap.size + a else if a = 1000000 then b else if a = 1000001 then tX else if a = 1000002 then tY else if a = 1000003 then adK 0 else if a = 1000004 then adK 1 else if a = 1000005 then adV 0 else if a = 1000006 then adV 1 else tF, fun a ha => ?_, ?_, ?_, ?_, ?_, ?_, ?_, ?_, ?_, ?_⟩
    · simp only
      rw [if_pos (by omega), if_pos (by omega), Nat.add_assoc]
    all_goals simp
  have hvS' : vk_S 2 zlenS zbytS (fun i => α (1000003 + i)) (fun i => α (1000005 + i)) (fun q : Nat => s.heap.size ≤ q) s s.heap := by
    refine ⟨fun i hi => ?_, fun i j hi hj => ?_⟩
    · have := hvS.1 i hi
      obtain rfl | rfl : i = 0 ∨ i = 1 := by omega
      · simpa only [Nat.add_zero, hα4, hα6] using this
      · simpa only [Nat.reduceAdd, hα5, hα7] using this
    · have := hvS.2 i j hi hj
      obtain rfl | rfl : i = 0 ∨ i = 1 := by omega
      · obtain rfl | rfl : j = 0 ∨ j = 1 := by omega
        · simpa only [Nat.add_zero, hα4] using this
        · simpa only [Nat.add_zero, Nat.reduceAdd, hα4, hα5] using this
      · obtain rfl | rfl : j = 0 ∨ j = 1 := by omega
        · simpa only [Nat.add_zero, Nat.reduceAdd, hα4, hα5] using this
        · simpa only [Nat.add_zero, hα5] using this
  have hSt : zSt (fun q : Nat => s.heap.size ≤ q) α s s.heap := by
    refine ⟨⟨by rw [hα2]; exact hZX, by rw [hα3]; exact hZY, hZC⟩, ⟨vF, by rw [hα8]; exact hF3, hZF⟩, hvS', by rw [hα4]; exact hR0, by rw [hα5]; exact hR1⟩
  have hNw : zNw s := ⟨fun o i b n d h w => va_Nw.of rfl (hts _ w), fun o i y h w => va_Nw.of rfl (hts _ w), va_AO.of hAO⟩
  have hXT : va_T .int b L (fun j => .int (xs j)) (fun q : Nat => s.heap.size ≤ q) s s.heap := by
    obtain ⟨scr, h1, h2, h3, h4, h5⟩ := hX
    exact ⟨scr, h1, h2, h3, by omega, by rw [h4], h5, hnA b hbl⟩
  have hRo : zRo (fun q : Nat => s.heap.size ≤ q) α (zZ0 L) (zI0 xs) s s.heap := by
    refine ⟨fun a n h => ?_, fun a n h => ?_⟩
    · obtain ⟨h1, h2, h3⟩ := h
      obtain rfl | rfl | rfl : a = 1000000 ∨ a = 1000001 ∨ a = 1000002 := by omega
      · cases h3
        rw [hα1]; exact hXT
      · cases h3
        rw [hα2]; exact hX2
      · cases h3
        rw [hα3]; exact hY2
    · obtain ⟨h1, h3⟩ := h
      rcases h1 with rfl | rfl
      · cases h3
        have := (hvS.1 0 (by decide)).2.2.2
        rw [hα6]; exact this
      · cases h3
        have := (hvS.1 1 (by decide)).2.2.2
        rw [hα7]; exact this
  obtain ⟨Z, I, J, hE, hc1, hc2⟩ := hLaw meth.name L xs hL
  have hl := lv_entry ([.ref b]) (n := 4) (Nat.le_of_ble_eq_true rfl)
  rw [lg_entry_eq]
  generalize (lg_sl ([.ref b]) ++ List.replicate (4 - (lg_sl ([.ref b])).length) Slot.unset).toArray = arr at hl ⊢
  have hl : lv_has arr 4 [(0, .ref b)] := hl
  have hP := (zE_sound (D := D) (cy := cy) (α := α) hE).2 p l e room_1 s m #[Value.ref b] below meth c s.heap [] 0 0 (lw_Z below #[Value.ref b] s) (fun q : Nat => s.heap.size ≤ q) arr
    ⟨hx, hb, hml, hown, rfl, htz, Nat.le_refl 11, Nat.le_of_ble_eq_true rfl, hA, hα, hK, hSt, hNw⟩ va_S.rf
    ⟨fun k q h => by simp [zws, zZ0] at h, ⟨fun i j p q h => by simp [zws, zZ0] at h, fun k q h => by simp [zws, zZ0] at h⟩, hRo⟩
    ⟨hl.1, hl.2.1, fun i v hv => by
      match i, hv with
      | 0, hv => simp only [zget, Option.some.injEq] at hv; subst hv; simp only [zval, hα1]; exact hl.2.2 (0, .ref b) List.mem_cons_self
      | 1, hv => simp [zget] at hv
      | 2, hv => simp [zget] at hv
      | 3, hv => simp [zget] at hv
      | n + 4, hv => simp [zget] at hv, Nat.le_of_ble_eq_true rfl⟩
    ⟨by rw [show (zZ0 L).1 = 0 from rfl, hα0]; rfl, Nat.zero_le _, by rw [hα0]; exact Nat.le_refl _⟩ (by show 0 + (Z.1 - 0) ≤ 600000; omega) (by show 0 + (Z.2.1 - 0) ≤ 7302250; omega) (fun H' locs' arr' pc' hS' hW' hR' => by
      refine va_forget (fun q hq => hS'.2.2 q hq) ?_
      refine W.widen (k := 600000) (n := 7302250) (by show 0 + (Z.1 - 0) ≤ 600000; omega) (by show 0 + (Z.2.1 - 0) ≤ 7302250; omega) ?_
      exact lw_ret hx hb hr hlocks hR'.1)
  exact hP
