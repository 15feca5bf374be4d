/-! calls; texts; the rules together -/
section ZSD
variable {D : va_G} {cy : Nat → ClassId} {α : Nat → Nat}
variable {p : Program} {l : Launch} {e : Env} {R : Room} {s : State} {m : MethodId} {args : Array Value} {below : List Frame} {meth : Method} {c : Code} {H : Heap} {locs : List Loc} {cells slots : Nat} {Q : State → Prop} {A : Nat → Prop} {arr : Array Slot}
variable {d : Nat} {k : zK} {Z : zZ} {I : zI} {J : zJ}
theorem zSt_go {A B : Nat → Prop} {u U : State} {H : Heap} (h : zSt A α u u.heap) (hq : ∀ a : Nat, a < u.heap.size → ¬ A a → H[a]? = u.heap[a]?) (hvm : u.vm.Alike U.vm) (hr : ∀ own k tx a, vk_R own k tx a u → vk_R own k tx a U) (hAB : ∀ q, B q → A q) : zSt B α U H := by
  obtain ⟨⟨h1, h2, h3⟩, ⟨v, h4, h5⟩, h6, h7, h8⟩ := h
  exact ⟨⟨((h1.kept hq).moved hvm).narrow hAB, ((h2.kept hq).moved hvm).narrow hAB, ((h3.kept hq).moved hvm).narrow hAB⟩, ⟨v, h4, ((h5.kept hq).moved hvm).narrow hAB⟩, ((h6.kept hq).moved hvm).narrow hAB, hr _ _ _ _ h7, hr _ _ _ _ h8⟩
theorem zRo_go {A B : Nat → Prop} {u U : State} {H : Heap} (h : zRo A α Z I u u.heap) (hq : ∀ a : Nat, a < u.heap.size → ¬ A a → H[a]? = u.heap[a]?) (hvm : u.vm.Alike U.vm) (hAB : ∀ q, B q → A q) : zRo B α Z I U H :=
  ⟨fun a n q => (((h.1 a n q).kept hq).moved hvm).narrow hAB, fun a n q => (((h.2 a n q).kept hq).moved hvm).narrow hAB⟩
theorem zPc_blind : FrameBlind (va_Pc args.toList (zPc D cy α Z I J)) := by
  intro a U g mk h
  obtain ⟨h1, h2, ⟨hK, hSt, hN⟩, hP, hD, hRo⟩ := h
  have hvm : U.vm.Alike (U.calling g mk a).vm := Vm.Alike.refl U.vm
  refine ⟨h1, h2, ⟨va_K.moved (u := U) (U := U.calling g mk a) hvm hK, ?_, ?_⟩, hP, hD, ?_⟩
  · exact zSt_go (u := U) (U := U.calling g mk a) (H := U.heap) hSt (fun _ _ _ => rfl) hvm (fun _ _ _ _ q => vk_R.same (u := U) rfl q) (fun _ h => h)
  · exact ⟨fun o i b n d h w => va_Nw.same (u := U) rfl rfl (hN.1 o i b n d h w), fun o i y h w => va_Nw.same (u := U) rfl rfl (hN.2.1 o i y h w), va_AO.moved (u := U) hvm hN.2.2⟩
  · exact zRo_go (u := U) (U := U.calling g mk a) (H := U.heap) hRo (fun _ _ _ => rfl) hvm (fun _ h => h)
theorem zA_in (hW : zWd D cy α A Z I J s H) (hS : va_S A s.heap H locs) (hA : ∀ q, s.heap.size ≤ q → A q) (hsz : H.size = α Z.1) : ∀ q, va_A (zws cy α Z I J) (α Z.1) q → A q := by
  rintro q (⟨i, e, h⟩ | h)
  · exact hW.2.1.2 i _ h
  · exact hA q (by have := hS.1; omega)
theorem zS_kept (hS : va_S A s.heap H locs) : ∀ a : Nat, a < s.heap.size → ¬ A a → H[a]? = s.heap[a]? := hS.2.1
theorem zPc_call {U : State} (hF : zFix D cy α A s) (hW : zWd D cy α A Z I J s H) (hS : va_S A s.heap H locs) (hA : ∀ q, s.heap.size ≤ q → A q) (hsz : H.size = α Z.1) (hU : U.heap = H) (hwm : s.WarmedH U.vm) : zPc D cy α Z I J U := by
  obtain ⟨hK, hSt, hN⟩ := hF
  have hin := zA_in hW hS hA hsz
  subst hU
  refine ⟨hsz, ⟨va_K.moved hwm.alike hK, ?_, ?_⟩, hW.1, hW.2.1.self, ?_⟩
  · exact zSt_go hSt hS.2.1 hwm.alike (fun _ _ _ _ q => vk_R.warm hwm q) hin
  · exact ⟨fun o i b n d h w => va_Nw.warmF hwm (hN.1 o i b n d h w), fun o i y h w => va_Nw.warmM hwm (hN.2.1 o i y h w), va_AO.moved hwm.alike hN.2.2⟩
  · exact zRo_go hW.2.2 hS.2.1 hwm.alike hin
/-- behind a call -/
theorem z_go {pc mc ms : Nat} {ls : Array Slot} {st0 rest : List Value} {a : Array Value} {free : Nat → Prop} {A1 : Nat → Prop} {v : Option Value} {Z1 : zZ} {I1 : zI} {J1 : zJ} (hr : va_Run p l e R s m args below meth c H locs cells slots mc ms (F0 m pc ls st0) rest (zQ D cy α A1 v Z1 I1 J1 a) free) (hS : va_S A s.heap H locs) (hA : ∀ q, q < H.size → A1 q → A q) (hf : ∀ q, free q → A q)
    (kk : ∀ (H1 : Heap) (locs1 : List Loc), va_P D vwCl (zws cy α Z1 I1 J1) H1 → va_D A1 (zws cy α Z1 I1 J1) → va_S A s.heap H1 locs1 → W p l e R s m args below meth c H1 locs1 (cells + mc) (slots + ms) Q (F0 m (pc + 3) ls ((v.map (zval α)).toList ++ rest))) : W p l e R s m args below meth c H locs cells slots Q (F0 m pc ls st0) := by
  intro T hT X
  obtain ⟨v', st₀, t, T', L, h0, X', hL, e1, e2, ⟨hv, hP1, hD1, hz, hk⟩, st⟩ := hr T hT X
  cases hv
  rw [h0] at hz hk
  obtain ⟨t2, a1, b1⟩ := kk T'.heap (locs ++ L) (by rw [e1]; exact hP1) hD1
    ⟨Nat.le_trans hS.1 (by rw [e1]; exact hz), fun q h1 h2 => by rw [e1, hk q (Nat.lt_of_lt_of_le h1 hS.1) (fun z => h2 (hA q (Nat.lt_of_lt_of_le h1 hS.1) z))]; exact hS.2.1 q h1 h2, fun q hq => by
      rcases List.mem_append.mp hq with h | h
      · exact hS.2.2 q h
      · exact hf _ (hL q h)⟩ T' rfl X'
  exact ⟨t2, st t2 a1, b1⟩
theorem z_rev (α : Nat → Nat) (as st : List Value) : (as.reverse ++ st).map (zval α) = (as.map (zval α)).reverse ++ st.map (zval α) := by simp
theorem z_toL (α : Nat → Nat) (v : Option Value) (st : List Value) : (v.toList ++ st).map (zval α) = (v.map (zval α)).toList ++ st.map (zval α) := by cases v <;> simp
theorem z_ws {y : zK} {n : Nat} (hy : zM y n) : GoodIn zT (.code y.2.2.2.2 y.1 y.2.2.1 y.2.2.2.1 :: zT) := by
  intro w hw
  rcases List.mem_cons.mp hw with rfl | hw
  · exact ⟨hy.1, good_of_word (zT_good _ hy.1).2⟩
  · exact ⟨hw, good_of_word (zT_good _ hw).2⟩
/-- what every call has in common -/
theorem z_call {pc n : Nat} {ls : zL} {st : List Value} {o : zO} {as : List Value} {y : zK} {v : Option Value} {Z1 : zZ} {I1 : zI} {J1 : zJ} (C : zCx D cy α (d + 1) k p R s m args meth c A) (hS : va_S A s.heap H locs) (hW : zWd D cy α A Z I J s H) (hl : zloc α ls k.2.2.1 arr) (hcell : s.heap.size + cells = α Z.1 ∧ Z.1 ≤ 999999 ∧ α 0 ≤ s.heap.size)
    (hc1 : cells + (o.2.1.1 - Z.1) ≤ R.cells) (hc2 : slots + (o.2.1.2.1 - Z.2.1) ≤ R.slots) (hsz : H.size = α Z.1) (hy : zM y n) (hlen : (zarg as).length ≤ y.2.2.1) (hP : zP D cy α d y 0 (zin y.2.2.1 as) [] Z I J (v, Z1, I1, J1)) (hk : zP D cy α (d + 1) k (pc + 3) ls (v.toList ++ st) Z1 I1 J1 o) {st0 : List Value}
    (hret : ∀ (H' : Heap) (locs' : List Loc) (arr' : Array Slot) (pc' : Nat), va_S A s.heap H' locs' → zWd D cy α A o.2.1 o.2.2.1 o.2.2.2 s H' → zRet k pc' o.1 → W p l e R s m args below meth c H' locs' (cells + (o.2.1.1 - Z.1)) (slots + (o.2.1.2.1 - Z.2.1)) Q (F0 m pc' arr' (o.1.map (zval α)).toList))
    (hr : Met l y.2.2.2.2 (.code y.2.2.2.2 y.1 y.2.2.1 y.2.2.2.1 :: zT) ({ frames := d, cells := Z1.1 - Z.1, slots := Z1.2.1 - Z.2.1, locals := 37 * d }) (va_Pc (as.map (zval α)) (zPc D cy α Z I J)) (zQ D cy α (va_A (zws cy α Z I J) (α Z.1)) v Z1 I1 J1) (Z1.1 - Z.1) (Z1.2.1 - Z.2.1) (va_A (zws cy α Z I J) (α Z.1)) → (cells + (Z1.1 - Z.1) ≤ R.cells ∧ slots + (Z1.2.1 - Z.2.1) ≤ R.slots) → (d + 1 ≤ R.frames ∧ 8 + (y.2.2.1 + 11) + 37 * d ≤ R.locals) → (FrameBlind (va_Pc (as.map (zval α)) (zPc D cy α Z I J)) ∧ ∀ U : State, U.heap = H → s.WarmedH U.vm → va_Pc (as.map (zval α)) (zPc D cy α Z I J) (as.map (zval α)).toArray U) →
      ∃ a, va_Run p l e R s m args below meth c H locs cells slots (Z1.1 - Z.1) (Z1.2.1 - Z.2.1) (F0 m pc arr st0) (st.map (zval α)) (zQ D cy α (va_A (zws cy α Z I J) (α Z.1)) v Z1 I1 J1 a) (va_A (zws cy α Z I J) (α Z.1))) :
    W p l e R s m args below meth c H locs cells slots Q (F0 m pc arr st0) := by
  obtain ⟨hx, hb, hml, hown, hnm, hts, hf1, hf2, hA, hα, hF⟩ := id C
  have hm1 := hP.1
  have hm2 := hk.1
  simp only at hm1
  have q1 : Z.1 ≤ Z1.1 := hm1.1
  have q2 : Z.2.1 ≤ Z1.2.1 := hm1.2.1
  have q3 : Z1.1 ≤ o.2.1.1 := hm2.1
  have q4 : Z1.2.1 ≤ o.2.1.2.1 := hm2.2.1
  have hin := zA_in hW hS hA hsz
  have h18 := hy.2.2.2.2.2.2.2
  have hsz0 := hS.1
  obtain ⟨a, hrun⟩ := hr (zMet hα (by omega) hcell.2.1 hy hP hlen) ⟨by omega, by omega⟩ ⟨hf1, by omega⟩ ⟨by have := zPc_blind (D := D) (cy := cy) (α := α) (Z := Z) (I := I) (J := J) (args := (as.map (zval α)).toArray); simpa using this, fun U hU hw => ⟨rfl, zPc_call hF hW hS hA hsz hU hw⟩⟩
  refine z_go hrun hS (fun q _ h => hin q h) hin (fun H1 locs1 hP1 hD1 hS1 => ?_)
  have e1 : cells + (Z1.1 - Z.1) + (o.2.1.1 - Z1.1) = cells + (o.2.1.1 - Z.1) := by omega
  have e2 : slots + (Z1.2.1 - Z.2.1) + (o.2.1.2.1 - Z1.2.1) = slots + (o.2.1.2.1 - Z.2.1) := by omega
  rw [← z_toL]
  have hαm : ∀ a b, a ≤ b → b ≤ 999999 → α b = α a + (b - a) := by
    intro a b hab hb9
    induction b with
    | zero => have : a = 0 := by omega
              subst this; rfl
    | succ b ih =>
      by_cases h : a = b + 1
      · subst h; omega
      · have := ih (by omega) (by omega)
        have := hα b (by omega)
        omega
  refine hk.2 p l e R s m args below meth c H1 locs1 (cells + (Z1.1 - Z.1)) (slots + (Z1.2.1 - Z.2.1)) Q A arr C hS1 ⟨hP1, hD1.weaken (fun i x _ h => hin _ h), ?_⟩ hl ⟨?_, hm1.2.2.1 hcell.2.1, hcell.2.2⟩ (by rw [e1]; exact hc1) (by rw [e2]; exact hc2) (by rw [e1, e2]; exact hret)
  · exact zRo_same (fun b hb => hm1.2.2.2 b hb) hW.2.2
  · have := hαm Z.1 Z1.1 q1 (hm1.2.2.1 hcell.2.1)
    omega
theorem z_mono {pc : Nat} {ls : zL} {st : List Value} {o : zO} {as : List Value} {y : zK} {v : Option Value} {Z1 : zZ} {I1 : zI} {J1 : zJ} (hP : zP D cy α d y 0 (zin y.2.2.1 as) [] Z I J (v, Z1, I1, J1)) (hk : zP D cy α (d + 1) k pc ls st Z1 I1 J1 o) : Z.1 ≤ o.2.1.1 ∧ Z.2.1 ≤ o.2.1.2.1 ∧ (Z.1 ≤ 999999 → o.2.1.1 ≤ 999999) ∧ ∀ a, 1000000 ≤ a → o.2.1.2.2.1 a = Z.2.2.1 a ∧ o.2.2.1 a = I a :=
  ⟨Nat.le_trans hP.1.1 hk.1.1, Nat.le_trans hP.1.2.1 hk.1.2.1, fun h => hk.1.2.2.1 (hP.1.2.2.1 h), fun a ha => ⟨(hk.1.2.2.2 a ha).1.trans (hP.1.2.2.2 a ha).1, (hk.1.2.2.2 a ha).2.trans (hP.1.2.2.2 a ha).2⟩⟩
theorem z_CB {y : zK} {n idx : Nat} {rm : Room} (hts : ∀ w ∈ zT, w.before args s = true) (hy : zM y n) (hl : (Cond.methodLink k.2.1 idx y.2.2.2.2).before args s = true) (hR : rm.frames + 1 ≤ R.frames ∧ 8 + (y.2.2.1 + 11) + rm.locals ≤ R.locals) : CallB R s args k.2.1 idx y.2.2.2.2 y.1 y.2.2.1 y.2.2.2.1 (.code y.2.2.2.2 y.1 y.2.2.1 y.2.2.2.1 :: zT) rm rm.cells rm.slots n :=
  callB_of n hts (z_ws hy) rfl rfl rfl (hts _ hy.2.1) hl ⟨hy.2.2.2.2.1, hy.2.2.2.2.2.1, hy.2.2.2.2.2.2.1⟩ hR
theorem z_CN {y : zK} {n idx : Nat} {h : String} {rm : Room} (hts : ∀ w ∈ zT, w.before args s = true) (hy : zM y n) (hl : va_Nw (.methodLinkNest k.2.1 idx y.2.2.2.2 h) s) (hR : rm.frames + 1 ≤ R.frames ∧ 8 + (y.2.2.1 + 11) + rm.locals ≤ R.locals) : va_CN R s args k.2.1 idx y.2.2.2.2 h y.1 y.2.2.1 y.2.2.2.1 (.code y.2.2.2.2 y.1 y.2.2.1 y.2.2.2.1 :: zT) rm rm.cells rm.slots n :=
  va_cnB n hts (z_ws hy) rfl rfl rfl hl (hts _ hy.2.1) ⟨hy.2.2.2.2.1, hy.2.2.2.2.2.1, hy.2.2.2.2.2.2.1⟩ hR
set_option maxHeartbeats 1000000 in
theorem zs_callS : zr_callS (zP D cy α) := by
  intro d k pc ls st Z I J o idx y as n v Z1 I1 J1 hd hy hlk hst hn hlen hs hP hk
  refine ⟨z_mono hP hk, ?_⟩
  intro p l e R s m args below meth c H locs cells slots Q A arr C hS hW hl hcell hc1 hc2 hret
  obtain ⟨hx, hb, hml, hown, hnm, hts, hf1, hf2, hA, hα, hF⟩ := id C
  refine z_size hα hS hW hcell fun hsz => ?_
  refine z_call C hS hW hl hcell hc1 hc2 hsz hy hlen hP hk hret (fun hM hf hR hp => ⟨(as.map (zval α)).toArray, ?_⟩)
  rw [z_rev]
  have hroom := lv_room (m := m) (pc := pc) (ls := arr) (rest := (as.map (zval α)).reverse ++ st.map (zval α)) (st := st.map (zval α)) (by rw [z_sum]; exact hs)
  rcases hlk with hlk | ⟨h, hlk⟩
  · exact va_runS (As := as.map (zval α)) (rest := st.map (zval α)) ⟨hx, hb, hml, hown, hts⟩ hM ⟨z_CB hts hy (hts _ hlk) hR, hts _ hst⟩ hp rfl (by simp [hn]) hl.1 rfl hroom hd hf
  · exact va_runSN (As := as.map (zval α)) (rest := st.map (zval α)) ⟨hx, hb, hml, hown, hts⟩ hM ⟨z_CN hts hy (hF.2.2.2.1 _ _ _ _ hlk) hR, hts _ hst, trivial⟩ hp rfl (by simp [hn]) hl.1 rfl hroom hd hf
set_option maxHeartbeats 1000000 in
theorem zs_callV : zr_callV (zP D cy α) := by
  intro d k pc ls st Z I J o idx y as n v Z1 I1 J1 b ci hd hy hlk hin hsel hci hZ hn hlen hs hP hk
  refine ⟨z_mono hP hk, ?_⟩
  intro p l e R s m args below meth c H locs cells slots Q A arr C hS hW hl hcell hc1 hc2 hret
  obtain ⟨hx, hb, hml, hown, hnm, hts, hf1, hf2, hA, hα, hF⟩ := id C
  refine z_size hα hS hW hcell fun hsz => ?_
  refine z_call C hS hW hl hcell hc1 hc2 hsz hy hlen hP hk hret (fun hM hf hR hp => ⟨(Value.ref (α b) :: as.map (zval α)).toArray, ?_⟩)
  rw [z_rev]
  have hroom := lv_room (m := m) (pc := pc) (ls := arr) (rest := (as.map (zval α)).reverse ++ (Value.ref b :: st).map (zval α)) (st := st.map (zval α)) (by rw [z_sum]; exact hs)
  have he := zws_get (cy := cy) (α := α) (I := I) (J := J) hZ.1
  rw [zent_at hZ.2.2] at he
  have hrecv : ∃ cell : Cell, H[α b]? = some cell ∧ cell.vm.isStatics = false ∧ s.vm.findClass (zcR ci) = some cell.cls := va_recv hF.1 hW.1 (z_cl hci) he
  rcases hlk with hlk | ⟨h, hlk⟩
  · exact va_runV (C := zcR ci) (As := as.map (zval α)) (rest := st.map (zval α)) ⟨hx, hb, hml, hown, hts⟩ hM ⟨z_CB hts hy (hts _ hlk) hR, hts _ hin, hts _ hsel⟩ ⟨hp.1, hrecv, hp.2⟩ rfl (by simp [hn]) hl.1 rfl hroom hd hf
  · exact va_runVN (C := zcR ci) (As := as.map (zval α)) (rest := st.map (zval α)) ⟨hx, hb, hml, hown, hts⟩ hM ⟨z_CN hts hy (hF.2.2.2.1 _ _ _ _ hlk) hR, hts _ hin, hts _ hsel⟩ ⟨hp.1, hrecv, hp.2⟩ rfl (by simp [hn]) hl.1 rfl hroom hd hf
set_option maxHeartbeats 1000000 in
theorem zs_callI : zr_callI (zP D cy α) := by
  intro d k pc ls st Z I J o idx y as n Z1 I1 J1 b hd hy hlk hin hnm2 hret0 hn hlen hs hP hk
  refine ⟨z_mono hP hk, ?_⟩
  intro p l e R s m args below meth c H locs cells slots Q A arr C hS hW hl hcell hc1 hc2 hret
  obtain ⟨hx, hb, hml, hown, hnm, hts, hf1, hf2, hA, hα, hF⟩ := id C
  refine z_size hα hS hW hcell fun hsz => ?_
  refine z_call (v := none) C hS hW hl hcell hc1 hc2 hsz hy hlen hP hk hret (fun hM hf hR hp => ⟨(Value.ref (α b) :: as.map (zval α)).toArray, ?_⟩)
  rw [z_rev]
  have hroom := lv_room (m := m) (pc := pc) (ls := arr) (rest := (as.map (zval α)).reverse ++ (Value.ref b :: st).map (zval α)) (st := st.map (zval α)) (by rw [z_sum]; exact hs)
  have hCB := fun (hl : (Cond.methodLink k.2.1 idx y.2.2.2.2).before args s = true) => z_CB (k := k) (rm := { frames := d, cells := Z1.1 - Z.1, slots := Z1.2.1 - Z.2.1, locals := 37 * d }) hts hy hl hR
  have hCN := fun (h : String) (hl : va_Nw (.methodLinkNest k.2.1 idx y.2.2.2.2 h) s) => z_CN (k := k) (rm := { frames := d, cells := Z1.1 - Z.1, slots := Z1.2.1 - Z.2.1, locals := 37 * d }) hts hy hl hR
  rw [hret0] at hCB hCN hM
  rcases hlk with hlk | ⟨h, hlk⟩
  · exact va_runI (As := as.map (zval α)) (rest := st.map (zval α)) ⟨hx, hb, hml, hown, hts⟩ hM ⟨hCB (hts _ hlk), hnm2, hts _ hin⟩ hp rfl (by simp [hn]) hl.1 rfl hroom hd hf
  · exact va_runIN (As := as.map (zval α)) (rest := st.map (zval α)) ⟨hx, hb, hml, hown, hts⟩ hM ⟨hCN h (hF.2.2.2.1 _ _ _ _ hlk), hnm2, hts _ hin⟩ hp rfl (by simp [hn]) hl.1 rfl hroom hd hf
theorem zsC : zrC (zP D cy α) := ⟨zs_new, zs_newa, zs_newq, zs_obj, zs_callS, zs_callV, zs_callI, zs_max, zs_min, zs_abs, zs_copy, zs_ret⟩
end ZSD
