/-! new cells, calls, ends -/
section ZSC
variable {D : va_G} {cy : Nat → ClassId} {α : Nat → Nat}
variable {p : Program} {l : Launch} {e : Env} {R : Room} {s : State} {m : MethodId} {args : Array Value} {below : List Frame} {meth : Method} {c : Code} {H : Heap} {locs : List Loc} {cells slots : Nat} {Q : State → Prop} {A : Nat → Prop} {arr : Array Slot}
variable {d : Nat} {k : zK} {Z : zZ} {I : zI} {J : zJ}
theorem z_size {g : JFrame} (hα : ∀ a, a < 999999 → α (a + 1) = α a + 1) (hS : va_S A s.heap H locs) (hW : zWd D cy α A Z I J s H) (hcell : s.heap.size + cells = α Z.1 ∧ Z.1 ≤ 999999 ∧ α 0 ≤ s.heap.size) (kk : H.size = α Z.1 → W p l e R s m args below meth c H locs cells slots Q g) : W p l e R s m args below meth c H locs cells slots Q g := by
  intro T hT X
  have h1 := X.heapSize
  rw [hT] at h1
  have h2 : α Z.1 ≤ H.size := by
    cases hz : Z.1 with
    | zero => have := hS.1; omega
    | succ n =>
      have hn : n < Z.1 := by omega
      have h3 := (hW.1 n _ (zws_get (cy := cy) (α := α) (I := I) (J := J) hn)).lt
      have h4 := hα n (by omega)
      simp only at h3
      omega
  exact kk (by omega) T hT X
theorem z_dv {ci : Nat} (h : ci < 13) : ∀ j, j < zcN ci → defaultValue (zcY ci j) = if zrf ci j = true then Value.null else Value.int 0 := by
  match ci, h with
  | 0, _ => decide +kernel
  | 1, _ => decide +kernel
  | 2, _ => decide +kernel
  | 3, _ => decide +kernel
  | 4, _ => decide +kernel
  | 5, _ => decide +kernel
  | 6, _ => decide +kernel
  | 7, _ => decide +kernel
  | 8, _ => decide +kernel
  | 9, _ => decide +kernel
  | 10, _ => decide +kernel
  | 11, _ => decide +kernel
  | 12, _ => decide +kernel
  | n + 13, h => exact absurd h (by omega)
/-- the world behind a new cell -/
theorem zWd_push {H1 : Heap} {sh : Nat × Nat} {n : Nat} {I' : zI} {J' : zJ} (hW : zWd D cy α A Z I J s H) (hS : va_S A s.heap H locs) (hA : ∀ q, s.heap.size ≤ q → A q) (hz : Z.1 < 999999) (hsz : H.size = α Z.1) (z1 : H1.size = α Z.1 + 1) (o1 : ∀ q, q < α Z.1 → H1[q]? = H[q]?)
    (hI : ∀ b, b ≠ Z.1 → I' b = I b ∧ J' b = J b) (hat : va_at D vwCl (α Z.1, zent cy α (zZsh Z sh n) I' J' Z.1) H1) : zWd D cy α A (zZsh Z sh n) I' J' s H1 ∧ va_S A s.heap H1 locs := by
  have e := zws_push (cy := cy) (α := α) (Z := Z) (Z' := zZsh Z sh n) (I := I) (I' := I') (J := J) (J' := J') rfl (fun b hb => zent_ne (by simp only [zZsh]; rw [if_neg (by omega)]) (by simp only [zZsh]; rw [if_neg (by omega)]) (hI b (by omega)).1 (hI b (by omega)).2) rfl
  have hk : ∀ (k : Nat) (x : Nat × va_E), (zws cy α Z I J)[k]? = some x → H1[x.1]? = H[x.1]? := fun k x hx => o1 x.1 (by rw [← hsz]; exact (hW.1 k x hx).lt)
  have hP1 : va_P D vwCl (zws cy α Z I J ++ [(α Z.1, zent cy α (zZsh Z sh n) I' J' Z.1)]) H1 := (hW.1.kept hk).app (fun k x hx => by
    have hz : k < 1 := (List.getElem?_eq_some_iff.mp hx).1
    rw [show k = 0 by omega] at hx
    cases hx
    exact hat)
  have hD1 : va_D A (zws cy α Z I J ++ [(α Z.1, zent cy α (zZsh Z sh n) I' J' Z.1)]) := hW.2.1.push hW.1 hsz.symm (hA _ (by rw [← hsz]; exact hS.1))
  rw [e] at hP1 hD1
  refine ⟨⟨hP1, hD1, zRo_same (fun b hb => ⟨?_, (hI b (by omega)).1⟩) hW.2.2⟩, ?_⟩
  · simp only [zZsh]; rw [if_neg (by omega)]
  · refine ⟨Nat.le_trans hS.1 (by omega), fun x h1 h2 => (o1 x ?_).trans (hS.2.1 x h1 h2), hS.2.2⟩
    have := hS.1; omega
set_option maxHeartbeats 1000000 in
theorem zs_new : zr_new (zP D cy α) := by
  intro d k pc ls st Z I J o idx ci hd hci hcl hz ⟨hm, hk⟩
  have hm1 : Z.1 + 1 ≤ o.2.1.1 := hm.1
  have hm2 : Z.2.1 + zcN ci ≤ o.2.1.2.1 := hm.2.1
  refine ⟨⟨by omega, by omega, fun h => hm.2.2.1 (show Z.1 + 1 ≤ 999999 by omega), fun a ha => ?_⟩, ?_⟩
  · have h := hm.2.2.2 a ha
    simp only [zZsh, zzero] at h
    rw [if_neg (by omega), if_neg (by omega)] at h
    exact h
  intro p l e R s m args below meth c H locs cells slots Q A arr C hS hW hl hcell hc1 hc2 hret
  obtain ⟨hx, hb, hml, hown, hnm, hts, hf1, hf2, hA, hα, hK, hSt, hNw⟩ := id C
  refine z_size hα hS hW hcell fun hsz => ?_
  have hKn := hK.1 ci _ (z_cl hci)
  refine W.newcK hx hb hown (hts _ hcl) (hts _ (z_ins hci).1) (hts _ (z_ins hci).2) rfl hd (by omega) (by omega) hKn.2.1 hsz fun H1 kC hkC e1 z1 o1 => ?_
  have hat : va_at D vwCl (α Z.1, zent cy α (zZsh Z (0, ci) (zcN ci)) (zzero I Z.1) J Z.1) H1 := by
    rw [zent_at (kd := 0) (n := ci) (by simp [zZsh])]
    refine ⟨_, z_cl hci, (u_born (zcY ci) hts (z_in hci) hKn hkC e1 (z_ty hci)).to (fun j hj => ?_)⟩
    have hj' : j < zcN ci := hj
    rw [z_dv hci j hj']
    simp [vp_V, hj', zfv, zZsh, zzero, va_rf]
  obtain ⟨hW1, hS1⟩ := zWd_push hW hS hA hz hsz z1 o1 (fun b hb => ⟨by simp only [zzero]; rw [if_neg hb], rfl⟩) hat
  have e1 : cells + 1 + (o.2.1.1 - (zZsh Z (0, ci) (zcN ci)).1) = cells + (o.2.1.1 - Z.1) := by simp only [zZsh]; omega
  have e2 : slots + zcN ci + (o.2.1.2.1 - (zZsh Z (0, ci) (zcN ci)).2.1) = slots + (o.2.1.2.1 - Z.2.1) := by simp only [zZsh]; omega
  refine hk p l e R s m args below meth c H1 locs (cells + 1) (slots + zcN ci) Q A arr C hS1 hW1 hl ⟨?_, ?_, hcell.2.2⟩ (by rw [e1]; exact hc1) (by rw [e2]; exact hc2) (by rw [e1, e2]; exact hret)
  · show s.heap.size + (cells + 1) = α (Z.1 + 1)
    rw [hα _ hz]; omega
  · show Z.1 + 1 ≤ 999999
    omega
theorem z_cb (t : ArrayType) : componentBytes (newarray.typeOf t) ≤ 8 := by cases t <;> decide
set_option maxHeartbeats 1000000 in
theorem zs_newa : zr_newa (zP D cy α) := by
  intro d k pc ls st Z I J o t n N hd hkd harr hn hN hN2 hz ⟨hm, hk⟩
  have hm1 : Z.1 + 1 ≤ o.2.1.1 := hm.1
  have hm2 : Z.2.1 + N ≤ o.2.1.2.1 := hm.2.1
  refine ⟨⟨by omega, by omega, fun h => hm.2.2.1 (show Z.1 + 1 ≤ 999999 by omega), fun a ha => ?_⟩, ?_⟩
  · have h := hm.2.2.2 a ha
    simp only [zZsh, zzero] at h
    rw [if_neg (by omega), if_neg (by omega)] at h
    exact h
  intro p l e R s m args below meth c H locs cells slots Q A arr C hS hW hl hcell hc1 hc2 hret
  obtain ⟨hx, hb, hml, hown, hnm, hts, hf1, hf2, hA, hα, hK, hSt, hNw⟩ := id C
  refine z_size hα hS hW hcell fun hsz => ?_
  have hby : N * componentBytes (newarray.typeOf t) ≤ 536870912 := Nat.le_trans (Nat.mul_le_mul hN2 (z_cb t)) (by decide)
  refine va_newaK hx hb (hts _ harr) rfl hd rfl hn hN hby (by omega) (by omega) hsz fun H1 cA e1 z1 o1 hAr hNm => ?_
  have hat : va_at D vwCl (α Z.1, zent cy α (zZsh Z (zkind t, N) N) (zzero I Z.1) (zzeroJ J Z.1) Z.1) H1 := by
    rw [zent_at (kd := zkind t) (n := N) (by simp [zZsh])]
    have a1 : s.vm.findClass ("[" ++ FieldType.toString .int) = some (cy 1) := (hK.2 0 _ rfl).2
    have a2 : s.vm.findClass ("[" ++ FieldType.toString .long) = some (cy 2) := (hK.2 1 _ rfl).2
    have a3 : s.vm.findClass ("[" ++ FieldType.toString .byte) = some (cy 3) := (hK.2 2 _ rfl).2
    have a4 : s.vm.findClass ("[" ++ FieldType.toString .boolean) = some (cy 4) := (hK.2 3 _ rfl).2
    cases t
    all_goals first | (exact absurd hkd (by decide)) | skip
    all_goals simp only [newarray.typeOf] at e1 hNm
    · cases hNm.symm.trans a4
      simp only [zkind, newarray.typeOf, zent0]
      show H1[α Z.1]? = some (vp_cell (cy 4) (N, Sum.inl (zzero I Z.1 Z.1)))
      rw [e1, vp_cell_i]; simp [zzero, defaultValue]
    · cases hNm.symm.trans a3
      simp only [zkind, newarray.typeOf, zent0]
      show H1[α Z.1]? = some (vp_cell (cy 3) (N, Sum.inl (zzero I Z.1 Z.1)))
      rw [e1, vp_cell_i]; simp [zzero, defaultValue]
    · cases hNm.symm.trans a1
      simp only [zkind, newarray.typeOf, zent0]
      show H1[α Z.1]? = some (vp_cell (cy 1) (N, Sum.inl (zzero I Z.1 Z.1)))
      rw [e1, vp_cell_i]; simp [zzero, defaultValue]
    · cases hNm.symm.trans a2
      simp only [zkind, newarray.typeOf, zent0]
      show H1[α Z.1]? = some (vp_cell (cy 2) (N, Sum.inr (Sum.inl (zzeroJ J Z.1 Z.1))))
      rw [e1, vp_cell_l]; simp [zzeroJ, defaultValue]
  obtain ⟨hW1, hS1⟩ := zWd_push hW hS hA hz hsz z1 o1 (fun b hb => ⟨by simp only [zzero]; rw [if_neg hb], by simp only [zzeroJ]; rw [if_neg hb]⟩) hat
  have e1 : cells + 1 + (o.2.1.1 - (zZsh Z (zkind t, N) N).1) = cells + (o.2.1.1 - Z.1) := by simp only [zZsh]; omega
  have e2 : slots + N + (o.2.1.2.1 - (zZsh Z (zkind t, N) N).2.1) = slots + (o.2.1.2.1 - Z.2.1) := by simp only [zZsh]; omega
  refine hk p l e R s m args below meth c H1 locs (cells + 1) (slots + N) Q A arr C hS1 hW1 hl ⟨?_, ?_, hcell.2.2⟩ (by rw [e1]; exact hc1) (by rw [e2]; exact hc2) (by rw [e1, e2]; exact hret)
  · show s.heap.size + (cells + 1) = α (Z.1 + 1)
    rw [hα _ hz]; omega
  · show Z.1 + 1 ≤ 999999
    omega
set_option maxHeartbeats 1000000 in
theorem zs_newq : zr_newq (zP D cy α) := by
  intro d k pc ls st Z I J o idx n N hd hcl hn hN hN2 hz ⟨hm, hk⟩
  have hm1 : Z.1 + 1 ≤ o.2.1.1 := hm.1
  have hm2 : Z.2.1 + N ≤ o.2.1.2.1 := hm.2.1
  refine ⟨⟨by omega, by omega, fun h => hm.2.2.1 (show Z.1 + 1 ≤ 999999 by omega), fun a ha => ?_⟩, ?_⟩
  · have h := hm.2.2.2 a ha
    simp only [zZsh] at h
    rw [if_neg (by omega)] at h
    exact h
  intro p l e R s m args below meth c H locs cells slots Q A arr C hS hW hl hcell hc1 hc2 hret
  obtain ⟨hx, hb, hml, hown, hnm, hts, hf1, hf2, hA, hα, hK, hSt, hNw⟩ := id C
  refine z_size hα hS hW hcell fun hsz => ?_
  subst hN
  refine W.anew hx hb hown (hts _ hcl) (va_AO.use hNw.2.2) rfl hd rfl hn (Nat.le_trans (Nat.mul_le_mul_right 4 hN2) (by decide)) (by omega) (by omega) fun cA kA comp f1 f2 f3 f4 => ?_
  generalize hH1 : H.push ({ cls := cA, slots := Array.replicate n.toNatClampNeg .null, vm := .none } : Cell) = H1
  have z1 : H1.size = α Z.1 + 1 := by rw [← hH1, Array.size_push, hsz]
  have e1 : H1[α Z.1]? = some (arrV cA n.toNatClampNeg (fun _ => .null)) := by rw [← hH1, ← hsz, Array.getElem?_push_size, ← arrV_new]
  have o1 : ∀ q : Nat, q < α Z.1 → H1[q]? = H[q]? := fun q hq => by rw [← hH1, Array.getElem?_push, if_neg (by omega)]
  obtain ⟨kA', comp', g1, g2, g3, g4⟩ := (hK.2 4 _ rfl).2
  have hcA : cA = cy 5 := Option.some.inj (f1.symm.trans g4)
  have hat : va_at D vwCl (α Z.1, zent cy α (zZsh Z (5, n.toNatClampNeg) n.toNatClampNeg) I J Z.1) H1 := by
    rw [zent_at (kd := 5) (n := n.toNatClampNeg) (by simp [zZsh])]
    show H1[α Z.1]? = some (vp_cell (cy 5) (n.toNatClampNeg, Sum.inr (Sum.inr (Sum.inr (Sum.inr (fun j => ((zZsh Z (5, n.toNatClampNeg) n.toNatClampNeg).2.2.2 Z.1 j).map α))))))
    rw [e1, vp_cell_q, hcA]
    simp [zZsh, va_rf]
  obtain ⟨hW1, hS1⟩ := zWd_push hW hS hA hz hsz z1 o1 (fun b hb => ⟨rfl, rfl⟩) hat
  have e3 : cells + 1 + (o.2.1.1 - (zZsh Z (5, n.toNatClampNeg) n.toNatClampNeg).1) = cells + (o.2.1.1 - Z.1) := by simp only [zZsh]; omega
  have e2 : slots + n.toNatClampNeg + (o.2.1.2.1 - (zZsh Z (5, n.toNatClampNeg) n.toNatClampNeg).2.1) = slots + (o.2.1.2.1 - Z.2.1) := by simp only [zZsh]; omega
  rw [hsz]
  refine hk p l e R s m args below meth c H1 locs (cells + 1) (slots + n.toNatClampNeg) Q A arr C hS1 hW1 hl ⟨?_, ?_, hcell.2.2⟩ (by rw [e3]; exact hc1) (by rw [e2]; exact hc2) (by rw [e3, e2]; exact hret)
  · show s.heap.size + (cells + 1) = α (Z.1 + 1)
    rw [hα _ hz]; omega
  · show Z.1 + 1 ≤ 999999
    omega
theorem z_sum (α : Nat → Nat) (st : List Value) : ((st.map (zval α)).map (fun v => v.category)).sum = (st.map (fun v => v.category)).sum := by
  rw [List.map_map]; congr 1; apply List.map_congr_left; intro v _; exact zval_cat α v
theorem z_objw : Cond.instanceMethod objectInit ∈ zT ∧ Cond.code objectInit ⟨#[0xb1]⟩ 1 none ∈ zT := by decide +kernel
theorem zs_obj : zr_obj (zP D cy α) := by
  intro d k pc ls st Z I J o idx a h1 hd hw hs ⟨hm, hk⟩
  refine ⟨hm, ?_⟩
  intro p l e R s m args below meth c H locs cells slots Q A arr C hS hW hl hcell hc1 hc2 hret
  obtain ⟨hx, hb, hml, hown, hnm, hts, hf1, hf2, hA, hα, hK, hSt, hNw⟩ := id C
  refine W.objInit hx hb hown (hts _ hw) (hts _ z_objw.1) (hts _ z_objw.2) rfl (by rw [hml]; exact hl.1) rfl hd (by omega) ?_ (hk p l e R s m args below meth c H locs cells slots Q A arr C hS hW hl hcell hc1 hc2 hret)
  have := z_sum α st
  show 2 * 0 + ((st.map (zval α)).map fun v => v.category).sum + 12 ≤ R.locals
  omega
theorem z_mw : (Cond.static Lib.Math.max.name ∈ zT ∧ Cond.static Lib.Math.min.name ∈ zT ∧ Cond.static Lib.Math.abs.name ∈ zT) ∧ Cond.initialized "java/lang/Math" ∈ zT ∧ (Cond.code Lib.Math.max.name Lib.Math.max.code 2 (some .int) ∈ zT ∧ Cond.code Lib.Math.min.name Lib.Math.min.code 2 (some .int) ∈ zT ∧ Cond.code Lib.Math.abs.name Lib.Math.abs.code 1 (some .int) ∈ zT) ∧ Cond.native arraycopyName ∈ zT ∧ Cond.static arraycopyName ∈ zT ∧ Cond.initialized "java/lang/System" ∈ zT := by decide +kernel
theorem zs_max : zr_max (zP D cy α) := by
  intro d k pc ls st Z I J o idx x y h1 hd hw hs ⟨hm, hk⟩
  refine ⟨hm, ?_⟩
  intro p l e R s m args below meth c H locs cells slots Q A arr C hS hW hl hcell hc1 hc2 hret
  obtain ⟨hx, hb, hml, hown, hnm, hts, hf1, hf2, hA, hα, hK, hSt, hNw⟩ := id C
  have := z_sum α st
  exact va_mmax hx hb (by rw [hml]; exact hl.1.symm) hown (hts _ hw) (hts _ z_mw.1.1) (hts _ z_mw.2.1) (hts _ z_mw.2.2.1.1) (by omega) (by omega) (by omega) (by omega) hd (hk p l e R s m args below meth c H locs cells slots Q A arr C hS hW hl hcell hc1 hc2 hret)
theorem zs_min : zr_min (zP D cy α) := by
  intro d k pc ls st Z I J o idx x y h1 hd hw hs ⟨hm, hk⟩
  refine ⟨hm, ?_⟩
  intro p l e R s m args below meth c H locs cells slots Q A arr C hS hW hl hcell hc1 hc2 hret
  obtain ⟨hx, hb, hml, hown, hnm, hts, hf1, hf2, hA, hα, hK, hSt, hNw⟩ := id C
  have := z_sum α st
  exact va_mmin hx hb (by rw [hml]; exact hl.1.symm) hown (hts _ hw) (hts _ z_mw.1.2.1) (hts _ z_mw.2.1) (hts _ z_mw.2.2.1.2.1) (by omega) (by omega) (by omega) (by omega) hd (hk p l e R s m args below meth c H locs cells slots Q A arr C hS hW hl hcell hc1 hc2 hret)
theorem zs_abs : zr_abs (zP D cy α) := by
  intro d k pc ls st Z I J o idx x h1 hd hw hs ⟨hm, hk⟩
  refine ⟨hm, ?_⟩
  intro p l e R s m args below meth c H locs cells slots Q A arr C hS hW hl hcell hc1 hc2 hret
  obtain ⟨hx, hb, hml, hown, hnm, hts, hf1, hf2, hA, hα, hK, hSt, hNw⟩ := id C
  have := z_sum α st
  exact va_mabs hx hb (by rw [hml]; exact hl.1.symm) hown (hts _ hw) (hts _ z_mw.1.2.2) (hts _ z_mw.2.1) (hts _ z_mw.2.2.1.2.2) (by omega) (by omega) (by omega) (by omega) hd (hk p l e R s m args below meth c H locs cells slots Q A arr C hS hW hl hcell hc1 hc2 hret)
theorem zs_copy : zr_copy (zP D cy α) := by
  intro d k pc ls st Z I J o idx a0 a n0 n1 sp dp n h1 hd hw hZ0 hZ1 g1 g2 g3 g4 g5 hs ⟨hm, hk⟩
  have hne : ∀ b, b ≠ a → zrow I a (zcpy (I a0) (I a) sp.toNatClampNeg dp.toNatClampNeg n.toNatClampNeg) b = I b := fun b hb => by simp only [zrow]; rw [if_neg hb]
  refine ⟨⟨hm.1, hm.2.1, hm.2.2.1, fun b hb => ⟨(hm.2.2.2 b hb).1, (hm.2.2.2 b hb).2.trans (hne b (by have := hZ1.2.1; omega))⟩⟩, ?_⟩
  intro p l e R s m args below meth c H locs cells slots Q A arr C hS hW hl hcell hc1 hc2 hret
  obtain ⟨hx, hb, hml, hown, hnm, hts, hf1, hf2, hA, hα, hK, hSt, hNw⟩ := id C
  have := z_sum α st
  have he0 := zws_get (cy := cy) (α := α) (I := I) (J := J) hZ0.1
  rw [zent_at hZ0.2.2] at he0
  have he1 := zws_get (cy := cy) (α := α) (I := I) (J := J) hZ1.1
  rw [zent_at hZ1.2.2] at he1
  refine va_copyi hx hb (by rw [hml]; exact hl.1.symm) hown (hts _ hw) (hts _ z_mw.2.2.2.1) (hts _ z_mw.2.2.2.2.1) (hts _ z_mw.2.2.2.2.2) hK hW.1 hW.2.1 hS a0 a 0 0 he0 he1 rfl rfl rfl g1 g2 g3 g4 g5 (fun _ _ => rfl) (by omega) ?_ hd (fun H1 locs1 hP hD hS1 => ?_)
  · have hnw : nativeFrameWords "java/lang/System" "arraycopy" 5 = 7 := by decide +kernel
    rw [hnw, z_sum]; omega
  · refine hk p l e R s m args below meth c H1 locs1 cells slots Q A arr C hS1 (zWd_set hW hZ1.2.1 rfl (fun b hb => ⟨rfl, rfl, hne b hb, rfl⟩) ?_ hP hD) hl hcell hc1 hc2 hret
    rw [zent_at hZ1.2.2]
    simp [zent0, zrow, zcpy]
theorem zs_ret : zr_ret (zP D cy α) := by
  intro d k pc ls Z I J v hv
  refine ⟨⟨Nat.le_refl _, Nat.le_refl _, id, fun _ _ => ⟨rfl, rfl⟩⟩, ?_⟩
  intro p l e R s m args below meth c H locs cells slots Q A arr C hS hW hl hcell hc1 hc2 hret
  have h := hret H locs arr pc hS hW hv
  simp only [Nat.sub_self, Nat.add_zero] at h
  cases v with
  | none => exact h
  | some w => exact h
-- calls
def zQ (D : va_G) (cy : Nat → ClassId) (α : Nat → Nat) (A : Nat → Prop) (v : Option Value) (Z : zZ) (I : zI) (J : zJ) : Array Value → State → Outcome → State → Prop := fun _ st oc t => oc = .returned (v.map (zval α)) ∧ va_P D vwCl (zws cy α Z I J) t.heap ∧ va_D A (zws cy α Z I J) ∧ va_F A st t
def zPc (D : va_G) (cy : Nat → ClassId) (α : Nat → Nat) (Z : zZ) (I : zI) (J : zJ) (U : State) : Prop := U.heap.size = α Z.1 ∧ zFix D cy α (va_A (zws cy α Z I J) (α Z.1)) U ∧ zWd D cy α (va_A (zws cy α Z I J) (α Z.1)) Z I J U U.heap
theorem zarg_len (as : List Value) : (lg_sl (as.map (zval α))).length = (zarg as).length := by
  induction as with
  | nil => rfl
  | cons v t ih => cases v <;> simp [lg_sl, zarg, zval, Value.category] at ih ⊢ <;> omega
theorem zarg_mem {as : List Value} : ∀ {i j : Nat} {v : Value}, zget (zarg as) j = some v → (i + j, zval α v) ∈ lv_args i (as.map (zval α)) := by
  induction as with
  | nil => intro i j v h; simp [zarg, zget] at h
  | cons w t ih =>
    intro i j v h
    have one : ∀ (w : Value), w.category = 1 → zarg (w :: t) = some w :: zarg t → zget (zarg (w :: t)) j = some v → (i + j, zval α v) ∈ lv_args i ((w :: t).map (zval α)) := by
      intro w hc he h
      rw [he] at h
      have hc2 : ¬ (zval α w).category = 2 := by rw [zval_cat]; omega
      simp only [List.map_cons, lv_args, if_neg hc2]
      cases j with
      | zero => simp only [zget, Option.some.injEq] at h; subst h; exact List.mem_cons_self
      | succ j =>
        simp only [zget] at h
        have := ih (i := i + 1) h
        exact List.mem_cons_of_mem _ (by rw [show i + (j + 1) = i + 1 + j by omega]; exact this)
    have two : ∀ (w : Value), w.category = 2 → zarg (w :: t) = some w :: none :: zarg t → zget (zarg (w :: t)) j = some v → (i + j, zval α v) ∈ lv_args i ((w :: t).map (zval α)) := by
      intro w hc he h
      rw [he] at h
      have hc2 : (zval α w).category = 2 := by rw [zval_cat]; exact hc
      simp only [List.map_cons, lv_args, if_pos hc2]
      match j, h with
      | 0, h => simp only [zget, Option.some.injEq] at h; subst h; exact List.mem_cons_self
      | 1, h => simp [zget] at h
      | j + 2, h =>
        simp only [zget] at h
        have := ih (i := i + 2) h
        exact List.mem_cons_of_mem _ (by rw [show i + (j + 2) = i + 2 + j by omega]; exact this)
    cases w with
    | int x => exact one _ rfl rfl h
    | long x => exact two _ rfl rfl h
    | float x => exact one _ rfl rfl h
    | double x => exact two _ rfl rfl h
    | null => exact one _ rfl rfl h
    | ref x => exact one _ rfl rfl h
    | retAddr x => exact one _ rfl rfl h
theorem zget_app {l : zL} {n i : Nat} {v : Value} (h : zget (l ++ List.replicate n none) i = some v) : zget l i = some v := by
  induction l generalizing i with
  | nil =>
    exfalso
    induction n generalizing i with
    | zero => simp [zget] at h
    | succ n ih =>
      rw [List.nil_append, List.replicate_succ] at h
      cases i with
      | zero => simp [zget] at h
      | succ i => exact ih h
  | cons x t ih =>
    cases i with
    | zero => simpa [zget] using h
    | succ i => simp only [List.cons_append, zget] at h ⊢; exact ih h
set_option maxHeartbeats 2000000 in
theorem zMet {as : List Value} {y : zK} {n : Nat} {v : Option Value} {Z1 : zZ} {I1 : zI} {J1 : zJ} (hα : ∀ a, a < 999999 → α (a + 1) = α a + 1) (h0 : α 0 ≤ α Z.1) (hz : Z.1 ≤ 999999) (hy : zM y n) (hP : zP D cy α d y 0 (zin y.2.2.1 as) [] Z I J (v, Z1, I1, J1)) (hlen : (zarg as).length ≤ y.2.2.1) :
    Met l y.2.2.2.2 (.code y.2.2.2.2 y.1 y.2.2.1 y.2.2.2.1 :: zT) ({ frames := d, cells := Z1.1 - Z.1, slots := Z1.2.1 - Z.2.1, locals := 37 * d }) (va_Pc (as.map (zval α)) (zPc D cy α Z I J)) (zQ D cy α (va_A (zws cy α Z I J) (α Z.1)) v Z1 I1 J1) (Z1.1 - Z.1) (Z1.2.1 - Z.2.1) (va_A (zws cy α Z I J) (α Z.1)) := by
  refine Met.ofW (cc := y.1) (maxL := y.2.2.1) (ret := y.2.2.2.1) hy.2.2.2.1 rfl ?_
  intro p e s m args below meth c s₁ B hml hv
  obtain ⟨rfl, hsz, hF, hW⟩ := hv
  have hts := atoms_spec (ws := .code y.2.2.2.2 y.1 y.2.2.1 y.2.2.2.1 :: zT) B.pre
  have hr := B.returns
  have hlocks := B.notSynchronized
  have hx := B.exec
  have hb := B.bytes
  have hown : s.vm.findClass y.2.1 = some m.cls := by rw [hy.2.2.1]; exact findClass_of_methodNamed B.named
  have hnm : meth.name = y.2.2.2.2.name := (name_of_methodNamed B.named B.method).1
  have hl := lv_entry (as.map (zval α)) (n := y.2.2.1) (by rw [zarg_len]; exact hlen)
  rw [lg_entry_eq]
  generalize (lg_sl (as.map (zval α)) ++ List.replicate (y.2.2.1 - (lg_sl (as.map (zval α))).length) Slot.unset).toArray = arr at hl ⊢
  have hloc : zloc α (zin y.2.2.1 as) y.2.2.1 arr := by
    refine ⟨hl.1, hl.2.1, fun i w hw => ?_, ?_⟩
    · have := zarg_mem (α := α) (i := 0) (zget_app hw)
      rw [Nat.zero_add] at this
      exact hl.2.2 (i, zval α w) this
    · simp [zin]; omega
  have hA : ∀ q, s.heap.size ≤ q → va_A (zws cy α Z I J) (α Z.1) q := fun q hq => Or.inr (by rw [← hsz]; exact hq)
  refine hP.2 p l e _ s m _ below meth c s.heap [] 0 0 _ (va_A (zws cy α Z I J) (α Z.1)) arr ⟨hx, hb, hml, hown, hnm, fun w h => hts w (List.mem_cons_of_mem _ h), Nat.le_refl d, Nat.le_refl _, hA, hα, hF⟩ va_S.rf hW hloc ⟨by rw [hsz]; rfl, hz, by rw [hsz]; exact h0⟩ (by rw [Nat.zero_add]; exact Nat.le_refl _) (by rw [Nat.zero_add]; exact Nat.le_refl _) (fun H' locs' arr' pc' hS' hW' hR' => ?_)
  simp only [Nat.zero_add]
  have hq : ∀ t : State, t.heap = H' → zQ D cy α (va_A (zws cy α Z I J) (α Z.1)) v Z1 I1 J1 (as.map (zval α)).toArray s (.returned (v.map (zval α))) t := fun t ht => ⟨rfl, by rw [ht]; exact hW'.1, hW'.2.1, hS'.F ht⟩
  cases v with
  | none => exact W.vret hx hb (by rw [hr]; exact hR'.2) (fun t ht _ => hq t ht) hS'.2.2 hR'.1
  | some w =>
    cases w with
    | int x =>
      obtain ⟨h1, ty, h2, h3⟩ := hR'
      exact W.zret hx hb (by rw [hr]; exact h2) h3 (fun t ht _ => hq t ht) hS'.2.2 h1
    | long x => exact W.lret hx hb (by rw [hr]; exact hR'.2) (fun t ht _ => hq t ht) hS'.2.2 hR'.1
    | float x => exact hR'.elim
    | double x => exact hR'.elim
    | retAddr x => exact hR'.elim
    | null =>
      obtain ⟨h1, ty, h2⟩ := hR'
      exact W.aret (v := .null) hx hb (by rw [hr]; exact h2) (Or.inl ⟨_, rfl⟩) (Or.inl rfl) (fun t ht _ => hq t ht) hS'.2.2 h1
    | ref x =>
      obtain ⟨h1, ty, h2⟩ := hR'
      exact W.aret (v := .ref (α x)) hx hb (by rw [hr]; exact h2) (Or.inl ⟨_, rfl⟩) (Or.inr ⟨_, rfl⟩) (fun t ht _ => hq t ht) hS'.2.2 h1
end ZSC
