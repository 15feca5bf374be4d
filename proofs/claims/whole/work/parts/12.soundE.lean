/-! texts; all rules; the law's own body -/
section ZSE
variable {D : va_G} {cy : Nat → ClassId} {α : Nat → Nat}
variable {p : Program} {l : Launch} {e : Env} {R : Room} {s : State} {m : MethodId} {args : Array Value} {below : List Frame} {meth : Method} {c : Code} {H : Heap} {locs : List Loc} {cells slots : Nat} {Q : State → Prop} {A : Nat → Prop} {arr : Array Slot}
variable {d : Nat} {k : zK} {Z : zZ} {I : zI} {J : zJ}
theorem zs_ldcs : zr_ldcs (zP D cy α) := by
  intro d k pc ls st Z I J o idx b hd hw ⟨hm, hk⟩
  refine ⟨hm, ?_⟩
  intro p l e R s m args below meth c H locs cells slots Q A arr C hS hW hl hcell hc1 hc2 hret
  obtain ⟨hx, hb, hml, hown, hnm, hts, hf1, hf2, hA, hα, hK, hSt, hNw⟩ := id C
  have G := hk p l e R s m args below meth c H locs cells slots Q A arr C hS hW hl hcell hc1 hc2 hret
  obtain ⟨ho, ⟨rfl, rfl⟩ | ⟨rfl, rfl⟩⟩ := hw
  · exact va_ldcS hx hb (by rw [← ho]; exact hown) hSt.2.2.2.1 hd G
  · exact va_ldcS hx hb (by rw [← ho]; exact hown) hSt.2.2.2.2 hd G
theorem z_str {b : Nat} (h : zstr b) : ∃ i, i < 2 ∧ b = 1000003 + i := by
  rcases h with rfl | rfl
  · exact ⟨0, by omega, rfl⟩
  · exact ⟨1, by omega, rfl⟩
theorem zs_getv : zr_getv (zP D cy α) := by
  intro d k pc ls st Z I J o idx b hd hw hs ⟨hm, hk⟩
  refine ⟨hm, ?_⟩
  intro p l e R s m args below meth c H locs cells slots Q A arr C hS hW hl hcell hc1 hc2 hret
  obtain ⟨hx, hb, hml, hown, hnm, hts, hf1, hf2, hA, hα, hK, hSt, hNw⟩ := id C
  have G := hk p l e R s m args below meth c H locs cells slots Q A arr C hS hW hl hcell hc1 hc2 hret
  obtain ⟨i, hi, rfl⟩ := z_str hs
  have h := (hSt.2.2.1.1 i hi).2.2.1
  exact vk_getf hx hb (v := .ref (α (1000003 + i + 2))) (by rw [show 1000003 + i + 2 = 1000005 + i by omega]; exact h) hS hown (hts _ hw) (fun _ h => h) hd G
theorem zs_getc : zr_getc (zP D cy α) := by
  intro d k pc ls st Z I J o idx b hd hw hs ⟨hm, hk⟩
  refine ⟨hm, ?_⟩
  intro p l e R s m args below meth c H locs cells slots Q A arr C hS hW hl hcell hc1 hc2 hret
  obtain ⟨hx, hb, hml, hown, hnm, hts, hf1, hf2, hA, hα, hK, hSt, hNw⟩ := id C
  have G := hk p l e R s m args below meth c H locs cells slots Q A arr C hS hW hl hcell hc1 hc2 hret
  obtain ⟨i, hi, rfl⟩ := z_str hs
  exact vk_getf hx hb (v := .int 0) (hSt.2.2.1.1 i hi).2.1 hS hown (hts _ hw) (fun _ h => h) hd G
theorem zs_cmpS : zr_cmpS (zP D cy α) := by
  intro d k pc ls st Z I J o idx hd hw ⟨hm, hk⟩
  refine ⟨hm, ?_⟩
  intro p l e R s m args below meth c H locs cells slots Q A arr C hS hW hl hcell hc1 hc2 hret
  obtain ⟨hx, hb, hml, hown, hnm, hts, hf1, hf2, hA, hα, hK, hSt, hNw⟩ := id C
  exact va_gets hx hb hSt.1.2.2 hS hown (hts _ hw) (fun _ h => h) hd (hk p l e R s m args below meth c H locs cells slots Q A arr C hS hW hl hcell hc1 hc2 hret)
theorem zs_fmt : zr_fmt (zP D cy α) := by
  intro d k pc ls st Z I J o idx hd hw ⟨hm, hk⟩ ⟨hm2, hk2⟩
  refine ⟨hm, ?_⟩
  intro p l e R s m args below meth c H locs cells slots Q A arr C hS hW hl hcell hc1 hc2 hret
  obtain ⟨hx, hb, hml, hown, hnm, hts, hf1, hf2, hA, hα, hK, hSt, hNw⟩ := id C
  obtain ⟨v, hv, hZ⟩ := hSt.2.1
  rcases hv with rfl | rfl
  · exact va_gets hx hb hZ hS hown (hts _ hw) (fun _ h => h) hd (hk2 p l e R s m args below meth c H locs cells slots Q A arr C hS hW hl hcell hc1 hc2 hret)
  · exact va_gets hx hb hZ hS hown (hts _ hw) (fun _ h => h) hd (hk p l e R s m args below meth c H locs cells slots Q A arr C hS hW hl hcell hc1 hc2 hret)
theorem zs_balr : zr_balr (zP D cy α) := by
  intro d k pc ls st Z I J o a n i hd hZ hin ⟨hm, hk⟩
  refine ⟨hm, ?_⟩
  intro p l e R s m args below meth c H locs cells slots Q A arr C hS hW hl hcell hc1 hc2 hret
  obtain ⟨hx, hb, hml, hown, hnm, hts, hf1, hf2, hA, hα, hK, hSt, hNw⟩ := id C
  obtain ⟨cell, h1, h2, h3, h4, h5, h6⟩ := zs_T (hW.2.2.2 a n hZ) hS
  have hlt : i.toNatClampNeg < n := Nat.not_le.mp fun q => hin (Or.inr q)
  exact W.bald hx hb h1 h2 h3 (zs_vin hin h4) (h6 _ hlt) rfl rfl hd (hk p l e R s m args below meth c H locs cells slots Q A arr C hS hW hl hcell hc1 hc2 hret)
theorem zs_alenr : zr_alenr (zP D cy α) := by
  intro d k pc ls st Z I J o a n hd hZ ⟨hm, hk⟩
  refine ⟨hm, ?_⟩
  intro p l e R s m args below meth c H locs cells slots Q A arr C hS hW hl hcell hc1 hc2 hret
  obtain ⟨hx, hb, hml, hown, hnm, hts, hf1, hf2, hA, hα, hK, hSt, hNw⟩ := id C
  obtain ⟨cell, h1, h2, h3, h4, h5, h6⟩ := zs_T (hW.2.2.2 a n hZ) hS
  exact W.alen (n := Int32.ofNat n) hx hb h1 h2 h5 rfl rfl hd (hk p l e R s m args below meth c H locs cells slots Q A arr C hS hW hl hcell hc1 hc2 hret)
set_option maxHeartbeats 1000000 in
theorem zs_callK : zr_callK (zP D cy α) := by
  intro d k pc ls st Z I J o idx y as n v Z1 I1 J1 b hd hy hlk hin hsel hstr hn hlen hs hP hk
  refine ⟨z_mono hP hk, ?_⟩
  intro p l e R s m args below meth c H locs cells slots Q A arr C hS hW hl hcell hc1 hc2 hret
  obtain ⟨hx, hb, hml, hown, hnm, hts, hf1, hf2, hA, hα, hF⟩ := id C
  refine z_size hα hS hW hcell fun hsz => ?_
  refine z_call C hS hW hl hcell hc1 hc2 hsz hy hlen hP hk hret (fun hM hf hR hp => ⟨(Value.ref (α b) :: as.map (zval α)).toArray, ?_⟩)
  rw [z_rev]
  have hroom := lv_room (m := m) (pc := pc) (ls := arr) (rest := (as.map (zval α)).reverse ++ (Value.ref b :: st).map (zval α)) (st := st.map (zval α)) (by rw [z_sum]; exact hs)
  obtain ⟨i, hi, rfl⟩ := z_str hstr
  have hrecv : ∃ cell : Cell, H[α (1000003 + i)]? = some cell ∧ cell.vm.isStatics = false ∧ s.vm.findClass "java/lang/String" = some cell.cls := vk_recv (adK := fun i => α (1000003 + i)) (i := i) hF.2.1.2.2.1 hi hS
  rcases hlk with hlk | ⟨h, hlk⟩
  · exact va_runV (C := "java/lang/String") (As := as.map (zval α)) (rest := st.map (zval α)) ⟨hx, hb, hml, hown, hts⟩ hM ⟨z_CB hts hy (hts _ hlk) hR, hts _ hin, hts _ hsel⟩ ⟨hp.1, hrecv, hp.2⟩ rfl (by simp [hn]) hl.1 rfl hroom hd hf
  · exact va_runVN (C := "java/lang/String") (As := as.map (zval α)) (rest := st.map (zval α)) ⟨hx, hb, hml, hown, hts⟩ hM ⟨z_CN hts hy (hF.2.2.2.1 _ _ _ _ hlk) hR, hts _ hin, hts _ hsel⟩ ⟨hp.1, hrecv, hp.2⟩ rfl (by simp [hn]) hl.1 rfl hroom hd hf
theorem zs_i2c : zr_i2c (zP D cy α) := by
  intro d k pc ls st Z I J o x hd ⟨hm, hk⟩
  refine ⟨hm, ?_⟩
  intro p l e R s m args below meth c H locs cells slots Q A arr C hS hW hl hcell hc1 hc2 hret
  obtain ⟨hx, hb, -⟩ := id C
  exact lv_i2c hx hb hd rfl (hk p l e R s m args below meth c H locs cells slots Q A arr C hS hW hl hcell hc1 hc2 hret)
theorem zsD : zrD (zP D cy α) := ⟨zs_ldcs, zs_getv, zs_getc, zs_cmpS, zs_fmt, zs_balr, zs_alenr, zs_callK, zs_i2c⟩
/-- A RUN OF THE LITTLE MACHINE IS ONE OF THE BIG ONE -/
theorem zE_sound {pc : Nat} {ls : zL} {st : List Value} {o : zO} (h : zE d k pc ls st Z I J o) : zP D cy α d k pc ls st Z I J o := h _ ⟨zsA, zsB, zsC, zsD⟩
end ZSE
