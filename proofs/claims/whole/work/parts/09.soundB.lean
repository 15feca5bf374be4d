/-! fields and arrays -/
section ZSB
variable {D : va_G} {cy : Nat → ClassId} {α : Nat → Nat}
variable {p : Program} {l : Launch} {e : Env} {R : Room} {s : State} {m : MethodId} {args : Array Value} {below : List Frame} {meth : Method} {c : Code} {H : Heap} {locs : List Loc} {cells slots : Nat} {Q : State → Prop} {A : Nat → Prop} {arr : Array Slot}
variable {d : Nat} {k : zK} {Z : zZ} {I : zI} {J : zJ}
theorem z_rf {ci f : Nat} (h : zrf ci f = true) : (∃ n, zcY ci f = .object n) ∨ ∃ t, zcY ci f = .array t := by
  unfold zrf at h
  split at h
  · rename_i n h9; exact Or.inl ⟨n, h9⟩
  · rename_i n h9; exact Or.inr ⟨n, h9⟩
  · cases h
theorem z_fr {ci f b : Nat} (h : zrf ci f = true) : narrow (zcY ci f) (.ref b) = .ref b ∧ fits (zcY ci f) (.ref b) = true := by
  rcases z_rf h with ⟨n, e⟩ | ⟨t, e⟩ <;> rw [e] <;> exact ⟨rfl, rfl⟩
theorem zfs_get {ci f : Nat} {g : Nat → Value} (h : f < zcN ci) : ((List.range (zcN ci)).map g)[f]? = some (g f) := by simp [h]
theorem zfs_set {n f : Nat} {g g' : Nat → Value} {v : Value} (hv : g' f = v) (h : ∀ j, j ≠ f → g' j = g j) : ((List.range n).map g).set f v = (List.range n).map g' := by
  apply List.ext_getElem?
  intro b
  rw [List.getElem?_set]
  by_cases hb : f = b
  · subst hb
    by_cases hl : f < n
    · simp [hl, hv]
    · simp [hl]
  · rw [if_neg hb]
    by_cases hl : b < n
    · simp [hl, h b (Ne.symm hb)]
    · simp [hl]
theorem zRo_same {Z' : zZ} {I' : zI} {U : State} {H : Heap} (h : ∀ a, 1000000 ≤ a → Z'.2.2.1 a = Z.2.2.1 a ∧ I' a = I a) (w : zRo A α Z I U H) : zRo A α Z' I' U H := by
  refine ⟨fun a n q => ?_, fun a n q => ?_⟩
  · obtain ⟨q1, q2, q3⟩ := q
    obtain ⟨e1, e2⟩ := h a q1
    rw [e2]
    exact w.1 a n ⟨q1, q2, by rw [← e1]; exact q3⟩
  · obtain ⟨q1, q3⟩ := q
    obtain ⟨e1, e2⟩ := h a (by omega)
    rw [e2]
    exact w.2 a n ⟨q1, by rw [← e1]; exact q3⟩
theorem zent_ne {Z' : zZ} {I' : zI} {J' : zJ} {b : Nat} (h1 : Z'.2.2.1 b = Z.2.2.1 b) (h2 : Z'.2.2.2 b = Z.2.2.2 b) (h3 : I' b = I b) (h4 : J' b = J b) : zent cy α Z' I' J' b = zent cy α Z I J b := by
  unfold zent zent0
  rw [h1, h2, h3, h4]
  have : zfv α Z' I' b = zfv α Z I b := by
    funext ci f
    unfold zfv
    rw [h2, h3]
  rw [this]
theorem zu_ne {β : Type} {I : Nat → Nat → β} {a k b : Nat} {v : β} (h : b ≠ a) : zu I a k v b = I b := by
  funext j; unfold zu; rw [if_neg (fun q => h q.1)]
theorem zu_at {β : Type} {I : Nat → Nat → β} {a k j : Nat} {v : β} : zu I a k v a j = if j = k then v else I a j := by
  unfold zu
  by_cases h : j = k
  · rw [if_pos ⟨rfl, h⟩, if_pos h]
  · rw [if_neg (fun q => h q.2), if_neg h]
set_option maxHeartbeats 1000000 in
theorem zs_geti : zr_geti (zP D cy α) := by
  intro d k pc ls st Z I J o idx ci f a hd hF hZ hr ⟨hm, hk⟩
  refine ⟨hm, ?_⟩
  intro p l e R s m args below meth c H locs cells slots Q A arr C hS hW hl hcell hc1 hc2 hret
  obtain ⟨hx, hb, hml, hown, hnm, hts, hf1, hf2, hA, hα, hK, hSt, hNw⟩ := id C
  have G := hk p l e R s m args below meth c H locs cells slots Q A arr C hS hW hl hcell hc1 hc2 hret
  obtain ⟨hci, hkf, hlink⟩ := hF
  have he := zws_get (cy := cy) (α := α) (I := I) (J := J) hZ.1
  rw [zent_at hZ.2.2] at he
  have hv : ((List.range (zcN ci)).map (zfv α Z I a ci))[f]? = some (Value.int (I a f)) := by rw [zfs_get hkf]; simp [zfv, hr]
  rcases hlink with hlink | ⟨h, hlink⟩
  · exact va_get (C := zcR ci) (T := zcT ci) (N := zcN ci) hx hb hts (z_in hci) hown hK hW.1 a he (z_cl hci) f hkf (hts _ hlink) (fun _ h => h) hv hd G
  · exact va_getN (C := zcR ci) (T := zcT ci) (N := zcN ci) hx hb hts (z_in hci) hown hK hW.1 a he (z_cl hci) f hkf (va_Nw.use rfl (hNw.1 _ _ _ _ _ _ hlink)) (fun _ h => h) hv hd G
set_option maxHeartbeats 1000000 in
theorem zs_getr : zr_getr (zP D cy α) := by
  intro d k pc ls st Z I J o idx ci f a b hd hF hZ hr hb9 ⟨hm, hk⟩
  refine ⟨hm, ?_⟩
  intro p l e R s m args below meth c H locs cells slots Q A arr C hS hW hl hcell hc1 hc2 hret
  obtain ⟨hx, hb, hml, hown, hnm, hts, hf1, hf2, hA, hα, hK, hSt, hNw⟩ := id C
  have G := hk p l e R s m args below meth c H locs cells slots Q A arr C hS hW hl hcell hc1 hc2 hret
  obtain ⟨hci, hkf, hlink⟩ := hF
  have he := zws_get (cy := cy) (α := α) (I := I) (J := J) hZ.1
  rw [zent_at hZ.2.2] at he
  have hv : ((List.range (zcN ci)).map (zfv α Z I a ci))[f]? = some (Value.ref (α b)) := by rw [zfs_get hkf]; simp [zfv, hr, hb9, va_rf]
  rcases hlink with hlink | ⟨h, hlink⟩
  · exact va_get (C := zcR ci) (T := zcT ci) (N := zcN ci) hx hb hts (z_in hci) hown hK hW.1 a he (z_cl hci) f hkf (hts _ hlink) (fun _ h => h) hv hd G
  · exact va_getN (C := zcR ci) (T := zcT ci) (N := zcN ci) hx hb hts (z_in hci) hown hK hW.1 a he (z_cl hci) f hkf (va_Nw.use rfl (hNw.1 _ _ _ _ _ _ hlink)) (fun _ h => h) hv hd G
/-- the world behind a write to one cell -/
theorem zWd_set {Z' : zZ} {I' : zI} {J' : zJ} {H1 : Heap} {a : Nat} {x : va_E} (hW : zWd D cy α A Z I J s H) (ha : a < 1000000) (hz : Z'.1 = Z.1) (h1 : ∀ b, b ≠ a → Z'.2.2.1 b = Z.2.2.1 b ∧ Z'.2.2.2 b = Z.2.2.2 b ∧ I' b = I b ∧ J' b = J b) (hx : x = zent cy α Z' I' J' a)
    (hP : va_P D vwCl ((zws cy α Z I J).set a (α a, x)) H1) (hD : va_D A ((zws cy α Z I J).set a (α a, x))) : zWd D cy α A Z' I' J' s H1 := by
  have e := zws_set (cy := cy) (α := α) (Z := Z) (Z' := Z') (I := I) (I' := I') (J := J) (J' := J') (a := a) hz (fun b hb => zent_ne (h1 b hb).1 (h1 b hb).2.1 (h1 b hb).2.2.1 (h1 b hb).2.2.2) hx
  rw [e] at hP hD
  exact ⟨hP, hD, zRo_same (fun b hb => ⟨(h1 b (by omega)).1, (h1 b (by omega)).2.2.1⟩) hW.2.2⟩
theorem zs_putg {pc idx ci f a : Nat} {ls : Array Slot} {rest : List Value} {v : Value} {Z' : zZ} {I' : zI} (C : zCx D cy α d k p R s m args meth c A) (hS : va_S A s.heap H locs) (hW : zWd D cy α A Z I J s H)
    (hd : decode k.1 pc = .ok (.putfield idx, 3)) (hF : zFput k.2.1 idx ci f k) (hZ : zis Z a 0 ci) (hn : narrow (zcY ci f) v = v) (hfit : fits (zcY ci f) v = true) (hz : Z'.1 = Z.1) (hsh : Z'.2.2.1 = Z.2.2.1) (h1 : ∀ b, b ≠ a → Z'.2.2.2 b = Z.2.2.2 b ∧ I' b = I b) (h2 : zfv α Z' I' a ci f = v) (h3 : ∀ j, j ≠ f → zfv α Z' I' a ci j = zfv α Z I a ci j)
    (kk : ∀ (H1 : Heap) (locs1 : List Loc), zWd D cy α A Z' I' J s H1 → va_S A s.heap H1 locs1 → W p l e R s m args below meth c H1 locs1 cells slots Q (F0 m (pc + 3) ls rest)) : W p l e R s m args below meth c H locs cells slots Q (F0 m pc ls (v :: .ref (α a) :: rest)) := by
  obtain ⟨hx, hb, hml, hown, hnm, hts, hf1, hf2, hA, hα, hK, hSt, hNw⟩ := id C
  obtain ⟨hci, hkf, hlink, hfin⟩ := hF
  have he := zws_get (cy := cy) (α := α) (I := I) (J := J) hZ.1
  rw [zent_at hZ.2.2] at he
  have hty := z_ty hci f hkf
  have hx2 : (Sum.inr (ci, ((List.range (zcN ci)).map (zfv α Z I a ci)).set f v) : va_E) = zent cy α Z' I' J a := by
    rw [zent_at (kd := 0) (n := ci) (by rw [hsh]; exact hZ.2.2), zfs_set h2 h3]
    simp [zent0]
  have go : ∀ (H1 : Heap) (locs1 : List Loc), va_P D vwCl ((zws cy α Z I J).set a (α a, .inr (ci, ((List.range (zcN ci)).map (zfv α Z I a ci)).set f v))) H1 → va_D A ((zws cy α Z I J).set a (α a, .inr (ci, ((List.range (zcN ci)).map (zfv α Z I a ci)).set f v))) → va_S A s.heap H1 locs1 → W p l e R s m args below meth c H1 locs1 cells slots Q (F0 m (pc + 3) ls rest) :=
    fun H1 locs1 hP hD hS1 => kk H1 locs1 (zWd_set hW hZ.2.1 hz (fun b hb => ⟨by rw [hsh], (h1 b hb).1, (h1 b hb).2, rfl⟩) hx2 hP hD) hS1
  rcases hfin with hfin | ⟨hi, hdecl⟩
  · exact va_put (C := zcR ci) (T := zcT ci) (N := zcN ci) hx hb hts (z_in hci) (zcY ci) (z_ty hci) (z_nm hci) hown hK hW.1 hW.2.1 hS a he (z_cl hci) f hkf (hts _ hlink) (fun _ h => h) hfin hty hn hfit (by simp; exact hkf) hd go
  · by_cases hfin : (zcT ci f).2.2.2 = true
    · exact va_putF (C := zcR ci) (T := zcT ci) (N := zcN ci) hx hb hts (z_in hci) (zcY ci) (z_ty hci) (z_nm hci) hown hK hW.1 hW.2.1 hS a he (z_cl hci) f hkf (hts _ hlink) (fun _ h => h) hfin (by rw [hnm]; exact hi) hdecl hty hn hfit (by simp; exact hkf) hd go
    · exact va_put (C := zcR ci) (T := zcT ci) (N := zcN ci) hx hb hts (z_in hci) (zcY ci) (z_ty hci) (z_nm hci) hown hK hW.1 hW.2.1 hS a he (z_cl hci) f hkf (hts _ hlink) (fun _ h => h) (by simpa using hfin) hty hn hfit (by simp; exact hkf) hd go
theorem zs_puti : zr_puti (zP D cy α) := by
  intro d k pc ls st Z I J o idx ci f a x hd hF hZ hr hn ⟨hm, hk⟩
  refine ⟨⟨hm.1, hm.2.1, hm.2.2.1, fun b hb => ⟨(hm.2.2.2 b hb).1, (hm.2.2.2 b hb).2.trans (zu_ne (by have := hZ.2.1; omega))⟩⟩, ?_⟩
  intro p l e R s m args below meth c H locs cells slots Q A arr C hS hW hl hcell hc1 hc2 hret
  refine zs_putg (v := .int x) (Z' := Z) (I' := zu I a f x) C hS hW hd hF hZ hn.1 hn.2 rfl rfl (fun b hb => ⟨rfl, zu_ne hb⟩) ?_ ?_ (fun H1 locs1 hW1 hS1 => ?_)
  · simp [zfv, hr, zu]
  · intro j hj
    unfold zfv
    rw [zu_at, if_neg hj]
  · exact hk p l e R s m args below meth c H1 locs1 cells slots Q A arr C hS1 hW1 hl hcell hc1 hc2 hret
theorem zs_putr : zr_putr (zP D cy α) := by
  intro d k pc ls st Z I J o idx ci f a b hd hF hZ hr ⟨hm, hk⟩
  refine ⟨hm, ?_⟩
  intro p l e R s m args below meth c H locs cells slots Q A arr C hS hW hl hcell hc1 hc2 hret
  refine zs_putg (v := .ref (α b)) (Z' := zZr Z a f b) (I' := I) C hS hW hd hF hZ (z_fr hr).1 (z_fr hr).2 rfl rfl (fun b hb => ⟨zu_ne hb, rfl⟩) ?_ ?_ (fun H1 locs1 hW1 hS1 => ?_)
  · simp [zfv, hr, zZr, zu, va_rf]
  · intro j hj
    unfold zfv
    simp only [zZr, zu_at, if_neg hj]
  · exact hk p l e R s m args below meth c H1 locs1 cells slots Q A arr C hS1 hW1 hl hcell hc1 hc2 hret
theorem zs_gets : zr_gets (zP D cy α) := by
  intro d k pc ls st Z I J o idx b hd hw ⟨hm, hk⟩
  refine ⟨hm, ?_⟩
  intro p l e R s m args below meth c H locs cells slots Q A arr C hS hW hl hcell hc1 hc2 hret
  obtain ⟨hx, hb, hml, hown, hnm, hts, hf1, hf2, hA, hα, hK, hSt, hNw⟩ := id C
  have G := hk p l e R s m args below meth c H locs cells slots Q A arr C hS hW hl hcell hc1 hc2 hret
  rcases hw with ⟨rfl, hw⟩ | ⟨rfl, hw⟩
  · rcases hw with hw | ⟨h, hw⟩
    · exact va_gets hx hb hSt.1.1 hS hown (hts _ hw) (fun _ h => h) hd G
    · exact va_getsN hx hb hSt.1.1 hS hown (va_Nw.use rfl (hNw.1 _ _ _ _ _ _ hw)) (fun _ h => h) hd G
  · rcases hw with hw | ⟨h, hw⟩
    · exact va_gets hx hb hSt.1.2.1 hS hown (hts _ hw) (fun _ h => h) hd G
    · exact va_getsN hx hb hSt.1.2.1 hS hown (va_Nw.use rfl (hNw.1 _ _ _ _ _ _ hw)) (fun _ h => h) hd G
theorem zs_T {ty : FieldType} {t n : Nat} {f : Nat → Value} (h : va_T ty t n f A s s.heap) (hS : va_S A s.heap H locs) : ∃ cell : Cell, H[t]? = some cell ∧ s.isArrayOf cell ty ∧ cell.vm ≠ .unknown ∧ n ≤ cell.slots.size ∧ cell.slots.size.toInt32 = Int32.ofNat n ∧ ∀ j : Nat, j < n → cell.slots[j]? = some (f j) := by
  obtain ⟨cell, h1, h2, h3, h4, h5, h6, h7⟩ := h
  exact ⟨cell, by rw [hS.2.1 t (Array.getElem?_eq_some_iff.mp h1).1 h7]; exact h1, h2, h3, h4, h5, h6⟩
theorem zs_vin {i : Int32} {n : Nat} {cell : Cell} (h : vp_in i n) (hn : n ≤ cell.slots.size) : ¬ (i < 0 ∨ cell.slots.size ≤ i.toNatClampNeg) := fun q => h (q.imp id (fun z => Nat.le_trans hn z))
theorem zs_iald : zr_iald (zP D cy α) := by
  intro d k pc ls st Z I J o a n i hd hZ hin ⟨hm, hk⟩
  refine ⟨hm, ?_⟩
  intro p l e R s m args below meth c H locs cells slots Q A arr C hS hW hl hcell hc1 hc2 hret
  obtain ⟨hx, hb, hml, hown, hnm, hts, hf1, hf2, hA, hα, hK, hSt, hNw⟩ := id C
  have G := hk p l e R s m args below meth c H locs cells slots Q A arr C hS hW hl hcell hc1 hc2 hret
  rcases hZ with hZ | hZ
  · have he := zws_get (cy := cy) (α := α) (I := I) (J := J) hZ.1
    rw [zent_at hZ.2.2] at he
    exact va_iald hx hb hK hW.1 a 0 he rfl hin hd G
  · obtain ⟨cell, h1, h2, h3, h4, h5, h6⟩ := zs_T (hW.2.2.1 a n hZ) hS
    have hlt : i.toNatClampNeg < n := Nat.not_le.mp fun q => hin (Or.inr q)
    exact W.iald hx hb h1 h2 h3 (zs_vin hin h4) (h6 _ hlt) rfl rfl hd G
theorem zs_bald : zr_bald (zP D cy α) := by
  intro d k pc ls st Z I J o a n i hd hZ hin ⟨hm, hk⟩
  refine ⟨hm, ?_⟩
  intro p l e R s m args below meth c H locs cells slots Q A arr C hS hW hl hcell hc1 hc2 hret
  obtain ⟨hx, hb, hml, hown, hnm, hts, hf1, hf2, hA, hα, hK, hSt, hNw⟩ := id C
  have G := hk p l e R s m args below meth c H locs cells slots Q A arr C hS hW hl hcell hc1 hc2 hret
  rcases hZ with hZ | hZ
  · have he := zws_get (cy := cy) (α := α) (I := I) (J := J) hZ.1
    rw [zent_at hZ.2.2] at he
    exact va_bald hx hb hK hW.1 a 2 he rfl hin hd G
  · have he := zws_get (cy := cy) (α := α) (I := I) (J := J) hZ.1
    rw [zent_at hZ.2.2] at he
    exact va_zald hx hb hK hW.1 a 3 he rfl hin hd G
theorem zs_lald : zr_lald (zP D cy α) := by
  intro d k pc ls st Z I J o a n i hd hZ hin ⟨hm, hk⟩
  refine ⟨hm, ?_⟩
  intro p l e R s m args below meth c H locs cells slots Q A arr C hS hW hl hcell hc1 hc2 hret
  obtain ⟨hx, hb, hml, hown, hnm, hts, hf1, hf2, hA, hα, hK, hSt, hNw⟩ := id C
  have G := hk p l e R s m args below meth c H locs cells slots Q A arr C hS hW hl hcell hc1 hc2 hret
  have he := zws_get (cy := cy) (α := α) (I := I) (J := J) hZ.1
  rw [zent_at hZ.2.2] at he
  exact va_lald hx hb hK hW.1 a 1 he rfl hin hd G
theorem zs_aald : zr_aald (zP D cy α) := by
  intro d k pc ls st Z I J o a n i b hd hZ hin hb9 ⟨hm, hk⟩
  refine ⟨hm, ?_⟩
  intro p l e R s m args below meth c H locs cells slots Q A arr C hS hW hl hcell hc1 hc2 hret
  obtain ⟨hx, hb, hml, hown, hnm, hts, hf1, hf2, hA, hα, hK, hSt, hNw⟩ := id C
  have G := hk p l e R s m args below meth c H locs cells slots Q A arr C hS hW hl hcell hc1 hc2 hret
  have he := zws_get (cy := cy) (α := α) (I := I) (J := J) hZ.1
  rw [zent_at hZ.2.2] at he
  refine va_aldq hx hb hK hW.1 a 4 he rfl hin hd ?_
  simp only [hb9, Option.map_some, va_rf]
  exact G
theorem zs_iast : zr_iast (zP D cy α) := by
  intro d k pc ls st Z I J o a n i x hd hZ hin ⟨hm, hk⟩
  refine ⟨⟨hm.1, hm.2.1, hm.2.2.1, fun b hb => ⟨(hm.2.2.2 b hb).1, (hm.2.2.2 b hb).2.trans (zu_ne (by have := hZ.2.1; omega))⟩⟩, ?_⟩
  intro p l e R s m args below meth c H locs cells slots Q A arr C hS hW hl hcell hc1 hc2 hret
  obtain ⟨hx, hb, hml, hown, hnm, hts, hf1, hf2, hA, hα, hK, hSt, hNw⟩ := id C
  have he := zws_get (cy := cy) (α := α) (I := I) (J := J) hZ.1
  rw [zent_at hZ.2.2] at he
  refine va_iast hx hb hK hW.1 hW.2.1 hS a 0 he rfl hin hd (fun H1 locs1 hP hD hS1 => ?_)
  refine hk p l e R s m args below meth c H1 locs1 cells slots Q A arr C hS1 (zWd_set hW hZ.2.1 rfl (fun b hb => ⟨rfl, rfl, zu_ne hb, rfl⟩) ?_ hP hD) hl hcell hc1 hc2 hret
  rw [zent_at hZ.2.2]
  simp only [zent0, Nat.reduceEqDiff, if_false]
  congr 4
  funext j
  rw [zu_at]; rfl
theorem zs_bast : zr_bast (zP D cy α) := by
  intro d k pc ls st Z I J o a n i x hd hZ hin ⟨hm, hk⟩
  refine ⟨⟨hm.1, hm.2.1, hm.2.2.1, fun b hb => ⟨(hm.2.2.2 b hb).1, (hm.2.2.2 b hb).2.trans (zu_ne (by have := hZ.2.1; omega))⟩⟩, ?_⟩
  intro p l e R s m args below meth c H locs cells slots Q A arr C hS hW hl hcell hc1 hc2 hret
  obtain ⟨hx, hb, hml, hown, hnm, hts, hf1, hf2, hA, hα, hK, hSt, hNw⟩ := id C
  have he := zws_get (cy := cy) (α := α) (I := I) (J := J) hZ.1
  rw [zent_at hZ.2.2] at he
  refine va_bast hx hb hK hW.1 hW.2.1 hS a 2 he rfl hin hd (fun H1 locs1 hP hD hS1 => ?_)
  refine hk p l e R s m args below meth c H1 locs1 cells slots Q A arr C hS1 (zWd_set hW hZ.2.1 rfl (fun b hb => ⟨rfl, rfl, zu_ne hb, rfl⟩) ?_ hP hD) hl hcell hc1 hc2 hret
  rw [zent_at hZ.2.2]
  simp only [zent0, Nat.reduceEqDiff, if_false, if_true]
  congr 4
  funext j
  rw [zu_at]; rfl
theorem zs_zast : zr_zast (zP D cy α) := by
  intro d k pc ls st Z I J o a n i x hd hZ hin ⟨hm, hk⟩
  refine ⟨⟨hm.1, hm.2.1, hm.2.2.1, fun b hb => ⟨(hm.2.2.2 b hb).1, (hm.2.2.2 b hb).2.trans (zu_ne (by have := hZ.2.1; omega))⟩⟩, ?_⟩
  intro p l e R s m args below meth c H locs cells slots Q A arr C hS hW hl hcell hc1 hc2 hret
  obtain ⟨hx, hb, hml, hown, hnm, hts, hf1, hf2, hA, hα, hK, hSt, hNw⟩ := id C
  have he := zws_get (cy := cy) (α := α) (I := I) (J := J) hZ.1
  rw [zent_at hZ.2.2] at he
  refine va_zast hx hb hK hW.1 hW.2.1 hS a 3 he rfl hin hd (fun H1 locs1 hP hD hS1 => ?_)
  refine hk p l e R s m args below meth c H1 locs1 cells slots Q A arr C hS1 (zWd_set hW hZ.2.1 rfl (fun b hb => ⟨rfl, rfl, zu_ne hb, rfl⟩) ?_ hP hD) hl hcell hc1 hc2 hret
  rw [zent_at hZ.2.2]
  simp only [zent0, Nat.reduceEqDiff, if_false, if_true]
  congr 4
  funext j
  rw [zu_at]; rfl
theorem zs_last : zr_last (zP D cy α) := by
  intro d k pc ls st Z I J o a n i x hd hZ hin ⟨hm, hk⟩
  refine ⟨hm, ?_⟩
  intro p l e R s m args below meth c H locs cells slots Q A arr C hS hW hl hcell hc1 hc2 hret
  obtain ⟨hx, hb, hml, hown, hnm, hts, hf1, hf2, hA, hα, hK, hSt, hNw⟩ := id C
  have he := zws_get (cy := cy) (α := α) (I := I) (J := J) hZ.1
  rw [zent_at hZ.2.2] at he
  refine va_last hx hb hK hW.1 hW.2.1 hS a 1 he rfl hin hd (fun H1 locs1 hP hD hS1 => ?_)
  refine hk p l e R s m args below meth c H1 locs1 cells slots Q A arr C hS1 (zWd_set hW hZ.2.1 rfl (fun b hb => ⟨rfl, rfl, rfl, zu_ne hb⟩) ?_ hP hD) hl hcell hc1 hc2 hret
  rw [zent_at hZ.2.2]
  simp only [zent0, Nat.reduceEqDiff, if_false, if_true]
  congr 5
  funext j
  rw [zu_at]; rfl
theorem zs_aast : zr_aast (zP D cy α) := by
  intro d k pc ls st Z I J o a n i b hd hZ hin hZb ⟨hm, hk⟩
  refine ⟨hm, ?_⟩
  intro p l e R s m args below meth c H locs cells slots Q A arr C hS hW hl hcell hc1 hc2 hret
  obtain ⟨hx, hb, hml, hown, hnm, hts, hf1, hf2, hA, hα, hK, hSt, hNw⟩ := id C
  have he := zws_get (cy := cy) (α := α) (I := I) (J := J) hZ.1
  rw [zent_at hZ.2.2] at he
  have he2 := zws_get (cy := cy) (α := α) (I := I) (J := J) hZb.1
  rw [zent_at hZb.2.2] at he2
  refine va_astq (r := (RX0, TX0, 11)) hx hb hK hW.1 hW.2.1 hS a 4 b 0 he rfl he2 rfl hin hd (fun H1 locs1 hP hD hS1 => ?_)
  refine hk p l e R s m args below meth c H1 locs1 cells slots Q A arr C hS1 (zWd_set (Z' := zZr Z a i.toNatClampNeg b) hW hZ.2.1 rfl (fun b hb => ⟨rfl, zu_ne hb, rfl, rfl⟩) ?_ hP hD) hl hcell hc1 hc2 hret
  rw [zent_at (Z := zZr Z a i.toNatClampNeg b) hZ.2.2]
  simp only [zent0, Nat.reduceEqDiff, if_false, if_true]
  congr 7
  funext j
  simp only [zZr, zu_at, va_up]
  split <;> rfl
theorem zs_alen : zr_alen (zP D cy α) := by
  intro d k pc ls st Z I J o a kd n hd hZ ⟨hm, hk⟩
  refine ⟨hm, ?_⟩
  intro p l e R s m args below meth c H locs cells slots Q A arr C hS hW hl hcell hc1 hc2 hret
  obtain ⟨hx, hb, hml, hown, hnm, hts, hf1, hf2, hA, hα, hK, hSt, hNw⟩ := id C
  have G := hk p l e R s m args below meth c H locs cells slots Q A arr C hS hW hl hcell hc1 hc2 hret
  rcases hZ with ⟨hZ, h1, h5⟩ | hZ
  · have he := zws_get (cy := cy) (α := α) (I := I) (J := J) hZ.1
    rw [zent_at hZ.2.2] at he
    obtain rfl | rfl | rfl | rfl | rfl : kd = 1 ∨ kd = 2 ∨ kd = 3 ∨ kd = 4 ∨ kd = 5 := by omega
    · exact va_alen hx hb hK hW.1 a 0 he rfl rfl hd G
    · exact va_alen hx hb hK hW.1 a 1 he rfl rfl hd G
    · exact va_alen hx hb hK hW.1 a 2 he rfl rfl hd G
    · exact va_alen hx hb hK hW.1 a 3 he rfl rfl hd G
    · exact va_alen hx hb hK hW.1 a 4 he rfl rfl hd G
  · obtain ⟨cell, h1, h2, h3, h4, h5, h6⟩ := zs_T (hW.2.2.1 a n hZ) hS
    exact W.alen (n := Int32.ofNat n) hx hb h1 h2 h5 rfl rfl hd G
theorem zsB : zrB (zP D cy α) := ⟨zs_geti, zs_getr, zs_puti, zs_putr, zs_gets, zs_iald, zs_bald, zs_lald, zs_aald, zs_iast, zs_bast, zs_zast, zs_last, zs_aast, zs_alen⟩
end ZSB
