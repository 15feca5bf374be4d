/-! the class's reader: an E, whole -/
/-- within an E, on the class's side -/
def zEs (I : zI) (u : Nat) (K P : Nat → Nat) (t op : Nat) (w : List Nat) (sz : Nat) (out : List zTok) : Prop := zCt I K P (.ok t) ∧ zSt1 I w ∧ I 2 15 = nI op ∧ zcO I u sz out
def zdu (b : Bool) : Int32 := if b = true then 1 else 0
section
variable {d : Nat} {Z : zZ} {I I' : zI} {J : zJ} {t u t0 sz op f : Nat} {K P V W : Nat → Nat} {out : List zTok} {w : List Nat} {o : zO}
theorem zcO.same (h : zcO I u sz out) (h1 : I' (u + 1) = I (u + 1)) (h2 : I' (u + 1 + 1) = I (u + 1 + 1)) (h3 : I' (u + 1 + 2) = I (u + 1 + 2)) : zcO I' u sz out := by
  unfold zcO; rw [h1, h2, h3]; exact h
theorem zcO.f2 {F : List Nat} (h : zcO I u sz out) (hu : u = 3 ∨ u = 30) (hf : zf2 F I I') : zcO I' u sz out := h.same (hf.1 _ (by omega)) (hf.1 _ (by omega)) (hf.1 _ (by omega))
theorem zSt1.f2 {F : List Nat} (h : zSt1 I w) (hf : zf2 F I I') (hF : 14 ∉ F) : zSt1 I' w := ⟨(hf.2 14 hF).trans h.1, by rw [hf.1 29 (by decide)]; exact h.2⟩
theorem ztk_self : ztk K (K t0) (.ok t0) = zgn t0 := by unfold ztk; dsimp only; rw [if_pos rfl]
theorem zEs_lt (h : zEs I u K P t0 op w sz out) : t0 ≤ 400 := h.1.1.1
/-- what a step within an E comes to -/
def zEo (I' : zI) (u : Nat) (K P V : Nat → Nat) (f : Nat) (due : Bool) (t0 op : Nat) (w : List Nat) (sz : Nat) (out : List zTok) (due' : Bool) : Prop :=
  (∃ e, zex K V (f + 1) due t0 op w out = .error e ∧ zCt I' K P (.error e) ∧ ∃ n, n < 1000 ∧ I' 2 14 = nI n) ∨ ∃ op' w' out', zex K V (f + 1) due t0 op w out = zex K V f due' (t0 + 1) op' w' out' ∧ zEs I' u K P (t0 + 1) op' w' sz out' ∧ zxi due' sz (t0 + 1) op' w' out' ∧ ∀ x ∈ w', x < 256
theorem C_unitA (hL : zLY Z t u) (hu : u = 3 ∨ u = 30) (hT : zTC I J K P V W) (hB : zTB K V W) (h : zEs I u K P t0 op w sz out) (hx : zxi true sz t0 op w out) (hw : ∀ x ∈ w, x < 256) {k : Nat} {v x y : Int32} (hK : 1 < K t0) (e1 : x = nI (zcod k)) (e2 : k < 2 → y = v) (hk : k = 0 ∨ k = 1 ∧ ∃ i, i < 6 ∧ v = nI i)
    (ez : ∀ f, zex K V (f + 1) true t0 op w out = if t0 = 400 then .error (2, t0) else zex K V f false (t0 + 1) op w (out ++ [(k, v)])) :
    ∃ I1 I2, zE (d + 2) kX2_add 0 [some (.ref (u + 1)), some (.int x), some (.int y)] [] Z I J (none, Z, I1, J) ∧ zE (d + 2) kX5_take 0 [some (.ref 2), some (.int (I1 2 4))] [] Z I1 J (none, Z, I2, J) ∧ zfrE u sz I I2 ∧ ∀ f, zEo I2 u K P V f true t0 op w sz out false := by
  obtain ⟨h1, h2, h3, h4⟩ := h
  have ht := h1.1.1
  have hsz := hx.2.2.2
  obtain ⟨I1, a1, a2, a3, a4⟩ := C_addO (d := d + 1) (J := J) hL h4 (by omega) e1 e2
  have r2 : I1 2 = I 2 := a3 2 (by omega) (by omega) (by omega)
  have f1 : zfrE u sz I I1 := ⟨fun a _ _ p3 p4 p5 => a3 a p3 p4 p5, fun k _ => by rw [r2], fun j hj => a4 j (by omega)⟩
  have c1 : zCt I1 K P (.ok t0) := ⟨h1.1, by rw [r2]; exact h1.2.1, by rw [r2]; exact h1.2.2.1, by rw [r2]; exact h1.2.2.2.1, by rw [r2]; exact h1.2.2.2.2⟩
  obtain ⟨I2, b1, b2, b3⟩ := C_take (d := d) (J := J) hL (hT.same (fun a p q => a3 a (by omega) (by omega) (by omega))) hB hK (hB.1 t0) c1
  rw [ztk_self] at b2
  have s2 : zSt1 I2 w := (show zSt1 I1 w from ⟨by rw [r2]; exact h2.1, by rw [a3 29 (by omega) (by omega) (by omega)]; exact h2.2⟩).f2 b3 (by decide)
  refine ⟨I1, I2, a1, by rw [c1.2.2.2.1]; exact b1, f1.tr (zfrE.f2 hu b3 (by decide)), fun f => ?_⟩
  have hlen := zxi_len hx
  have hop := hx.2.1
  unfold zgn at b2
  by_cases c : t0 = 400
  · rw [if_pos c] at b2
    exact Or.inl ⟨(2, t0), by rw [ez f, if_pos c], b2, w.length, by omega, s2.1⟩
  · rw [if_neg c] at b2
    exact Or.inr ⟨op, w, out ++ [(k, v)], by rw [ez f, if_neg c], ⟨b2, s2, by rw [b3.2 15 (by decide), r2]; exact h3, a2.f2 hu b3⟩, zxi_unit hx hk, hw⟩
theorem C_unit (hL : zLY Z t u) (hu : u = 3 ∨ u = 30) (hT : zTC I J K P V W) (hB : zTB K V W) (h : zEs I u K P t0 op w sz out) (hx : zxi true sz t0 op w out) (hw : ∀ x ∈ w, x < 256) : ∃ due' I', zE (d + 3) kX5_readUnit 0 [some (.ref 2)] [] Z I J (some (.int (zdu due')), Z, I', J) ∧ zfrE u sz I I' ∧ ∀ f, zEo I' u K P V f true t0 op w sz out due' := by
  have h1 := h.1
  have h2 := h.2.1
  have h3 := h.2.2.1
  have h4 := h.2.2.2
  have ht := h1.1.1
  have hK := hB.1 t0
  have e4 : I 2 4 = nI (K t0) := h1.2.2.2.1
  have hsz := hx.2.2.2
  have hlen := zxi_len hx
  have hop := hx.2.1
  by_cases c3 : K t0 = 3
  · obtain ⟨I1, I2, a1, a2, a3, a4⟩ := C_unitA (d := d) (V := V) hL hu hT hB h hx hw (k := 0) (v := nI (V t0)) (x := 1) (y := zat I 23 402 (I 2 3)) (by omega) rfl (fun _ => by rw [h1.2.2.1, zatI (by omega) (by decide)]; exact (hT t0 (by omega) h1.1.2).2.1 c3) (Or.inl rfl) (fun f => by simp only [zex]; rw [if_pos c3])
    exact ⟨false, I2, BX5_readUnit_0 hL ⟨fun q => absurd (by rw [e4, c3]; rfl) q, fun _ => ⟨I1, a1, I2, a2, rfl⟩⟩, a3, a4⟩
  · have n3 : ¬ I 2 4 = 3 := by rw [e4, show (3 : Int32) = nI 3 from rfl, zeq (by omega) (by decide)]; exact c3
    have l1 : I 2 4 < 139 ↔ K t0 < 139 := by rw [e4, show (139 : Int32) = nI 139 from rfl, zlt (by omega) (by decide)]
    have l2 : 144 < I 2 4 ↔ 144 < K t0 := by rw [e4, show (144 : Int32) = nI 144 from rfl, zlt (by decide) (by omega)]
    by_cases cv : 139 ≤ K t0 ∧ K t0 ≤ 144
    · obtain ⟨I1, I2, a1, a2, a3, a4⟩ := C_unitA (d := d) (V := V) hL hu hT hB h hx hw (k := 1) (v := nI (K t0 - 139)) (x := 2) (y := (I 2 4) - 139) (by omega) rfl (fun _ => by rw [e4, show (139 : Int32) = nI 139 from rfl, zsub cv.1]) (Or.inr ⟨rfl, K t0 - 139, by omega, rfl⟩) (fun f => by simp only [zex]; rw [if_neg c3, if_pos cv])
      exact ⟨false, I2, BX5_readUnit_0 hL ⟨fun _ => ⟨fun q => absurd (l1.mp q) (by omega), fun _ => ⟨fun q => absurd (l2.mp q) (by omega), fun _ => ⟨I1, a1, I2, a2, rfl⟩⟩⟩, fun q => absurd q n3⟩, a3, a4⟩
    · -- a ( is due
      have g : ∀ o : zO, zE (d + 3) kX5_readUnit 92 [some (.ref 2)] [] Z I J o → zE (d + 3) kX5_readUnit 0 [some (.ref 2)] [] Z I J o := fun o k => BX5_readUnit_0 hL ⟨fun _ => ⟨fun _ => k, fun q => ⟨fun _ => k, fun q2 => by rw [l1] at q; rw [l2] at q2; omega⟩⟩, fun q => absurd q n3⟩
      have e40 : I 2 4 = 40 ↔ K t0 = 40 := by rw [e4, show (40 : Int32) = nI 40 from rfl, zeq (by omega) (by decide)]
      have e15 : I 2 15 < 6 ↔ op < 6 := by rw [h3, show (6 : Int32) = nI 6 from rfl, zlt (by omega) (by decide)]
      -- 119, on a fault
      have bad : ∀ (I0 : zI) (e : Nat × Nat), zCt I0 K P (.error e) → I0 2 14 = nI w.length → zfrE u sz I I0 → (∃ I1, zE (d + 2) kX5_take 0 [some (.ref 2), some (.int 40)] [] Z I0 J (none, Z, I1, J) ∧ zCt I1 K P (.error e) ∧ zf2 [1, 3, 4, 5, 6] I0 I1) → ∃ I', zE (d + 3) kX5_readUnit 119 [some (.ref 2)] [] Z I0 J (some (.int 1), Z, I', J) ∧ zfrE u sz I I' ∧ zCt I' K P (.error e) ∧ ∃ n, n < 1000 ∧ I' 2 14 = nI n := by
        intro I0 e hE hs hf ⟨I1, k1, k2, k3⟩
        obtain ⟨I3, l1, l2, l3, l4⟩ := C_lineAny (d := d + 1) (J := J) hL (I := zu I1 2 15 ((I1 2 15) + 1)) (n := w.length) (by rw [zu_k (by decide), k3.2 14 (by decide)]; exact hs) (x := 40)
        have fz : ∀ k, k ≠ 14 → k ≠ 15 → I3 2 k = I1 2 k := fun k p q => by rw [l4 k p, zu_k q]
        refine ⟨I3, BX5_readUnit_119 hL ⟨I1, k1, fun I2 e2 => ⟨I3, by rw [e2]; exact l1, rfl⟩⟩, hf.tr ((zfrE.f2 hu k3 (by decide)).tr ⟨fun a p1 p2 _ _ _ => by rw [l3 a p1 p2, zu_ne p1], fun k p => fz k (fun q => p (by subst q; decide)) (fun q => p (by subst q; decide)), fun j _ => ⟨by rw [l3 _ (by omega) (by omega), zu_ne (by omega)], by rw [l3 _ (by omega) (by omega), zu_ne (by omega)]⟩⟩), ⟨k2.1, by rw [fz 6 (by decide) (by decide)]; exact k2.2.1, by rw [fz 1 (by decide) (by decide)]; exact k2.2.2⟩, w.length + 1, by omega, l2⟩
      by_cases c40 : K t0 = 40
      · by_cases c6 : op < 6
        · obtain ⟨I1, b1, b2, b3⟩ := C_take (d := d) (J := J) hL hT hB (k := 40) (by decide) (by decide) h1
          have ek : ztk K 40 (.ok t0) = zgn t0 := by unfold ztk; dsimp only; rw [if_pos c40]
          rw [ek] at b2
          have ez : ∀ f, zex K V (f + 1) true t0 op w out = if t0 = 400 then .error (2, t0) else zex K V f true (t0 + 1) (op + 1) (40 :: w) out := fun f => by simp only [zex]; rw [if_neg c3, if_neg cv, if_pos c40, if_neg (by omega)]
          have s1 : zSt1 I1 w := h2.f2 b3 (by decide)
          obtain ⟨I3, l1', l2', l3', l4'⟩ := C_lineUp (d := d + 1) (J := J) hL (I := zu I1 2 15 ((I1 2 15) + 1)) (w := w) ⟨by rw [zu_k (by decide)]; exact s1.1, by rw [zu_ne (by decide)]; exact s1.2⟩ (by omega) (x := 40)
          have fz : ∀ k, k ≠ 14 → k ≠ 15 → I3 2 k = I1 2 k := fun k p q => by rw [l4' k p, zu_k q]
          have fr : ∀ a, a ≠ 2 → a ≠ 29 → I3 a = I1 a := fun a p q => by rw [l3' a p q, zu_ne p]
          have run : zE (d + 3) kX5_readUnit 0 [some (.ref 2)] [] Z I J (some (.int 1), Z, I3, J) := g _ (BX5_readUnit_92 hL ⟨fun q => absurd (e40.mpr c40) q, fun _ => ⟨fun _ => BX5_readUnit_119 hL ⟨I1, b1, fun I2 e2 => ⟨I3, by rw [e2]; exact l1', rfl⟩⟩, fun q => absurd (e15.mpr c6) q⟩⟩)
          have fE : zfrE u sz I I3 := (zfrE.f2 hu b3 (by decide)).tr ⟨fun a p1 p2 _ _ _ => fr a p1 p2, fun k p => fz k (fun q => p (by subst q; decide)) (fun q => p (by subst q; decide)), fun j _ => ⟨by rw [fr _ (by omega) (by omega)], by rw [fr _ (by omega) (by omega)]⟩⟩
          refine ⟨true, I3, run, fE, fun f => ?_⟩
          unfold zgn at b2
          by_cases c : t0 = 400
          · rw [if_pos c] at b2
            exact Or.inl ⟨(2, t0), by rw [ez f, if_pos c], ⟨b2.1, by rw [fz 6 (by decide) (by decide)]; exact b2.2.1, by rw [fz 1 (by decide) (by decide)]; exact b2.2.2⟩, w.length + 1, by omega, l2'.1⟩
          · rw [if_neg c] at b2
            refine Or.inr ⟨op + 1, 40 :: w, out, by rw [ez f, if_neg c], ⟨⟨b2.1, by rw [fz 6 (by decide) (by decide)]; exact b2.2.1, by rw [fz 3 (by decide) (by decide)]; exact b2.2.2.1, by rw [fz 4 (by decide) (by decide)]; exact b2.2.2.2.1, by rw [fz 5 (by decide) (by decide)]; exact b2.2.2.2.2⟩, l2', ?_, ?_⟩, zxi_opens hx (by omega), fun x hxw => ?_⟩
            · rw [l4' 15 (by decide), zu_eq, b3.2 15 (by decide), h3, zadd1]
            · exact (h4.f2 hu b3).same (fr _ (by omega) (by omega)) (fr _ (by omega) (by omega)) (fr _ (by omega) (by omega))
            · rcases List.mem_cons.mp hxw with e | e
              · rw [e]; decide
              · exact hw x e
        · have ez : ∀ f, zex K V (f + 1) true t0 op w out = .error (2, t0) := fun f => by simp only [zex]; rw [if_neg c3, if_neg cv, if_pos c40, if_pos (by omega)]
          have fl := C_fail (d := d + 2) (Z := Z) (J := J) hL h1.2.1 (x := nI 2) (y := I 2 5)
          rw [h1.2.2.2.2] at fl
          have fF : zf2 [1, 3, 4, 5, 6] I (zu (zu I 2 6 (nI 2)) 2 1 (nI (P t0))) := (zf2.put (by decide)).tr (zf2.put (by decide))
          have hE0 : zCt (zu (zu I 2 6 (nI 2)) 2 1 (nI (P t0))) K P (.error (2, t0)) := zCt_fail (by decide)
          have tk := C_take (d := d) (J := J) hL (hT.f2 fF) hB (k := 40) (by decide) (by decide) hE0
          obtain ⟨I', r1, r2, r3, r4⟩ := bad _ _ hE0 (by rw [fF.2 14 (by decide)]; exact h2.1) (zfrE.f2 hu fF (by decide)) tk
          exact ⟨true, I', g _ (BX5_readUnit_92 hL ⟨fun q => absurd (e40.mpr c40) q, fun _ => ⟨fun q => absurd (e15.mp q) c6, fun _ => ⟨_, by rw [h1.2.2.2.2]; exact fl, r1⟩⟩⟩), r2, fun f => Or.inl ⟨(2, t0), ez f, r3, r4⟩⟩
      · have ez : ∀ f, zex K V (f + 1) true t0 op w out = .error (1, t0) := fun f => by simp only [zex]; rw [if_neg c3, if_neg cv, if_neg c40]
        obtain ⟨I1, b1, b2, b3⟩ := C_take (d := d) (J := J) hL hT hB (k := 40) (by decide) (by decide) h1
        have ek : ztk K 40 (.ok t0) = .error (1, t0) := by unfold ztk; dsimp only; rw [if_neg c40]
        rw [ek] at b2
        obtain ⟨I3, l1', l2', l3', l4'⟩ := C_lineAny (d := d + 1) (J := J) hL (I := zu I1 2 15 ((I1 2 15) + 1)) (n := w.length) (by rw [zu_k (by decide), b3.2 14 (by decide)]; exact h2.1) (x := 40)
        have fz : ∀ k, k ≠ 14 → k ≠ 15 → I3 2 k = I1 2 k := fun k p q => by rw [l4' k p, zu_k q]
        refine ⟨true, I3, g _ (BX5_readUnit_92 hL ⟨fun _ => BX5_readUnit_119 hL ⟨I1, b1, fun I2 e2 => ⟨I3, by rw [e2]; exact l1', rfl⟩⟩, fun q => absurd (e40.mp q) c40⟩), (zfrE.f2 hu b3 (by decide)).tr ⟨fun a p1 p2 _ _ _ => by rw [l3' a p1 p2, zu_ne p1], fun k p => fz k (fun q => p (by subst q; decide)) (fun q => p (by subst q; decide)), fun j _ => ⟨by rw [l3' _ (by omega) (by omega), zu_ne (by omega)], by rw [l3' _ (by omega) (by omega), zu_ne (by omega)]⟩⟩, fun f => Or.inl ⟨(1, t0), ez f, ⟨b2.1, by rw [fz 6 (by decide) (by decide)]; exact b2.2.1, by rw [fz 1 (by decide) (by decide)]; exact b2.2.2⟩, w.length + 1, by omega, l2'⟩⟩
theorem zrel_sub {b : Nat} : ∀ (w : List Nat) (x : Nat), x ∈ (zrel b w).2 → x ∈ w := by
  intro w
  induction w with
  | nil => intro x hx; exact hx
  | cons y w ih =>
    intro x hx
    by_cases c : b ≤ zbn y
    · rw [zrel_go c] at hx; exact List.mem_cons_of_mem _ (ih x hx)
    · rw [zrel_stop c] at hx; exact hx
theorem C_oper (hL : zLY Z t u) (hu : u = 3 ∨ u = 30) (hT : zTC I J K P V W) (hB : zTB K V W) (h : zEs I u K P t0 op w sz out) (hx : zxi false sz t0 op w out) (hw : ∀ x ∈ w, x < 256) (hk : 0 < zbn (K t0)) : ∃ I', zE (d + 3) kX5_readOperator 0 [some (.ref 2)] [] Z I J (none, Z, I', J) ∧ zfrE u sz I I' ∧ ∀ f, zEo I' u K P V f false t0 op w sz out true := by
  obtain ⟨h1, h2, h3, h4⟩ := h
  have ht := h1.1.1
  have hK := hB.1 t0
  have e4 : I 2 4 = nI (K t0) := h1.2.2.2.1
  have hsz := hx.2.2.2
  have hlen := zxi_len hx
  have hop := hx.2.1
  have hK1 : 1 < K t0 := by revert hk; unfold zbn; (repeat' split) <;> omega
  have hx' := zxi_oper hx hk
  have hlen' := zxi_len hx'
  simp only [List.length_cons] at hlen'
  have hb2 := zbn_le (K t0)
  obtain ⟨I1, r1, r2, r3, ⟨r4, r5⟩, r6⟩ := C_release (d := d) (J := J) hL hu (b := zbn (K t0)) (by omega) (by omega) w I out h2 (by omega) hw h4 (by omega)
  obtain ⟨I2, l1, l2, l3, l4⟩ := C_lineUp (d := d + 1) (J := J) hL r2 (by omega) (x := K t0)
  have c2 : zCt I2 K P (.ok t0) := ⟨h1.1, by rw [l4 6 (by decide), r5 6 (by decide)]; exact h1.2.1, by rw [l4 3 (by decide), r5 3 (by decide)]; exact h1.2.2.1, by rw [l4 4 (by decide), r5 4 (by decide)]; exact h1.2.2.2.1, by rw [l4 5 (by decide), r5 5 (by decide)]; exact h1.2.2.2.2⟩
  have fr : ∀ a, a ≠ 2 → a ≠ 29 → a ≠ u + 1 → a ≠ u + 1 + 1 → a ≠ u + 1 + 2 → I2 a = I a := fun a p1 p2 p3 p4 p5 => by rw [l3 a p1 p2, r4 a p1 p3 p4 p5]
  obtain ⟨I3, b1, b2, b3⟩ := C_take (d := d) (J := J) hL (hT.same (fun a p q => fr a (by omega) (by omega) (by omega) (by omega) (by omega))) hB hK1 hK c2
  rw [ztk_self] at b2
  have fE : zfrE u sz I I2 := ⟨fr, fun k p => by
    have p14 : k ≠ 14 := fun q => p (by subst q; decide)
    rw [l4 k p14, r5 k p14], fun j hj => ⟨by rw [l3 _ (by omega) (by omega), (r6 j hj).1], by rw [l3 _ (by omega) (by omega), (r6 j hj).2]⟩⟩
  have e41 : I1 2 4 = nI (K t0) := by rw [r5 4 (by decide)]; exact e4
  refine ⟨I3, BX5_readOperator_0 hL ⟨I1, BX5_release_0 _ hL (by rw [e4, zbindI _ hK, h2.1]; exact r1), I2, by rw [e41]; exact l1, I3, by rw [c2.2.2.2.1]; exact b1, rfl⟩, fE.tr (zfrE.f2 hu b3 (by decide)), fun f => ?_⟩
  have ez : zex K V (f + 1) false t0 op w out = if t0 = 400 then .error (2, t0) else zex K V f true (t0 + 1) op (K t0 :: (zrel (zbn (K t0)) w).2) (out ++ (zrel (zbn (K t0)) w).1) := by simp only [zex]; rw [if_pos hk]
  have s3 := l2.f2 b3 (by decide)
  unfold zgn at b2
  by_cases c : t0 = 400
  · rw [if_pos c] at b2
    refine Or.inl ⟨(2, t0), by rw [ez, if_pos c], b2, _, ?_, s3.1⟩
    simp only [List.length_cons]; omega
  · rw [if_neg c] at b2
    refine Or.inr ⟨op, _, _, by rw [ez, if_neg c], ⟨b2, s3, by rw [b3.2 15 (by decide), l4 15 (by decide), r5 15 (by decide)]; exact h3, (r3.same (l3 _ (by omega) (by omega)) (l3 _ (by omega) (by omega)) (l3 _ (by omega) (by omega))).f2 hu b3⟩, hx', fun x hxw => ?_⟩
    rcases List.mem_cons.mp hxw with e | e
    · rw [e]; exact hK
    · exact hw x (zrel_sub w x e)
end
