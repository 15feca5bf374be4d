/-! the class's reader: an E, whole, and a LAW -/
section
variable {d : Nat} {Z : zZ} {I I' : zI} {J : zJ} {t u t0 sz op f : Nat} {K P V W : Nat → Nat} {out : List zTok} {w : List Nat} {o : zO} {r : zRt}
theorem C_close (hL : zLY Z t u) (hu : u = 3 ∨ u = 30) (hT : zTC I J K P V W) (hB : zTB K V W) (h : zEs I u K P t0 (op + 1) w sz out) (hx : zxi false sz t0 (op + 1) w out) (hw : ∀ x ∈ w, x < 256) (hk : ¬ 0 < zbn (K t0)) : ∃ I', zE (d + 3) kX5_readClosing 0 [some (.ref 2)] [] Z I J (none, Z, I', J) ∧ zfrE u sz I I' ∧ ∀ f, zEo I' u K P V f false t0 (op + 1) w sz out false := by
  obtain ⟨h1, h2, h3, h4⟩ := h
  have ht := h1.1.1
  have hlen := zxi_len hx
  have hop := hx.2.1
  have hsz := hx.2.2.2
  obtain ⟨rr, x1, x2⟩ := zxi_closes hx
  obtain ⟨I1, b1, b2, b3⟩ := C_take (d := d) (J := J) hL hT hB (k := 41) (by decide) (by decide) h1
  obtain ⟨I2, r1, r2, r3, ⟨r4, r5⟩, r6⟩ := C_release (d := d) (J := J) hL hu (b := 1) (by decide) (by decide) w I1 out (h2.f2 b3 (by decide)) (by omega) hw (h4.f2 hu b3) (by omega)
  rw [x1] at r2
  have e14 : I2 2 14 - 1 = nI rr.length := by rw [r2.1, List.length_cons, zsub1]
  obtain ⟨I4, e4⟩ : ∃ I4 : zI, I4 = zu (zu I2 2 14 (nI rr.length)) 2 15 (nI op) := ⟨_, rfl⟩
  have e15 : I2 2 15 = nI (op + 1) := by rw [r5 15 (by decide), b3.2 15 (by decide)]; exact h3
  have run : zE (d + 3) kX5_readClosing 0 [some (.ref 2)] [] Z I J (none, Z, I4, J) := by
    refine BX5_readClosing_0 hL ⟨I1, b1, I2, BX5_release_0 _ hL (by rw [b3.2 14 (by decide), h2.1]; exact r1), fun I3 e3 I5 e5 => ?_⟩
    rw [e14] at e3
    rw [e3, zu_k (by decide), e15, zsub1, ← e4] at e5
    rw [e5]
  have fz : ∀ k, k ≠ 14 → k ≠ 15 → I4 2 k = I1 2 k := fun k p q => by rw [e4, zu_k q, zu_k p, r5 k p]
  have fr : ∀ a, a ≠ 2 → a ≠ u + 1 → a ≠ u + 1 + 1 → a ≠ u + 1 + 2 → I4 a = I1 a := fun a p1 p2 p3 p4 => by rw [e4, zu_ne p1, zu_ne p1, r4 a p1 p2 p3 p4]
  have fE : zfrE u sz I I4 := (zfrE.f2 hu b3 (by decide)).tr ⟨fun a p1 _ p3 p4 p5 => fr a p1 p3 p4 p5, fun k p => fz k (fun q => p (by subst q; decide)) (fun q => p (by subst q; decide)), fun j hj => ⟨by rw [e4, zu_ne (by omega), zu_ne (by omega), (r6 j hj).1], by rw [e4, zu_ne (by omega), zu_ne (by omega), (r6 j hj).2]⟩⟩
  have s4 : zSt1 I4 rr := ⟨by rw [e4, zu_k (by decide), zu_eq], by rw [e4, zu_ne (by decide), zu_ne (by decide)]; exact zpile_tl r2.2⟩
  have hrl : rr.length < 1000 := by have := zxi_len x2; omega
  refine ⟨I4, run, fE, fun f => ?_⟩
  by_cases c41 : K t0 = 41
  · have ek : ztk K 41 (.ok t0) = zgn t0 := by unfold ztk; dsimp only; rw [if_pos c41]
    rw [ek] at b2
    have ez : zex K V (f + 1) false t0 (op + 1) w out = if t0 = 400 then .error (2, t0) else zex K V f false (t0 + 1) op rr (out ++ (zrel 1 w).1) := by
      simp only [zex]; rw [if_neg hk, if_pos (by omega), if_pos c41, x1]; rfl
    unfold zgn at b2
    by_cases c : t0 = 400
    · rw [if_pos c] at b2
      exact Or.inl ⟨(2, t0), by rw [ez, if_pos c], ⟨b2.1, by rw [fz 6 (by decide) (by decide)]; exact b2.2.1, by rw [fz 1 (by decide) (by decide)]; exact b2.2.2⟩, rr.length, hrl, s4.1⟩
    · rw [if_neg c] at b2
      refine Or.inr ⟨op, rr, _, by rw [ez, if_neg c], ⟨⟨b2.1, by rw [fz 6 (by decide) (by decide)]; exact b2.2.1, by rw [fz 3 (by decide) (by decide)]; exact b2.2.2.1, by rw [fz 4 (by decide) (by decide)]; exact b2.2.2.2.1, by rw [fz 5 (by decide) (by decide)]; exact b2.2.2.2.2⟩, s4, by rw [e4, zu_eq], ?_⟩, x2, fun x hxw => hw x (zrel_sub (b := 1) w x (by rw [x1]; exact List.mem_cons_of_mem _ hxw))⟩
      exact r3.same (by rw [e4, zu_ne (by omega), zu_ne (by omega)]) (by rw [e4, zu_ne (by omega), zu_ne (by omega)]) (by rw [e4, zu_ne (by omega), zu_ne (by omega)])
  · have ek : ztk K 41 (.ok t0) = .error (1, t0) := by unfold ztk; dsimp only; rw [if_neg c41]
    rw [ek] at b2
    have ez : zex K V (f + 1) false t0 (op + 1) w out = .error (1, t0) := by
      simp only [zex]; rw [if_neg hk, if_pos (by omega), if_neg c41]
    exact Or.inl ⟨(1, t0), ez, ⟨b2.1, by rw [fz 6 (by decide) (by decide)]; exact b2.2.1, by rw [fz 1 (by decide) (by decide)]; exact b2.2.2⟩, rr.length, hrl, s4.1⟩
/-- an E comes to its end on a FAULT -/
theorem C_exErr (hL : zLY Z t u) (hu : u = 3 ∨ u = 30) {e : Nat × Nat} (h : zCt I K P (.error e)) {n : Nat} (hn : n < 1000) (h14 : I 2 14 = nI n) (x1 x2 x3 : Int32) : ∃ I', zE (d + 4) kX5_readE 16 [some (.ref 2), some (.int x1), some (.int x2), some (.int x3)] [] Z I J (none, Z, I', J) ∧ zCt I' K P (.error e) ∧ (∀ a, a ≠ 2 → a ≠ u + 1 → a ≠ u + 1 + 1 → a ≠ u + 1 + 2 → I' a = I a) ∧ ∀ k, k ≠ 14 → I' 2 k = I 2 k := by
  have ne := zCt.e0 h
  obtain ⟨I', r1, r2, r3⟩ := C_relAny (d := d + 1) (J := J) (b := 1) hL hu n I hn
  have rel : zE (d + 3) kX5_release 0 [some (.ref 2), some (.int 1), none] [] Z I J (none, Z, I', J) := BX5_release_0 _ hL (by rw [h14]; exact r1)
  exact ⟨I', BX5_readE_16 _ _ _ hL ⟨fun _ => ⟨I', rel, rfl⟩, fun _ => ⟨fun _ => ⟨I', rel, rfl⟩, fun _ => ⟨fun _ => ⟨I', rel, rfl⟩, fun q => absurd q ne⟩⟩⟩, ⟨h.1, by rw [r3 6 (by decide)]; exact h.2.1, by rw [r3 1 (by decide)]; exact h.2.2⟩, r2, r3⟩
/-- what an E leaves -/
def zEr (I' : zI) (u : Nat) (K P : Nat → Nat) (sz : Nat) (res : Except (Nat × Nat) (Nat × List zTok)) : Prop := match res with
  | .error e => zCt I' K P (.error e)
  | .ok q => zCt I' K P (.ok q.1) ∧ zcO I' u sz q.2 ∧ zpw q.2 0 ∧ sz + q.2.length ≤ q.1
theorem zErest {I'' : zI} (hu : u = 3 ∨ u = 30) {e : Nat × Nat} (f1 : zfrE u sz I I') (h2 : ∀ a, a ≠ 2 → a ≠ u + 1 → a ≠ u + 1 + 1 → a ≠ u + 1 + 2 → I'' a = I' a) (h3 : ∀ k, k ≠ 14 → I'' 2 k = I' 2 k) : (∀ a, a ≠ 2 → a ≠ 29 → a ≠ u + 1 → a ≠ u + 1 + 1 → a ≠ u + 1 + 2 → I'' a = I a) ∧ ∀ k, k ∉ [1, 3, 4, 5, 6, 14, 15] → I'' 2 k = I 2 k :=
  ⟨fun a p1 p2 p3 p4 p5 => by rw [h2 a p1 p3 p4 p5, f1.1 a p1 p2 p3 p4 p5], fun k p => by rw [h3 k (fun q => p (by subst q; decide)), f1.2.1 k p]⟩
/-- the frame of an E: its code counts where it comes to a good end -/
def zfrF (u sz : Nat) (ok : Prop) (I I' : zI) : Prop := (∀ a, a ≠ 2 → a ≠ 29 → a ≠ u + 1 → a ≠ u + 1 + 1 → a ≠ u + 1 + 2 → I' a = I a) ∧ (∀ k, k ∉ [1, 3, 4, 5, 6, 14, 15] → I' 2 k = I 2 k) ∧ (ok → ∀ j, j < sz → I' (u + 1 + 1) j = I (u + 1 + 1) j ∧ I' (u + 1 + 2) j = I (u + 1 + 2) j)
def zrx {α : Type} (r : Except (Nat × Nat) α) : Prop := match r with
  | .error _ => False
  | .ok _ => True
theorem C_ex (hL : zLY Z t u) (hu : u = 3 ∨ u = 30) (hB : zTB K V W) : ∀ (f : Nat) (due : Bool) (t0 op : Nat) (w : List Nat) (out : List zTok) (I : zI) (i : Nat), t0 + f = 402 → i ≤ t0 → zTC I J K P V W → zEs I u K P t0 op w sz out → zxi due sz t0 op w out → (∀ x ∈ w, x < 256) →
    ∃ I', zE (d + 4) kX5_readE 16 [some (.ref 2), some (.int (zdu due)), some (.int 1), some (.int (nI i))] [] Z I J (none, Z, I', J) ∧ zfrF u sz (zrx (zex K V f due t0 op w out)) I I' ∧ zEr I' u K P sz (zex K V f due t0 op w out) := by
  intro f
  induction f with
  | zero => intro due t0 op w out I i hf _ _ h; have := zEs_lt h; omega
  | succ f ih =>
    intro due t0 op w out I i hf hi hT h hx hw
    have ht := zEs_lt h
    have h0 := h.1.2.1
    have n4 : ¬ 400 < nI i := by rw [show (400 : Int32) = nI 400 from rfl, zlt (by decide) (by omega)]; omega
    have e4 : I 2 4 = nI (K t0) := h.1.2.2.2.1
    have hK := hB.1 t0
    -- behind a step
    have next : ∀ (due' : Bool) (I1 : zI), zfrE u sz I I1 → zEo I1 u K P V f due t0 op w sz out due' → ∃ I', zE (d + 4) kX5_readE 16 [some (.ref 2), some (.int (zdu due')), some (.int 1), some (.int (nI i + 1))] [] Z I1 J (none, Z, I', J) ∧ zfrF u sz (zrx (zex K V (f + 1) due t0 op w out)) I I' ∧ zEr I' u K P sz (zex K V (f + 1) due t0 op w out) := by
      intro due' I1 f1 hO
      rcases hO with ⟨e, q1, q2, n, q3, q4⟩ | ⟨op', w', out', q1, q2, q3, q4⟩
      · obtain ⟨I', r1, r2, r3, r4⟩ := C_exErr (d := d) (J := J) hL hu q2 q3 q4 (zdu due') 1 (nI i + 1)
        rw [q1]
        have := zErest (e := e) hu f1 r3 r4
        exact ⟨I', r1, ⟨this.1, this.2, fun z => absurd z (by simp [zrx])⟩, r2⟩
      · have ht1 := zEs_lt q2
        obtain ⟨I', r1, r2, r3⟩ := ih due' (t0 + 1) op' w' out' I1 (i + 1) (by omega) (by omega) (hT.same (fun a p q => f1.1 a (by omega) (by omega) (by omega) (by omega) (by omega))) q2 q3 q4
        rw [q1, zadd1]
        exact ⟨I', r1, ⟨fun a p1 p2 p3 p4 p5 => by rw [r2.1 a p1 p2 p3 p4 p5, f1.1 a p1 p2 p3 p4 p5], fun k p => by rw [r2.2.1 k p, f1.2.1 k p], fun z j hj => ⟨by rw [(r2.2.2 z j hj).1, (f1.2.2 j hj).1], by rw [(r2.2.2 z j hj).2, (f1.2.2 j hj).2]⟩⟩, r3⟩
    cases due with
    | true =>
      obtain ⟨due', I1, s1, s2, s3⟩ := C_unit (d := d) (V := V) hL hu hT hB h hx hw
      obtain ⟨I', r1, r2, r3⟩ := next due' I1 s2 (s3 f)
      exact ⟨I', BX5_readE_16 _ _ _ hL ⟨fun q => absurd q n4, fun _ => ⟨fun q => absurd q (by decide), fun _ => ⟨fun q => absurd h0 q, fun _ => ⟨fun q => absurd q (by decide), fun _ => ⟨_, I1, s1, r1⟩⟩⟩⟩⟩, r2, r3⟩
    | false =>
      have hb : zbind (I 2 4) = nI (zbn (K t0)) := by rw [e4, zbindI _ hK]
      have hb2 := zbn_le (K t0)
      have eb : zbind (I 2 4) ≤ 0 ↔ zbn (K t0) = 0 := by rw [hb, show (0 : Int32) = nI 0 from rfl, zle' (by omega) (by decide)]; omega
      have hop := hx.2.1
      have eo : I 2 15 ≤ 0 ↔ op = 0 := by rw [h.2.2.1, show (0 : Int32) = nI 0 from rfl, zle' (by omega) (by decide)]; omega
      by_cases hk : 0 < zbn (K t0)
      · obtain ⟨I1, s1, s2, s3⟩ := C_oper (d := d) (V := V) hL hu hT hB h hx hw hk
        obtain ⟨I', r1, r2, r3⟩ := next true I1 s2 (s3 f)
        exact ⟨I', BX5_readE_16 _ _ _ hL ⟨fun q => absurd q n4, fun _ => ⟨fun q => absurd q (by decide), fun _ => ⟨fun q => absurd h0 q, fun _ => ⟨fun _ => ⟨fun q => absurd (eb.mp q) (by omega), fun _ => ⟨I1, s1, r1⟩⟩, fun q => absurd rfl q⟩⟩⟩⟩, r2, r3⟩
      · cases op with
        | succ op =>
          obtain ⟨I1, s1, s2, s3⟩ := C_close (d := d) (V := V) hL hu hT hB h hx hw hk
          obtain ⟨I', r1, r2, r3⟩ := next false I1 s2 (s3 f)
          exact ⟨I', BX5_readE_16 _ _ _ hL ⟨fun q => absurd q n4, fun _ => ⟨fun q => absurd q (by decide), fun _ => ⟨fun q => absurd h0 q, fun _ => ⟨fun _ => ⟨fun _ => ⟨fun q => absurd (eo.mp q) (by omega), fun _ => ⟨I1, s1, r1⟩⟩, fun q => absurd (eb.mpr (by omega)) q⟩, fun q => absurd rfl q⟩⟩⟩⟩, r2, r3⟩
        | zero =>
          obtain ⟨h1, h2, h3, h4⟩ := h
          have hlen := zxi_len hx
          have hsz := hx.2.2.2
          obtain ⟨z1, z2⟩ := zxi_end hx
          obtain ⟨I', r1, r2, r3, ⟨r4, r5⟩, r6⟩ := C_release (d := d + 1) (J := J) hL hu (b := 1) (by decide) (by decide) w I out h2 (by omega) hw h4 (by omega)
          have rel : zE (d + 3) kX5_release 0 [some (.ref 2), some (.int 1), none] [] Z I J (none, Z, I', J) := BX5_release_0 _ hL (by rw [h2.1]; exact r1)
          have ez : zex K V (f + 1) false t0 0 w out = .ok (t0, out ++ (zrel 1 w).1) := by simp only [zex]; rw [if_neg hk, if_neg (by decide)]
          have last : zE (d + 4) kX5_readE 16 [some (.ref 2), some (.int 0), some (.int 0), some (.int (nI i + 1))] [] Z I J (none, Z, I', J) := BX5_readE_16 _ _ _ hL ⟨fun _ => ⟨I', rel, rfl⟩, fun _ => ⟨fun _ => ⟨I', rel, rfl⟩, fun q => absurd rfl q⟩⟩
          rw [ez]
          refine ⟨I', BX5_readE_16 _ _ _ hL ⟨fun q => absurd q n4, fun _ => ⟨fun q => absurd q (by decide), fun _ => ⟨fun q => absurd h0 q, fun _ => ⟨fun _ => ⟨fun _ => ⟨fun _ => last, fun q => absurd (eo.mpr rfl) q⟩, fun q => absurd (eb.mpr (by omega)) q⟩, fun q => absurd rfl q⟩⟩⟩⟩, ⟨fun a p1 p2 p3 p4 p5 => r4 a p1 p3 p4 p5, fun k p => r5 k (fun q => p (by subst q; decide)), fun _ j hj => r6 j hj⟩, ⟨⟨h1.1, by rw [r5 6 (by decide)]; exact h1.2.1, by rw [r5 3 (by decide)]; exact h1.2.2.1, by rw [r5 4 (by decide)]; exact h1.2.2.2.1, by rw [r5 5 (by decide)]; exact h1.2.2.2.2⟩, r3, z1, z2⟩⟩
/-- an E from where the reader stands -/
def zxR (K V : Nat → Nat) (r : zRt) : Except (Nat × Nat) (Nat × List zTok) := match r with
  | .error e => .error e
  | .ok t => zxr K V t
theorem C_readE (hL : zLY Z t u) (hu : u = 3 ∨ u = 30) (hB : zTB K V W) (hT : zTC I J K P V W) (h : zCt I K P r) (hs : ∀ t1, r = .ok t1 → sz ≤ t1 ∧ I (u + 1) 0 = nI sz) : ∃ I', zE (d + 4) kX5_readE 0 [some (.ref 2), none, none, none] [] Z I J (none, Z, I', J) ∧ zfrF u sz (zrx (zxR K V r)) I I' ∧ zEr I' u K P sz (zxR K V r) := by
  obtain ⟨I2, e2⟩ : ∃ I2 : zI, I2 = zu (zu I 2 14 0) 2 15 0 := ⟨_, rfl⟩
  have f2 : zf2 [14, 15] I I2 := by rw [e2]; exact (zf2.put (by decide)).tr (zf2.put (by decide))
  have hC : zCt I2 K P r := h.f2 f2 (fun k hk q => by simp at q; omega)
  have start : ∀ o : zO, zE (d + 4) kX5_readE 16 [some (.ref 2), some (.int 1), some (.int 1), some (.int 0)] [] Z I2 J o → zE (d + 4) kX5_readE 0 [some (.ref 2), none, none, none] [] Z I J o := fun o k => BX5_readE_0 hL (fun I1 e1 I3 e3 => by rw [e1, ← e2] at e3; rw [e3]; exact k)
  cases r with
  | error e =>
    obtain ⟨I', r1, r2, r3, r4⟩ := C_exErr (d := d) (J := J) hL hu hC (n := 0) (by decide) (by rw [e2, zu_k (by decide), zu_eq]; rfl) 1 1 0
    exact ⟨I', start _ r1, ⟨fun a p1 _ p3 p4 p5 => by rw [r3 a p1 p3 p4 p5, f2.1 a p1], fun k p => by rw [r4 k (fun q => p (by subst q; decide)), f2.2 k (fun q => p (by simp at q; rcases q with rfl | rfl <;> decide))], fun z => absurd z (by simp [zxR, zrx])⟩, r2⟩
  | ok t1 =>
    obtain ⟨g1, g2⟩ := hs t1 rfl
    have ht := hC.1.1
    obtain ⟨I', r1, r2, r3⟩ := C_ex (d := d) (J := J) (P := P) (sz := sz) hL hu hB (402 - t1) true t1 0 [] [] I2 0 (by omega) (Nat.zero_le _) (hT.f2 f2) ⟨hC, ⟨by rw [e2, zu_k (by decide), zu_eq]; rfl, trivial⟩, by rw [e2, zu_eq]; rfl, ⟨by rw [f2.1 _ (by omega)]; exact g2, trivial⟩⟩ (zxi_0 g1) (fun x hx => by cases hx)
    exact ⟨I', start _ r1, ⟨fun a p1 p2 p3 p4 p5 => by rw [r2.1 a p1 p2 p3 p4 p5, f2.1 a p1], fun k p => by rw [r2.2.1 k p, f2.2 k (fun q => p (by simp at q; rcases q with rfl | rfl <;> decide))], fun z j hj => ⟨by rw [(r2.2.2 z j hj).1, f2.1 _ (by omega)], by rw [(r2.2.2 z j hj).2, f2.1 _ (by omega)]⟩⟩, r3⟩
end
