/-! the class's reader: a LAW, whole -/
/-- what a LAW's reader leaves -/
def zLr (I I' : zI) (u : Nat) (K P : Nat → Nat) (c : Nat) (res : Except (Nat × Nat) (Nat × zLaw)) : Prop := match res with
  | .error e => zCt I' K P (.error e)
  | .ok q => zCt I' K P (.ok q.1) ∧ I' (u + 1) 0 = nI (c + zcln q.2.1 q.2.2) ∧ zclw (I' (u + 1 + 1)) (I' (u + 1 + 2)) c q.2.1 q.2.2 ∧ c + zcln q.2.1 q.2.2 ≤ q.1 + 1 ∧ zlwOK q.2 ∧ ∀ j, j < c → I' (u + 1 + 1) j = I (u + 1 + 1) j ∧ I' (u + 1 + 2) j = I (u + 1 + 2) j
section
variable {d : Nat} {Z : zZ} {I I' : zI} {J : zJ} {t u t0 sz op f c : Nat} {K P V W : Nat → Nat} {out : List zTok} {w : List Nat} {o : zO} {r : zRt}
theorem C_law126 (hL : zLY Z t u) (hu : u = 3 ∨ u = 30) (hB : zTB K V W) (hT : zTC I J K P V W) (h : zCt I K P r) (hs : ∀ t1, r = .ok t1 → c ≤ t1 ∧ I (u + 1) 0 = nI c) (x2 : Int32) :
    ∃ I', zE (d + 5) kX5_readLaw 126 [some (.ref 2), some (.ref (u + 1)), some (.int x2), none, none] [] Z I J (some (.int x2), Z, I', J) ∧ zfrR u I I' ∧ zCt I' K P (zrt (zxR K V r)) ∧ ∀ q, zxR K V r = .ok q → I' (u + 1) 0 = nI (c + q.2.length + 1) ∧ zcsg (I' (u + 1 + 1)) (I' (u + 1 + 2)) c q.2 ∧ I' (u + 1 + 1) (c + q.2.length) = 0 ∧ (c + q.2.length ≤ q.1 ∧ q.1 ≤ 400) ∧ zpw q.2 0 ∧ ∀ j, j < c → I' (u + 1 + 1) j = I (u + 1 + 1) j ∧ I' (u + 1 + 2) j = I (u + 1 + 2) j := by
  obtain ⟨I1, a1, f1, b1⟩ := C_readE (d := d) hL hu hB hT h hs
  obtain ⟨I2, a2, f2, g2⟩ := C_addU (d := d + 3) (I := I1) (J := J) hL 0 0
  refine ⟨I2, BX5_readLaw_126 _ hL (zTx_l (ly_ux hL)) ⟨I1, a1, I2, a2, rfl⟩, (zfrR.F f1).tr (zfrR.add hu f2), b1.rt.rw (f2 2 (by omega) (by omega) (by omega)), fun q e => ?_⟩
  have fc := f1.2.2 (by rw [e]; trivial)
  rw [e] at b1
  obtain ⟨p1, p2, p3, p4⟩ := b1
  have hp := p1.1.1
  have m := g2 _ p2.1 (by omega)
  have R1 : ∀ j, j < c + q.2.length → I2 (u + 1 + 1) j = I1 (u + 1 + 1) j := fun j hj => by rw [m, zu_ne (by omega), zu_ne (by omega), zu_k (by omega)]
  have R2 : ∀ j, j < c + q.2.length → I2 (u + 1 + 2) j = I1 (u + 1 + 2) j := fun j hj => by rw [m, zu_ne (by omega), zu_k (by omega), zu_ne (by omega)]
  exact ⟨by rw [m, zu_eq], zcsg_agree _ _ (fun j h1 h2 => ⟨R1 j h2, R2 j h2⟩) p2.2, by rw [m, zu_ne (by omega), zu_ne (by omega), zu_eq], ⟨p4, hp⟩, p3, fun j hj => ⟨by rw [R1 j (by omega), (fc j hj).1], by rw [R2 j (by omega), (fc j hj).2]⟩⟩
theorem C_lawErr (hL : zLY Z t u) (hu : u = 3 ∨ u = 30) (hB : zTB K V W) (hT : zTC I J K P V W) {e : Nat × Nat} (h : zCt I K P (.error e)) (x2 x3 : Int32) :
    ∃ I', zE (d + 5) kX5_readLaw 21 [some (.ref 2), some (.ref (u + 1)), some (.int x2), some (.int x3), none] [] Z I J (some (.int x2), Z, I', J) ∧ zfrR u I I' ∧ zCt I' K P (.error e) := by
  have ne := zCt.e0 h
  obtain ⟨I', a1, a2, a3, -⟩ := C_law126 (d := d) (c := 0) hL hu hB hT h (fun t1 q => absurd q (by simp)) x2
  exact ⟨I', BX5_readLaw_21 _ _ hL (zTx_l (ly_ux hL)) ⟨fun _ => a1, fun _ => ⟨fun _ => a1, fun q => absurd q ne⟩⟩, a2, a3⟩
theorem C_law (hL : zLY Z t u) (hu : u = 3 ∨ u = 30) (hB : zTB K V W) (x2 : Int32) : ∀ (f t0 c : Nat) (I : zI), f ≤ 4 → zTC I J K P V W → zCt I K P (.ok t0) → c ≤ t0 → I (u + 1) 0 = nI c →
    ∃ I', zE (d + 5) kX5_readLaw 21 [some (.ref 2), some (.ref (u + 1)), some (.int x2), some (.int (nI (4 - f))), none] [] Z I J (some (.int x2), Z, I', J) ∧ zfrR u I I' ∧ zLr I I' u K P c (zlawp K V f t0) := by
  have ends : ∀ (f t0 c : Nat) (I : zI), f ≤ 4 → zTC I J K P V W → zCt I K P (.ok t0) → c ≤ t0 → I (u + 1) 0 = nI c → ¬ K t0 = 136 → ∃ I', zE (d + 5) kX5_readLaw 21 [some (.ref 2), some (.ref (u + 1)), some (.int x2), some (.int (nI (4 - f))), none] [] Z I J (some (.int x2), Z, I', J) ∧ zfrR u I I' ∧ zLr I I' u K P c (zlend K V t0) := by
    intro f t0 c I hf hT h hc h0 hk
    have ht := h.1.1
    have hK := hB.1 t0
    have n4 : ¬ 4 < nI (4 - f) := by rw [show (4 : Int32) = nI 4 from rfl, zlt (by decide) (by omega)]; omega
    have e4 : ¬ I 2 4 = 136 := by rw [h.2.2.2.1, show (136 : Int32) = nI 136 from rfl, zeq (by omega) (by decide)]; exact hk
    obtain ⟨I', a1, a2, a3, a4⟩ := C_law126 (d := d) (c := c) hL hu hB hT h (fun t1 q => by cases q; exact ⟨hc, h0⟩) x2
    refine ⟨I', BX5_readLaw_21 _ _ hL (zTx_l (ly_ux hL)) ⟨fun q => absurd q n4, fun _ => ⟨fun q => absurd h.2.1 q, fun _ => ⟨fun _ => a1, fun q => absurd q e4⟩⟩⟩, a2, ?_⟩
    have ez : zxR K V (.ok t0) = zxr K V t0 := rfl
    rw [ez] at a3 a4
    unfold zlend
    cases hx : zxr K V t0 with
    | error e => rw [hx] at a3; exact a3
    | ok q =>
      rw [hx] at a3
      obtain ⟨g1, g2, g3, ⟨g4, g4'⟩, g5, g6⟩ := a4 q hx
      have g7 : c + q.2.length ≤ 400 := by omega
      have g8 : c + (q.2.length + 1) ≤ q.1 + 1 := by omega
      exact ⟨a3, g1, ⟨g2, g3, g7⟩, g8, ⟨fun x hx => absurd hx (by simp), g5⟩, g6⟩
  intro f
  induction f with
  | zero =>
    intro t0 c I hf hT h hc h0
    by_cases hk : K t0 = 136
    · have ht := h.1.1
      have e4 : I 2 4 = 136 := by rw [h.2.2.2.1, hk]; rfl
      have fl := C_fail (d := d + 4) (Z := Z) (J := J) hL h.2.1 (x := nI 2) (y := I 2 5)
      rw [h.2.2.2.2] at fl
      have fF : zf2 [1, 3, 4, 5, 6] I (zu (zu I 2 6 (nI 2)) 2 1 (nI (P t0))) := (zf2.put (by decide)).tr (zf2.put (by decide))
      have hE0 : zCt (zu (zu I 2 6 (nI 2)) 2 1 (nI (P t0))) K P (.error (2, t0)) := zCt_fail (by decide)
      obtain ⟨I2, k1, k2, k3, -⟩ := C_law57 (d := d) (c := 0) hL hu hB (hT.f2 fF) hE0 (fun t1 q => absurd q (by simp)) x2 (nI 4)
      obtain ⟨I3, l1, l2, l3⟩ := C_lawErr (d := d) (e := (2, t0)) hL hu hB (hT.R hu ((zfrR.f2 fF (by decide)).tr k2)) k3 x2 (nI 4 + 1)
      refine ⟨I3, BX5_readLaw_21 _ _ hL (zTx_l (ly_ux hL)) ⟨fun q => absurd q (by decide), fun _ => ⟨fun q => absurd h.2.1 q, fun _ => ⟨fun q => absurd e4 q, fun _ => ⟨fun q => absurd rfl q, fun _ => ⟨_, by rw [h.2.2.2.2]; exact fl, k1 _ l1⟩⟩⟩⟩⟩, ((zfrR.f2 fF (by decide)).tr k2).tr l2, ?_⟩
      simp only [zlawp]
      rw [if_pos hk]
      exact l3
    · have := ends 0 t0 c I hf hT h hc h0 hk
      simp only [zlawp]
      rw [if_neg hk]
      exact this
  | succ f ih =>
    intro t0 c I hf hT h hc h0
    by_cases hk : K t0 = 136
    · have ht := h.1.1
      have e4 : I 2 4 = 136 := by rw [h.2.2.2.1, hk]; rfl
      have n4 : ¬ 4 < nI (4 - (f + 1)) := by rw [show (4 : Int32) = nI 4 from rfl, zlt (by decide) (by omega)]; omega
      have n5 : ¬ nI (4 - (f + 1)) = 4 := by rw [show (4 : Int32) = nI 4 from rfl, zeq (by omega) (by decide)]; omega
      obtain ⟨I2, k1, k2, k3, k4⟩ := C_law57 (d := d) (c := c) hL hu hB hT h (fun t1 q => by cases q; exact ⟨hc, h0⟩) x2 (nI (4 - (f + 1)))
      have et : ztk K 136 (.ok t0) = zgn t0 := by unfold ztk; dsimp only; rw [if_pos hk]
      rw [et] at k3 k4
      have go : ∀ o : zO, zE (d + 5) kX5_readLaw 21 [some (.ref 2), some (.ref (u + 1)), some (.int x2), some (.int (nI (4 - (f + 1)) + 1)), none] [] Z I2 J o → zE (d + 5) kX5_readLaw 21 [some (.ref 2), some (.ref (u + 1)), some (.int x2), some (.int (nI (4 - (f + 1)))), none] [] Z I J o := fun o k => BX5_readLaw_21 _ _ hL (zTx_l (ly_ux hL)) ⟨fun q => absurd q n4, fun _ => ⟨fun q => absurd h.2.1 q, fun _ => ⟨fun q => absurd e4 q, fun _ => ⟨fun _ => k1 _ k, fun q => absurd q n5⟩⟩⟩⟩
      simp only [zlawp]
      rw [if_pos hk]
      cases hz : (zlif K V (zgn t0)).1 with
      | error e =>
        rw [hz] at k3
        obtain ⟨I3, l1, l2, l3⟩ := C_lawErr (d := d) (e := e) hL hu hB (hT.R hu k2) k3 x2 (nI (4 - (f + 1)) + 1)
        exact ⟨I3, go _ l1, k2.tr l2, l3⟩
      | ok t4 =>
        rw [hz] at k3
        obtain ⟨a1, a2, a3, ea⟩ : ∃ a1 a2 a3, (zlif K V (zgn t0)).2 = (a1, a2, a3) := ⟨_, _, _, rfl⟩
        obtain ⟨g1, g2, ⟨g3, g4, g5, g6, g7, g8⟩, ⟨g9, g10, g11⟩, g12⟩ := k4 t4 hz a1 a2 a3 ea
        obtain ⟨I3, l1, l2, l3⟩ := ih t4 (c + a1.length + a2.length + 1 + a3.length + 1) I2 (by omega) (hT.R hu k2) k3 g2 g1
        rw [show 4 - f = 4 - (f + 1) + 1 by omega, ← zadd1] at l1
        refine ⟨I3, go _ l1, k2.tr l2, ?_⟩
        rw [ea]
        dsimp only
        cases hy : zlawp K V f t4 with
        | error e => rw [hy] at l3; exact l3
        | ok q =>
          rw [hy] at l3
          obtain ⟨m1, m2, m3, m4, m5, m6⟩ := l3
          refine ⟨m1, by simp only [zcln]; rw [m2]; congr 1; omega, ⟨zcsg_agree _ _ (fun j p1 p2 => m6 j (by omega)) g3, zcsg_agree _ _ (fun j p1 p2 => m6 j (by omega)) g4, (m6 _ (by omega)).1.trans g5, (m6 _ (by omega)).2.trans g6, zcsg_agree _ _ (fun j p1 p2 => m6 j (by omega)) g7, (m6 _ (by omega)).1.trans g8, m3⟩, by simp only [zcln]; omega, ⟨fun x hx => ?_, m5.2⟩, fun j hj => ⟨by rw [(m6 j (by omega)).1, (g12 j hj).1], by rw [(m6 j (by omega)).2, (g12 j hj).2]⟩⟩
          rcases List.mem_cons.mp hx with e | e
          · rw [e]; exact ⟨g9, g10, g11⟩
          · exact m5.1 x e
    · have := ends (f + 1) t0 c I hf hT h hc h0 hk
      simp only [zlawp]
      rw [if_neg hk]
      exact this
theorem C_readLaw (hL : zLY Z t u) (hu : u = 3 ∨ u = 30) (hB : zTB K V W) (hT : zTC I J K P V W) (h : zCt I K P r) (hs : ∀ t1, r = .ok t1 → c ≤ t1 ∧ I (u + 1) 0 = nI c) : ∃ I', zE (d + 5) kX5_readLaw 0 [some (.ref 2), none, none, none, none] [] Z I J (some (.int (I (u + 1) 0)), Z, I', J) ∧ zfrR u I I' ∧ zLr I I' u K P c (zlawR K V r) := by
  obtain ⟨I1, a1, b1, f1⟩ := C_take (d := d + 2) (J := J) hL hT hB (k := 61) (by decide) (by decide) h
  have F1 : zfrR u I I1 := zfrR.f2 f1 (by decide)
  unfold zlawR
  cases hr : ztk K 61 r with
  | error e =>
    rw [hr] at b1
    obtain ⟨I2, l1, l2, l3⟩ := C_lawErr (d := d) (e := e) hL hu hB (hT.R hu F1) b1 (I (u + 1) 0) 0
    exact ⟨I2, BX5_readLaw_0 hL ⟨I1, a1, l1⟩, F1.tr l2, l3⟩
  | ok t1 =>
    rw [hr] at b1
    obtain ⟨t2, e2, e3, e4, e5⟩ := ztk_ok hr
    obtain ⟨g1, g2⟩ := hs t2 e2
    obtain ⟨I2, l1, l2, l3⟩ := C_law (d := d) (J := J) hL hu hB (I (u + 1) 0) 4 t1 c I1 (by decide) (hT.R hu F1) b1 (by omega) (by rw [f1.1 _ (by omega)]; exact g2)
    refine ⟨I2, BX5_readLaw_0 hL ⟨I1, a1, l1⟩, F1.tr l2, ?_⟩
    dsimp only
    cases hy : zlawp K V 4 t1 with
    | error e => rw [hy] at l3; exact l3
    | ok q =>
      rw [hy] at l3
      obtain ⟨m1, m2, m3, m4, m5, m6⟩ := l3
      exact ⟨m1, m2, m3, m4, m5, fun j hj => ⟨by rw [(m6 j hj).1, f1.1 _ (by omega)], by rw [(m6 j hj).2, f1.1 _ (by omega)]⟩⟩
end
