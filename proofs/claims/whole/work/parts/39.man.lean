/-! man, turns, thieves, nearest, meet -/
theorem zsw (n : Nat) (hn : n < 1000) (f : Nat → Int32) (x : Int32) : ∃ r : Int32, (∀ k, k < n → x = nI k → r = f k) ∧ (x.toInt < 0 ∨ (n : Int) - 1 < x.toInt → r = -1) := by
  rcases zix x (n := n) (by omega) with g | ⟨j, hj, rfl⟩
  · refine ⟨-1, fun k hk e => ?_, fun _ => rfl⟩
    subst e
    rcases g with g | g
    · exact absurd g (zneg (by omega))
    · rw [zle' (by omega) (by omega)] at g; omega
  · refine ⟨f j, fun k hk e => ?_, fun h => ?_⟩
    · rw [zeq (by omega) (by omega)] at e; rw [e]
    · have : (nI j).toInt = (j : Int) := Int32.toInt_ofNat_of_lt (show j < 2 ^ 31 by omega)
      omega
theorem zsubT {a c : Nat} (ha : a < 1000000000) (hc : c < 1000000000) : (nI a - nI c).toInt = (a : Int) - c := by
  have e1 : (nI a).toInt = (a : Int) := Int32.toInt_ofNat_of_lt (show a < 2 ^ 31 by omega)
  have e2 : (nI c).toInt = (c : Int) := Int32.toInt_ofNat_of_lt (show c < 2 ^ 31 by omega)
  rw [Int32.toInt_sub, e1, e2, Int.bmod_eq_of_le (by omega) (by omega)]
theorem zabs {a c : Nat} (ha : a < 1000000000) (hc : c < 1000000000) : (if 0 ≤ nI a - nI c then nI a - nI c else 0 - (nI a - nI c)) = nI (if a < c then c - a else a - c) := by
  have h := zsubT ha hc
  by_cases q : a < c
  · rw [if_pos q, if_neg]
    · rw [← zsub (by omega)]
      rw [Int32.zero_sub, Int32.neg_sub]
    · intro z; rw [Int32.le_iff_toInt_le, h] at z; simp at z; omega
  · rw [if_neg q, if_pos]
    · exact zsub (by omega)
    · rw [Int32.le_iff_toInt_le, h]; simp; omega
/-- how far two are -/
def zfar (ρ : Nat → Nat) (x y x' y' : Nat) : Nat := (if x < x' then x' - x else x - x') + (if y < y' then y' - y else y - y')
section
variable {d : Nat} {Z : zZ} {J : zJ} {I I' : zI} {t u v b : Nat} {τ : Nat → Nat → Nat} {Λ : Nat → Option zLaw} {ρ : Nat → Nat}
theorem C_apart {x y x' y' : Nat} (h1 : x < 1000) (h2 : y < 1000) (h3 : x' < 1000) (h4 : y' < 1000) : zE (d + 1) kX11_apart 0 [some (.int (nI x)), some (.int (nI y)), some (.int (nI x')), some (.int (nI y'))] [] Z I J (some (.int (nI (zfar ρ x y x' y'))), Z, I, J) := by
  refine BX11_apart_0 _ _ _ _ ?_
  rw [zabs (by omega) (by omega), zabs (by omega) (by omega), zadd]
  rfl
theorem zfap {x y x' y' : Nat} (h1 : x < 1000) (h2 : y < 1000) (h3 : x' < 1000) (h4 : y' < 1000) : zap (nI x) (nI x') + zap (nI y) (nI y') = nI (zfar ρ x y x' y') := by
  rw [zapI (by omega) (by omega), zapI (by omega) (by omega), zadd]; rfl
set_option maxHeartbeats 1000000 in
theorem Q_man (h : zR0 Z I t u v τ Λ b ρ) (x w : Int32) : zQ2 kX11_man kX12_man [some (.ref 0), some (.int x), some (.int w)] [some (.ref 420), some (.int x), some (.int w)] Z I J := by
  have h7 := h.n7
  by_cases hx : zism τ x
  · obtain ⟨m, hm, rfl⟩ := (zism_iff h7 x).mp hx
    have nm : ¬ zbi (zism τ (nI m)) = 0 := zbi_ne0.mpr hx
    have hw := h.W.1
    obtain ⟨p1, p2, p3, p4, p5, p6⟩ := h.D.man hm
    obtain ⟨q1, q2, q3, q4, q5, -⟩ := h.W.2.1 m hm
    obtain ⟨r, hr, hr'⟩ := zsw 8 (by decide) (fun k => ([nI (ρ m), nI (ρ (7 + m)), nI (ρ (14 + m)), nI (τ 9 m - ρ (14 + m)), nI (ρ (21 + m)), nI (zfar ρ (ρ m) (ρ (7 + m)) (τ 1 m) (τ 2 m)), nI (if ρ (21 + m) = 0 then zwn τ Λ ρ m (ρ 28) else 0), nI (τ 3 m)] : List Int32).getD k 0) w
    have f0 : w = 0 → r = nI (ρ m) := fun e => hr 0 (by decide) e
    have f1 : w = 1 → r = nI (ρ (7 + m)) := fun e => hr 1 (by decide) e
    have f2 : w = 2 → r = nI (ρ (14 + m)) := fun e => hr 2 (by decide) e
    have f3 : w = 3 → r = nI (τ 9 m - ρ (14 + m)) := fun e => hr 3 (by decide) e
    have f4 : w = 4 → r = nI (ρ (21 + m)) := fun e => hr 4 (by decide) e
    have f5 : w = 5 → r = nI (zfar ρ (ρ m) (ρ (7 + m)) (τ 1 m) (τ 2 m)) := fun e => hr 5 (by decide) e
    have f6 : w = 6 → r = nI (if ρ (21 + m) = 0 then zwn τ Λ ρ m (ρ 28) else 0) := fun e => hr 6 (by decide) e
    have f7 : w = 7 → r = nI (τ 3 m) := fun e => hr 7 (by decide) e
    have fo : w.toInt < 0 ∨ 7 < w.toInt → r = -1 := fun e => hr' (by omega)
    obtain ⟨g1, g2, g3, g4⟩ := h.C.2.1 m hm
    obtain ⟨IW, w1, w2⟩ := C_wants (d := 6) (J := J) (ly_d47 h.L) (ly_tx h.L) h.W h.T h.C h.D hm (mi := ρ 28)
    have hsW : zscr I IW := zscr.fc w1 (by rcases h.t3 with rfl | rfl <;> decide)
    have hC : ∃ I1, zE 10 kX11_man 0 [some (.ref 0), some (.int (nI m)), some (.int w)] [] Z I J (some (.int r), Z, I1, J) ∧ zscr I I1 := by
      by_cases e6 : w = 6
      · refine ⟨IW, BX11_man_0 (d := 6) _ _ h.L ⟨_, C_isMan h.L h7 h.men, fun _ => ⟨?_, ?_, ?_, ?_, ?_, ?_, ?_, fun _ => ⟨_, IW, by rw [h.E.2.1]; exact w2, by rw [f6 e6]⟩, ?_⟩, fun q => absurd q nm⟩, hsW⟩
        all_goals subst e6; intro q; exact absurd q (by decide)
      · refine ⟨I, BX11_man_0 (d := 6) _ _ h.L ⟨_, C_isMan h.L h7 h.men, fun _ => ⟨fun q => by rw [fo q], fun q => ?_, fun q => ?_, fun q => ?_, fun q => ⟨_, C_left (ly_d47 h.L) (ly_tx h.L) h.W h.T h.C hm p3, by rw [f3 q]⟩, fun q => ?_, fun q => ⟨nI (zfar ρ (ρ m) (ρ (7 + m)) (τ 1 m) (τ 2 m)), ?_, by rw [f5 q]⟩, fun q => absurd q e6, fun q => ?_⟩, fun q => absurd q nm⟩, zscr.rf⟩
        · rw [zatI (by omega) (by decide), g1, f0 q]
        · rw [zatI (by omega) (by decide), g2, f1 q]
        · rw [zatI (by omega) (by decide), g3, f2 q]
        · rw [zatI (by omega) (by decide), g4, f4 q]
        · rw [zatI (by omega) (by decide), zatI (by omega) (by decide), zatI (by omega) (by decide), zatI (by omega) (by decide), g1, g2, (h.T.2.1 m hm).1, (h.T.2.1 m hm).2.1]
          exact C_apart (by omega) (by omega) (by omega) (by omega)
        · rw [(zdye h hm).1, f7 q]
    refine zQ2.of h r hC (fun I1 h1 => ?_)
    obtain ⟨I2, k1, k2, k3, k4, k5⟩ := M_cop (d := 9) (J := J) h1
    have em : ((7 : Int32) * I2 420 18) + nI m = nI (7 * v + m) := by rw [k2.M.1.2, show (7 : Int32) = nI 7 from rfl, zmul, zadd]
    have hv2 := k2.M.1.1
    have vm : vp_in (((7 : Int32) * I2 420 18) + nI m) 14 := by rw [em]; exact zvin (by omega) (by decide)
    have v0 : vp_in (nI m) 1290 := zvin (by omega) (by decide)
    have v7 : vp_in ((7 : Int32) + nI m) 1290 := by rw [zk_7]; exact zvin (by omega) (by decide)
    have v14 : vp_in ((14 : Int32) + nI m) 1290 := by rw [zk_14]; exact zvin (by omega) (by decide)
    have v21 : vp_in ((21 : Int32) + nI m) 1290 := by rw [zk_21]; exact zvin (by omega) (by decide)
    have r0 : I2 458 (nI m).toNatClampNeg = nI (ρ m) := by rw [zclm (by omega)]; exact k3.at (by omega)
    have r7 : I2 458 ((7 : Int32) + nI m).toNatClampNeg = nI (ρ (7 + m)) := by rw [zk_7, zclm (by omega)]; exact k3.at (by omega)
    have r14 : I2 458 ((14 : Int32) + nI m).toNatClampNeg = nI (ρ (14 + m)) := by rw [zk_14, zclm (by omega)]; exact k3.at (by omega)
    have r21 : I2 458 ((21 : Int32) + nI m).toNatClampNeg = nI (ρ (21 + m)) := by rw [zk_21, zclm (by omega)]; exact k3.at (by omega)
    obtain ⟨d1, d2, d3, -⟩ := k2.M.2.2.1 m hm
    obtain ⟨I3, l1, l2⟩ := M_leftOf (d := 6) (J := J) k2.L k2.W k2.M k3 hm p3
    by_cases e3 : w = 3
    · refine ⟨I3, BX12_man_0 (d := 5) _ _ h1.L ⟨_, M_isMan h1.L h1.W h1.M, fun _ => ⟨I2, k1, ?_, ?_, ?_, ?_, fun _ => ⟨_, I3, l1, by rw [f3 e3]⟩, ?_, ?_, ?_, ?_⟩, fun q => absurd q nm⟩, k5.tr (zscr.fl l2)⟩
      all_goals subst e3; intro q; exact absurd q (by decide)
    · by_cases e6 : w = 6 ∧ ρ (21 + m) = 0
      · obtain ⟨e6, e0⟩ := e6
        obtain ⟨I4, o1, o2⟩ := M_goesOf (d := 5) (J := J) k2.L k2.W k2.M k3 hm p3 (k4 m (by omega)) (Nat.zero_le _)
        rw [Nat.sub_zero, (zwn_eq m (ρ 28)).1] at o1
        refine ⟨I4, BX12_man_0 (d := 5) _ _ h1.L ⟨_, M_isMan h1.L h1.W h1.M, fun _ => ⟨I2, k1, ?_, ?_, ?_, ?_, ?_, ?_, ?_, fun _ => ⟨v21, fun _ => ⟨_, I4, o1, by rw [f6 e6, if_pos e0]⟩, fun q => ?_⟩, ?_⟩, fun q => absurd q nm⟩, k5.tr (zscr.fl o2)⟩
        all_goals first | (exfalso; rw [r21, e0] at q; exact absurd q (by decide)) | (subst e6; intro q; exact absurd q (by decide))
      · refine ⟨I2, BX12_man_0 (d := 5) _ _ h1.L ⟨_, M_isMan h1.L h1.W h1.M, fun _ => ⟨I2, k1, fun q => by rw [fo q], fun q => ⟨v0, by rw [r0, f0 q]⟩, fun q => ⟨v7, by rw [r7, f1 q]⟩, fun q => ⟨v14, by rw [r14, f2 q]⟩, fun q => absurd q e3, fun q => ⟨v21, by rw [r21, f4 q]⟩, fun q => ⟨v0, vm, v7, vm, ?_⟩, fun q => ⟨v21, fun q2 => ?_, fun q2 => ?_⟩, fun q => ⟨vm, ?_⟩⟩, fun q => absurd q nm⟩, k5⟩
        · rw [r0, r7, em, zclm (by omega), d1, d2, zfap (ρ := ρ) (by omega) (by omega) (by omega) (by omega), f5 q]
        · exfalso
          have hz : ¬ ρ (21 + m) = 0 := fun z => e6 ⟨q, z⟩
          have : ρ (21 + m) = 1 := by omega
          rw [r21, this] at q2; exact q2 rfl
        · rw [f6 q, if_neg (fun z => e6 ⟨q, z⟩)]; rfl
        · rw [em, zclm (by omega), d3, f7 q]
  · have nm : zbi (zism τ x) = 0 := zbi_eq0.mpr hx
    exact zQ2.of h (-1) ⟨I, BX11_man_0 (d := 6) _ _ h.L ⟨_, C_isMan h.L h7 h.men, fun q => absurd nm q, fun _ => rfl⟩, zscr.rf⟩ (fun I1 h => ⟨I1, BX12_man_0 (d := 5) _ _ h.L ⟨_, M_isMan h.L h.W h.M, fun q => absurd nm q, fun _ => rfl⟩, zscr.rf⟩)
-- TURNS
/-- a sum of ints -/
def zsuI (f : Nat → Int32) : Nat → Nat → Int32
  | _, 0 => 0
  | i, k + 1 => f i + zsuI f (i + 1) k
theorem zsuI_lt {f : Nat → Int32} {i e : Nat} (h : i < e) : zsuI f i (e - i) = f i + zsuI f (i + 1) (e - (i + 1)) := by
  rw [show e - i = (e - (i + 1)) + 1 by omega]; rfl
/-- what a PIECE adds to the TURNS about a PILLAR -/
def ztr (ρ : Nat → Nat) (px py q : Nat) : Int32 := if ρ (870 + q) < 144 then 0 else if (ρ (870 + q) - 144) / 12 = py ∧ px < (ρ (870 + q) - 144) % 12 then (if ρ (30 + q) = 1 then 1 else -1) else 0
def zturn (ρ : Nat → Nat) (m px py : Nat) : Int32 := zsuI (fun i => ztr ρ px py (60 * m + i)) 0 (ρ (14 + m))
theorem zodd (hD : zDW τ ρ) (hW : zTW τ Λ) {q : Nat} (hq : zlive τ ρ q) : (ρ (870 + q) < 144 ∧ (ρ (30 + q) = 2 ∨ ρ (30 + q) = 4)) ∨ (144 ≤ ρ (870 + q) ∧ ρ (870 + q) < 288 ∧ (ρ (30 + q) = 1 ∨ ρ (30 + q) = 3)) := by
  have h288 := zlive_s hW hD hq
  obtain ⟨a, i, g1, g2, rfl, -⟩ := zlive_own hq
  obtain ⟨w1, w4, e, -⟩ := hD.2.2.1 a i g1 g2
  obtain ⟨x1, x2, y1, y2⟩ := hD.2.1 a i g1 (by omega)
  have := hW.1
  rw [e] at h288 ⊢
  obtain hw | hw | hw | hw : ρ (30 + (60 * a + i)) = 1 ∨ ρ (30 + (60 * a + i)) = 2 ∨ ρ (30 + (60 * a + i)) = 3 ∨ ρ (30 + (60 * a + i)) = 4 := by omega
  · right; rw [hw]; exact ⟨by unfold zsn; rw [if_pos rfl]; omega, by rw [hw] at h288; exact h288, Or.inl rfl⟩
  · left; rw [hw]; exact ⟨by unfold zsn; rw [if_neg (by decide), if_pos rfl]; omega, Or.inl rfl⟩
  · right; rw [hw]; exact ⟨by unfold zsn; rw [if_neg (by decide), if_neg (by decide), if_pos rfl]; omega, by rw [hw] at h288; exact h288, Or.inr rfl⟩
  · left; rw [hw]; exact ⟨by unfold zsn; rw [if_neg (by decide), if_neg (by decide), if_neg (by decide)]; omega, Or.inr rfl⟩
theorem zand1 {w : Nat} (h : w = 1 ∨ w = 2 ∨ w = 3 ∨ w = 4) : nI w &&& 1 = 0 ↔ (w = 2 ∨ w = 4) := by
  rcases h with rfl | rfl | rfl | rfl <;> decide
theorem C_turnsAbout {d1 : Nat} (hd : zDy Z d1) (hW : zTW τ Λ) (hD : zDW τ ρ) (hC : zCD I d1 τ ρ) {m px py : Nat} (hm : m < τ 0 0) (hx : px < 100) (hy : py < 100) : zE (d + 1) kX0_turnsAbout 0 [some (.ref d1), some (.int (nI m)), some (.int (nI px)), some (.int (nI py)), none, none, none, none, none] [] Z I J (some (.int (zturn ρ m px py)), Z, I, J) := by
  have hH := hD.h hW
  have h7 := hH.1
  have h60 := hH.2 m hm
  have a3 : zat I (d1 + 3) 7 (nI m) = nI (ρ (14 + m)) := by rw [zatI (by omega) (by decide), (hC.2.1 m hm).2.2.1]
  have loop : ∀ i, i ≤ ρ (14 + m) → ∀ acc : Int32, zE (d + 1) kX0_turnsAbout 6 [some (.ref d1), some (.int (nI m)), some (.int (nI px)), some (.int (nI py)), some (.int acc), some (.int (nI i)), none, none, none] [] Z I J (some (.int (acc + zsuI (fun i => ztr ρ px py (60 * m + i)) i (ρ (14 + m) - i))), Z, I, J) := by
    refine zloop _ _ ?_ ?_
    · intro acc
      refine BX0_turnsAbout_6 _ _ _ _ _ hd ⟨fun _ => ?_, fun q => absurd (by rw [a3]; exact Int32.le_refl _) q⟩
      rw [Nat.sub_self]; simp only [zsuI]; rw [Int32.add_zero]
    · intro i hi ih acc
      have hv := zlive_mk (ρ := ρ) hH hm hi
      have hq := zlive_lt hH hv
      obtain ⟨e5, e6, -⟩ := hC.2.2.1 _ hv
      rw [zsuI_lt hi, ← Int32.add_assoc]
      have y1e : zat I (d1 + 5) 421 (zpc (nI m) (nI i)) = nI (ρ (30 + (60 * m + i))) := by rw [zpcI, zatI (by omega) (by decide), e5]
      have y2e : zat I (d1 + 6) 421 (zpc (nI m) (nI i)) = nI (zenc (ρ (870 + (60 * m + i)))) := by rw [zpcI, zatI (by omega) (by decide), e6]
      have skip : ztr ρ px py (60 * m + i) = 0 → zE (d + 1) kX0_turnsAbout 6 [some (.ref d1), some (.int (nI m)), some (.int (nI px)), some (.int (nI py)), some (.int acc), some (.int (nI i + 1)), none, none, none] [] Z I J (some (.int (acc + ztr ρ px py (60 * m + i) + zsuI (fun i => ztr ρ px py (60 * m + i)) (i + 1) (ρ (14 + m) - (i + 1)))), Z, I, J) := fun e => by
        rw [e, Int32.add_zero, zadd1]; exact ih acc
      refine BX0_turnsAbout_6 _ _ _ _ _ hd ⟨fun q => ?_, fun _ y1 ey1 y2 ey2 => ?_⟩
      · exfalso; rw [a3, zle' (by omega) (by omega)] at q; omega
      · rw [y1e] at ey1
        rw [y2e] at ey2
        have hw := zlive_w hD hv
        have ha := zand1 (w := ρ (30 + (60 * m + i))) (by omega)
        rcases zodd hD hW hv with ⟨o1, o2⟩ | ⟨o1, o2, o3⟩
        · refine ⟨fun _ => skip (by unfold ztr; rw [if_pos o1]), fun q => absurd (by rw [ey1]; exact ha.mpr o2) q⟩
        · have hen : zenc (ρ (870 + (60 * m + i))) / 2 = ρ (870 + (60 * m + i)) - 144 := by unfold zenc; rw [if_neg (by omega)]; omega
          have hel := zenc_lt o2
          rw [show (2 : Int32) = nI 2 from rfl, zdiv (by omega) (by decide) (by decide), hen] at ey2
          have ed : y2 / 12 = nI ((ρ (870 + (60 * m + i)) - 144) / 12) := by rw [ey2, show (12 : Int32) = nI 12 from rfl, zdiv (by omega) (by decide) (by decide)]
          have er : y2 - y2 / 12 * 12 = nI ((ρ (870 + (60 * m + i)) - 144) % 12) := by rw [ey2, show (12 : Int32) = nI 12 from rfl, zrem (by omega) (by decide) (by decide)]
          rw [er]
          rw [ed]
          refine ⟨fun q => ?_, fun _ => ⟨fun q => skip ?_, fun q => ⟨fun q2 => skip ?_, fun q2 => ⟨fun q3 => ?_, fun q3 => ?_⟩⟩⟩⟩
          · exfalso; rw [ey1] at q; have := ha.mp q; omega
          all_goals rw [zle' (by omega) (by omega)] at q
          · unfold ztr; rw [if_neg (by omega), if_neg (by omega)]
          all_goals rw [zeq (by omega) (by omega)] at q2
          · unfold ztr; rw [if_neg (by omega), if_neg (fun z => q2 z.1)]
          all_goals rw [ey1, show (1 : Int32) = nI 1 from rfl, zeq (by omega) (by decide)] at q3
          · have ez : ztr ρ px py (60 * m + i) = -1 := by unfold ztr; rw [if_neg (by omega), if_pos ⟨q2, by omega⟩, if_neg q3]
            rw [ez, zadd1]; exact ih _
          · have ez : ztr ρ px py (60 * m + i) = 1 := by unfold ztr; rw [if_neg (by omega), if_pos ⟨q2, by omega⟩, if_pos q3]
            rw [ez, zadd1]; exact ih _
  have := loop 0 (Nat.zero_le _) 0
  rw [Int32.zero_add, Nat.sub_zero] at this
  exact BX0_turnsAbout_0 _ _ _ hd this
theorem M_turnsOf (h : zR0 Z I t u v τ Λ b ρ) (hR : zRM I 458 0 ρ) {m p : Nat} (hm : m < τ 0 0) (hp : p < τ 0 4) : zE d kX12_turnsOf 0 [some (.ref 420), some (.int (nI m)), some (.int (nI p)), none, none, none, none] [] Z I J (some (.int (zturn ρ m (τ 7 p) (τ 8 p))), Z, I, J) := by
  have h7 := h.n7
  have h60 := h.H.2 m hm
  have hv2 := h.M.1.1
  have hp6 := h.W.1.2.2.2.2.2.2
  obtain ⟨x10, y10⟩ := h.W.2.2.2.1 p hp
  have em : ((6 : Int32) * I 420 18) + nI p = nI (6 * v + p) := by rw [h.M.1.2, show (6 : Int32) = nI 6 from rfl, zmul, zadd]
  have vm : vp_in (((6 : Int32) * I 420 18) + nI p) 12 := by rw [em]; exact zvin (by omega) (by decide)
  obtain ⟨k1, k2⟩ := h.M.2.2.2.2.1 p hp
  have r14 : I 458 ((14 : Int32) + nI m).toNatClampNeg = nI (ρ (14 + m)) := by rw [zk_14, zclm (by omega)]; exact hR.at (by omega)
  have v14 : vp_in ((14 : Int32) + nI m) 1290 := by rw [zk_14]; exact zvin (by omega) (by decide)
  have loop : ∀ i, i ≤ ρ (14 + m) → ∀ acc : Int32, zE d kX12_turnsOf 5 [some (.ref 420), some (.int (nI m)), some (.int (nI p)), some (.int acc), some (.int (nI i)), none, none] [] Z I J (some (.int (acc + zsuI (fun i => ztr ρ (τ 7 p) (τ 8 p) (60 * m + i)) i (ρ (14 + m) - i))), Z, I, J) := by
    refine zloop _ _ ?_ ?_
    · intro acc
      refine BX12_turnsOf_5 _ _ _ _ h.L ⟨v14, fun _ => ?_, fun q => absurd (by rw [r14]; exact Int32.le_refl _) q⟩
      rw [Nat.sub_self]; simp only [zsuI]; rw [Int32.add_zero]
    · intro i hi ih acc
      have hv := zlive_mk (ρ := ρ) h.H hm hi
      have hq := zlive_lt h.H hv
      rw [zsuI_lt hi, ← Int32.add_assoc]
      have e30 : ((30 : Int32) + ((60 : Int32) * nI m)) + nI i = nI (30 + (60 * m + i)) := by rw [Int32.add_assoc, zk_60, zk_30]
      have e870 : ((870 : Int32) + ((60 : Int32) * nI m)) + nI i = nI (870 + (60 * m + i)) := by rw [Int32.add_assoc, zk_60, zk_870]
      have skip : ztr ρ (τ 7 p) (τ 8 p) (60 * m + i) = 0 → zE d kX12_turnsOf 5 [some (.ref 420), some (.int (nI m)), some (.int (nI p)), some (.int acc), some (.int (nI i + 1)), none, none] [] Z I J (some (.int (acc + ztr ρ (τ 7 p) (τ 8 p) (60 * m + i) + zsuI (fun i => ztr ρ (τ 7 p) (τ 8 p) (60 * m + i)) (i + 1) (ρ (14 + m) - (i + 1)))), Z, I, J) := fun e => by
        rw [e, Int32.add_zero, zadd1]; exact ih acc
      refine BX12_turnsOf_5 _ _ _ _ h.L ⟨v14, fun q => ?_, fun _ => ⟨by rw [e30]; exact zvin (by omega) (by decide), fun y1 ey1 => ⟨by rw [e870]; exact zvin (by omega) (by decide), fun y2 ey2 => ?_⟩⟩⟩
      · exfalso; rw [r14, zle' (by omega) (by omega)] at q; omega
      · rw [e30, zclm (by omega), hR.at (by omega)] at ey1
        rw [e870, zclm (by omega), hR.at (by omega)] at ey2
        rcases zodd h.D h.W hv with ⟨o1, o2⟩ | ⟨o1, o2, o3⟩
        · refine ⟨fun _ => skip (by unfold ztr; rw [if_pos o1]), fun q => ?_⟩
          exfalso
          apply q
          rw [ey2, Int32.lt_iff_toInt_lt, show (144 : Int32) = nI 144 from rfl, zsubT (by omega) (by omega)]; simp; omega
        · rw [show (144 : Int32) = nI 144 from rfl, zsub (by omega)] at ey2
          have ed : y2 / 12 = nI ((ρ (870 + (60 * m + i)) - 144) / 12) := by rw [ey2, show (12 : Int32) = nI 12 from rfl, zdiv (by omega) (by decide) (by decide)]
          have er : y2 - y2 / 12 * 12 = nI ((ρ (870 + (60 * m + i)) - 144) % 12) := by rw [ey2, show (12 : Int32) = nI 12 from rfl, zrem (by omega) (by decide) (by decide)]
          rw [er, ed, em, zclm (by omega), k1, k2]
          rw [em] at vm
          have hw := zlive_w h.D hv
          refine ⟨fun q => absurd q (by rw [ey2]; exact zneg (by omega)), fun _ => ⟨vm, fun q => skip ?_, fun q => ⟨vm, fun q2 => ⟨fun q3 => ?_, fun q3 => ?_⟩, fun q2 => skip ?_⟩⟩⟩
          all_goals rw [zeq (by omega) (by omega)] at q
          · unfold ztr; rw [if_neg (by omega), if_neg (fun z => q z.1)]
          all_goals rw [zlt (by omega) (by omega)] at q2
          · rw [ey1, show (1 : Int32) = nI 1 from rfl, zeq (by omega) (by decide)] at q3
            have ez : ztr ρ (τ 7 p) (τ 8 p) (60 * m + i) = -1 := by unfold ztr; rw [if_neg (by omega), if_pos ⟨q, q2⟩, if_neg q3]
            rw [ez, zadd1]; exact ih _
          · rw [ey1, show (1 : Int32) = nI 1 from rfl, zeq (by omega) (by decide)] at q3
            have ez : ztr ρ (τ 7 p) (τ 8 p) (60 * m + i) = 1 := by unfold ztr; rw [if_neg (by omega), if_pos ⟨q, q2⟩, if_pos q3]
            rw [ez, zadd1]; exact ih _
          · unfold ztr; rw [if_neg (by omega), if_neg (fun z => q2 z.2)]
  have := loop 0 (Nat.zero_le _) 0
  rw [Int32.zero_add, Nat.sub_zero] at this
  exact BX12_turnsOf_0 _ _ h.L this
theorem zpil (h : zR0 Z I t u v τ Λ b ρ) {p : Nat} (hp : p < τ 0 4) : zat I (t + 14) 6 (nI p) = nI (τ 7 p) ∧ zat I (t + 15) 6 (nI p) = nI (τ 8 p) := by
  have hp6 := h.W.1.2.2.2.2.2.2
  rw [zatI (by omega) (by decide), zatI (by omega) (by decide)]
  exact h.T.2.2.2.1 p hp
theorem Q_turns (h : zR0 Z I t u v τ Λ b ρ) (x y : Int32) : zQ2 kX11_turns kX12_turns [some (.ref 0), some (.int x), some (.int y)] [some (.ref 420), some (.int x), some (.int y)] Z I J := by
  have h7 := h.n7
  have hp6 := h.W.1.2.2.2.2.2.2
  by_cases hx : zism τ x
  · obtain ⟨m, hm, rfl⟩ := (zism_iff h7 x).mp hx
    have nm : ¬ zbi (zism τ (nI m)) = 0 := zbi_ne0.mpr hx
    have vl : ∀ {I : zI}, zR0 Z I t u v τ Λ b ρ → vp_in (I 420 18) 2 ∧ I 438 (I 420 18).toNatClampNeg = nI (τ 0 4) := fun {I} h => by
      rw [h.M.1.2]; have := h.M.1.1; exact ⟨zvin this (by decide), by rw [zclm (by omega)]; exact h.M.2.1.2.2.2.2⟩
    have e3 : I t 3 = nI (τ 0 4) := h.T.1.2.2.2.2
    rcases zix y (n := τ 0 4) (by omega) with g | ⟨p, hp, rfl⟩
    · have hn : ¬ (0 ≤ y ∧ y ≤ nI (τ 0 4) - 1) := by
        rcases zman (n := τ 0 4) (by omega) y with ⟨q, -⟩ | ⟨m, hm, rfl⟩
        · exact q
        · exfalso
          rcases g with g | g
          · exact absurd g (zneg (by omega))
          · rw [zle' (by omega) (by omega)] at g; omega
      refine zQ2.of h (-1000) ⟨I, BX11_turns_0 (d := 8) _ _ h.L ⟨_, C_isMan h.L h7 h.men, fun q => absurd q nm, fun _ => ⟨fun _ => rfl, fun q => ⟨fun q2 => ?_, fun _ => rfl⟩⟩⟩, zscr.rf⟩ (fun I1 h => ⟨I1, BX12_turns_0 (d := 8) _ _ h.L ⟨_, M_isMan h.L h.W h.M, fun q => absurd q nm, fun _ => ⟨(vl h).1, fun q => ?_, fun _ => rfl⟩⟩, zscr.rf⟩)
      · exfalso
        rw [e3] at q2
        rcases g with g | g
        · exact q g
        · exact absurd q2 (Int32.not_lt.mpr g)
      · exfalso; rw [zbi_ne0, (vl h).2] at q; exact hn q
    · have hpl := zpil h hp
      obtain ⟨x10, y10⟩ := h.W.2.2.2.1 p hp
      refine zQ2.of h (zturn ρ m (τ 7 p) (τ 8 p)) ⟨I, BX11_turns_0 (d := 8) _ _ h.L ⟨_, C_isMan h.L h7 h.men, fun q => absurd q nm, fun _ => ⟨fun q => absurd q (zneg (by omega)), fun q => ⟨fun q2 => ⟨_, by rw [hpl.1, hpl.2]; exact C_turnsAbout (ly_d47 h.L) h.W h.D h.C hm (by omega) (by omega), rfl⟩, fun q2 => ?_⟩⟩⟩, zscr.rf⟩ (fun I1 h1 => ?_)
      · exfalso; apply q2; rw [e3, zlt (by omega) (by omega)]; exact hp
      · obtain ⟨I2, k1, k2, k3, k4, k5⟩ := M_cop (d := 9) (J := J) h1
        refine ⟨I2, BX12_turns_0 (d := 8) _ _ h1.L ⟨_, M_isMan h1.L h1.W h1.M, fun q => absurd q nm, fun _ => ⟨(vl h1).1, fun q => ⟨I2, k1, _, M_turnsOf k2 k3 hm hp, rfl⟩, fun q => ?_⟩⟩, k5⟩
        exfalso; rw [zbi_eq0, (vl h1).2] at q; exact q (zman_t (by omega) hp)
  · have nm : zbi (zism τ x) = 0 := zbi_eq0.mpr hx
    exact zQ2.of h (-1000) ⟨I, BX11_turns_0 (d := 8) _ _ h.L ⟨_, C_isMan h.L h7 h.men, fun _ => rfl, fun q => absurd nm q⟩, zscr.rf⟩ (fun I1 h => ⟨I1, BX12_turns_0 (d := 8) _ _ h.L ⟨_, M_isMan h.L h.W h.M, fun _ => rfl, fun q => absurd nm q⟩, zscr.rf⟩)
-- THIEVES
def zthI (T : Nat → Int32) (bt : Int32) : Nat → Nat → Int32 → Int32
  | _, 0, a => a
  | p, k + 1, a => zthI T bt (p + 1) k (if 0 ≤ T p then a else a ||| bt)
def zthO (T : Nat → Nat → Int32) (P : Nat) : Nat → Nat → Int32 → Int32
  | _, 0, a => a
  | m, k + 1, a => zthO T P (m + 1) k (zthI (T m) ((1 : Int32) <<< (nI m &&& 31)) 0 P a)
theorem Q_thieves (h : zR0 Z I t u v τ Λ b ρ) : zQ2 kX11_thieves kX12_thieves [some (.ref 0), none, none, none] [some (.ref 420), none, none, none] Z I J := by
  have h7 := h.n7
  have hp6 := h.W.1.2.2.2.2.2.2
  have e3 : I t 3 = nI (τ 0 4) := h.T.1.2.2.2.2
  obtain ⟨T, hT⟩ : ∃ T : Nat → Nat → Int32, T = fun m p => zturn ρ m (τ 7 p) (τ 8 p) := ⟨_, rfl⟩
  have ct : ∀ m p, m < τ 0 0 → p < τ 0 4 → zE 9 kX0_turnsAbout 0 [some (.ref 47), some (.int (nI m)), some (.int (zat I (t + 14) 6 (nI p))), some (.int (zat I (t + 15) 6 (nI p))), none, none, none, none, none] [] Z I J (some (.int (T m p)), Z, I, J) := fun m p hm hp => by
    have hpl := zpil h hp
    obtain ⟨x10, y10⟩ := h.W.2.2.2.1 p hp
    rw [hpl.1, hpl.2, hT]; exact C_turnsAbout (ly_d47 h.L) h.W h.D h.C hm (by omega) (by omega)
  have co : ∀ m, m ≤ τ 0 0 → ∀ a, zE 10 kX11_thieves 4 [some (.ref 0), some (.int a), some (.int (nI m)), none] [] Z I J (some (.int (zthO T (τ 0 4) m (τ 0 0 - m) a)), Z, I, J) := by
    refine zloop _ _ ?_ ?_
    · intro a
      refine BX11_thieves_4 (d := 8) _ _ h.L ⟨fun _ => ?_, fun q => absurd (by rw [h.men]; exact Int32.le_refl _) q⟩
      rw [Nat.sub_self]; rfl
    · intro m hm ih a
      have ci : ∀ p, p ≤ τ 0 4 → ∀ a, zE 10 kX11_thieves 17 [some (.ref 0), some (.int a), some (.int (nI m)), some (.int (nI p))] [] Z I J (some (.int (zthO T (τ 0 4) (m + 1) (τ 0 0 - (m + 1)) (zthI (T m) ((1 : Int32) <<< (nI m &&& 31)) p (τ 0 4 - p) a))), Z, I, J) := by
        refine zloop _ _ ?_ ?_
        · intro a
          refine BX11_thieves_17 (d := 8) _ _ _ h.L ⟨fun _ => ?_, fun q => absurd (by rw [e3]; exact Int32.le_refl _) q⟩
          rw [Nat.sub_self, zadd1]; exact ih a
        · intro p hp ih2 a
          rw [show τ 0 4 - p = (τ 0 4 - (p + 1)) + 1 by omega]
          simp only [zthI]
          refine BX11_thieves_17 (d := 8) _ _ _ h.L ⟨fun q => ?_, fun _ => ⟨_, ct m p hm hp, fun q => ?_, fun q y2 e2 => ?_⟩⟩
          · exfalso; rw [e3, zle' (by omega) (by omega)] at q; omega
          · rw [if_pos q, zadd1]; exact ih2 a
          · rw [if_neg q, e2, zadd1]; exact ih2 _
      rw [show τ 0 0 - m = (τ 0 0 - (m + 1)) + 1 by omega]
      simp only [zthO]
      refine BX11_thieves_4 (d := 8) _ _ h.L ⟨fun q => ?_, fun _ => ci 0 (Nat.zero_le _) a⟩
      exfalso; rw [h.men, zle' (by omega) (by omega)] at q; omega
  have c0 := co 0 (Nat.zero_le _) 0
  refine zQ2.of h _ ⟨I, BX11_thieves_0 (d := 8) h.L c0, zscr.rf⟩ (fun I1 h1 => ?_)
  obtain ⟨I2, k1, k2, k3, k4, k5⟩ := M_cop (d := 9) (J := J) h1
  have hv2 := k2.M.1.1
  have vl : vp_in (I2 420 18) 2 := by rw [k2.M.1.2]; exact zvin hv2 (by decide)
  have n0 : I2 431 (I2 420 18).toNatClampNeg = nI (τ 0 0) := by rw [k2.M.1.2, zclm (by omega)]; exact k2.M.2.1.1
  have n4 : I2 438 (I2 420 18).toNatClampNeg = nI (τ 0 4) := by rw [k2.M.1.2, zclm (by omega)]; exact k2.M.2.1.2.2.2.2
  have mo : ∀ m, m ≤ τ 0 0 → ∀ a, zE 10 kX12_thieves 8 [some (.ref 420), some (.int a), some (.int (nI m)), none] [] Z I2 J (some (.int (zthO T (τ 0 4) m (τ 0 0 - m) a)), Z, I2, J) := by
    refine zloop _ _ ?_ ?_
    · intro a
      refine BX12_thieves_8 (d := 9) _ _ k2.L ⟨vl, fun _ => ?_, fun q => absurd (by rw [n0]; exact Int32.le_refl _) q⟩
      rw [Nat.sub_self]; rfl
    · intro m hm ih a
      have ci : ∀ p, p ≤ τ 0 4 → ∀ a, zE 10 kX12_thieves 23 [some (.ref 420), some (.int a), some (.int (nI m)), some (.int (nI p))] [] Z I2 J (some (.int (zthO T (τ 0 4) (m + 1) (τ 0 0 - (m + 1)) (zthI (T m) ((1 : Int32) <<< (nI m &&& 31)) p (τ 0 4 - p) a))), Z, I2, J) := by
        refine zloop _ _ ?_ ?_
        · intro a
          refine BX12_thieves_23 (d := 9) _ _ _ k2.L ⟨vl, fun _ => ?_, fun q => absurd (by rw [n4]; exact Int32.le_refl _) q⟩
          rw [Nat.sub_self, zadd1]; exact ih a
        · intro p hp ih2 a
          rw [show τ 0 4 - p = (τ 0 4 - (p + 1)) + 1 by omega]
          simp only [zthI]
          refine BX12_thieves_23 (d := 9) _ _ _ k2.L ⟨vl, fun q => ?_, fun _ => ⟨T m p, by rw [hT]; exact M_turnsOf k2 k3 hm hp, fun q => ?_, fun q y2 e2 => ?_⟩⟩
          · exfalso; rw [n4, zle' (by omega) (by omega)] at q; omega
          · rw [if_pos q, zadd1]; exact ih2 a
          · rw [if_neg q, e2, zadd1]; exact ih2 _
      rw [show τ 0 0 - m = (τ 0 0 - (m + 1)) + 1 by omega]
      simp only [zthO]
      refine BX12_thieves_8 (d := 9) _ _ k2.L ⟨vl, fun q => ?_, fun _ => ci 0 (Nat.zero_le _) a⟩
      exfalso; rw [n0, zle' (by omega) (by omega)] at q; omega
  exact ⟨I2, BX12_thieves_0 (d := 9) h1.L ⟨I2, k1, mo 0 (Nat.zero_le _) 0⟩, k5⟩
end
