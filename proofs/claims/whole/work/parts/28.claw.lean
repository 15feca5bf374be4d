/-! the class: its text, LAWS, LONG, GOES -/
/-- what a method leaves as it was: all rows but those of S -/
def zfc (S : List Nat) (I I' : zI) : Prop := ∀ a, a ∉ S → I' a = I a
theorem zfc.rf {S : List Nat} {I : zI} : zfc S I I := fun _ _ => rfl
theorem zfc.tr {S : List Nat} {I I' I'' : zI} (h1 : zfc S I I') (h2 : zfc S I' I'') : zfc S I I'' := fun a h => (h2 a h).trans (h1 a h)
theorem zfc.mono {S S' : List Nat} {I I' : zI} (h : zfc S I I') (hS : ∀ a ∈ S, a ∈ S') : zfc S' I I' := fun a h1 => h a (fun q => h1 (hS a q))
theorem zfc.put {S : List Nat} {I : zI} {a k : Nat} {v : Int32} (ha : a ∈ S) : zfc S I (zu I a k v) := fun b h2 => zu_ne (fun q => h2 (q ▸ ha))
theorem zfc.pt {S : List Nat} {I : zI} {a n : Nat} {x v : Int32} (ha : a ∈ S) : zfc S I (zpt I a n x v) := fun b h2 => by
  funext j; exact zpt_a (fun q => h2 (q ▸ ha))
def zcod (k : Nat) : Nat := if k = 0 then 1 else if k = 1 then 2 else if k = 2 then 43 else if k = 3 then 45 else if k = 4 then 42 else 47
theorem zcod_b (k : Nat) : 1 ≤ zcod k ∧ zcod k ≤ 47 := by unfold zcod; (repeat' split) <;> omega
theorem zcod_op {k : Nat} (h : 2 ≤ k) : 4 ≤ zcod k := by unfold zcod; rw [if_neg (by omega), if_neg (by omega)]; (repeat' split) <;> omega
/-- an E's code -/
def zcsg (f g : Nat → Int32) : Nat → List zTok → Prop
  | _, [] => True
  | c, (k, v) :: t => f c = nI (zcod k) ∧ (k < 2 → g c = v) ∧ zcsg f g (c + 1) t
/-- a LAW's code -/
def zclw (f g : Nat → Int32) : Nat → List (List zTok × List zTok × List zTok) → List zTok → Prop
  | c, [], e => zcsg f g c e ∧ f (c + e.length) = 0 ∧ c + e.length ≤ 400
  | c, (a1, a2, a3) :: t, e => zcsg f g c a1 ∧ zcsg f g (c + a1.length) a2 ∧ f (c + a1.length + a2.length) = 3 ∧ g (c + a1.length + a2.length) = nI (c + a1.length + a2.length + 1 + a3.length + 1) ∧ zcsg f g (c + a1.length + a2.length + 1) a3 ∧ f (c + a1.length + a2.length + 1 + a3.length) = 0 ∧ zclw f g (c + a1.length + a2.length + 1 + a3.length + 1) t e
theorem zclw_le {f g : Nat → Int32} : ∀ (t : List (List zTok × List zTok × List zTok)) (c : Nat) (e : List zTok), zclw f g c t e → c ≤ 400 := by
  intro t
  induction t with
  | nil => intro c e h; have := h.2.2; omega
  | cons q t ih => intro c e h; have := ih _ _ h.2.2.2.2.2.2; omega
def zLC (I : zI) (l : Nat) (s : Int32) (o : Option zLaw) : Prop := match o with
  | none => s = -1
  | some w => ∃ c, s = nI c ∧ zclw (I (l + 1)) (I (l + 2)) c w.1 w.2
/-- the class's text at t -/
def zCT (I : zI) (t : Nat) (τ : Nat → Nat → Nat) (Λ : Nat → Option zLaw) : Prop :=
  (I t 2 = nI (τ 0 0) ∧ I t 0 = nI (τ 0 1) ∧ I t 1 = nI (τ 0 2) ∧ I t 4 = nI (τ 0 3) ∧ I t 3 = nI (τ 0 4)) ∧
  (∀ m, m < τ 0 0 → I (t + 6) m = nI (τ 1 m) ∧ I (t + 7) m = nI (τ 2 m) ∧ I (t + 10) m = nI (τ 3 m) ∧ I (t + 11) m = nI (τ 4 m) ∧ I (t + 9) m = nI (τ 9 m) ∧ zLC I (t + 1) (I (t + 8) m) (Λ m)) ∧
  (∀ m i, m < τ 0 0 → i < τ 4 m → I (t + 12) (6 * m + i) = nI (τ 5 (6 * m + i)) ∧ I (t + 13) (6 * m + i) = nI (τ 6 (6 * m + i))) ∧
  (∀ i, i < τ 0 4 → I (t + 14) i = nI (τ 7 i) ∧ I (t + 15) i = nI (τ 8 i)) ∧ zLC I (t + 1) (I t 5) (Λ 7)
theorem zLC_same {I I' : zI} {l : Nat} {s : Int32} {o : Option zLaw} (h1 : I' (l + 1) = I (l + 1)) (h2 : I' (l + 2) = I (l + 2)) (q : zLC I l s o) : zLC I' l s o := by
  cases o with
  | none => exact q
  | some w => obtain ⟨c, q1, q2⟩ := q; exact ⟨c, q1, by rw [h1, h2]; exact q2⟩
/-- rows of a text but those that a LAW writes -/
theorem zCT.same {I I' : zI} {t : Nat} {τ : Nat → Nat → Nat} {Λ : Nat → Option zLaw} (h : zCT I t τ Λ) (hs : ∀ a, t ≤ a → a ≤ t + 15 → a ≠ t + 4 → a ≠ t + 5 → I' a = I a) : zCT I' t τ Λ := by
  obtain ⟨⟨b1, b2, b3, b4, b5⟩, c1, c2, c3, c5⟩ := h
  have e := fun k (h1 : k ≤ 15) (h2 : k ≠ 4) (h3 : k ≠ 5) => hs (t + k) (by omega) (by omega) (by omega) (by omega)
  have e0 : I' t = I t := e 0 (by decide) (by decide) (by decide)
  refine ⟨by rw [e0]; exact ⟨b1, b2, b3, b4, b5⟩, fun m hm => ?_, fun m i hm hi => ?_, fun i hi => ?_, ?_⟩
  · rw [e 6 (by decide) (by decide) (by decide), e 7 (by decide) (by decide) (by decide), e 8 (by decide) (by decide) (by decide), e 9 (by decide) (by decide) (by decide), e 10 (by decide) (by decide) (by decide), e 11 (by decide) (by decide) (by decide)]
    obtain ⟨g1, g2, g3, g4, g5, g6⟩ := c1 m hm
    exact ⟨g1, g2, g3, g4, g5, zLC_same (e 2 (by decide) (by decide) (by decide)) (e 3 (by decide) (by decide) (by decide)) g6⟩
  · rw [e 12 (by decide) (by decide) (by decide), e 13 (by decide) (by decide) (by decide)]; exact c2 m i hm hi
  · rw [e 14 (by decide) (by decide) (by decide), e 15 (by decide) (by decide) (by decide)]; exact c3 i hi
  · rw [e0]; exact zLC_same (e 2 (by decide) (by decide) (by decide)) (e 3 (by decide) (by decide) (by decide)) c5
theorem zm2 (k : Nat) : nI (k + 2) + (-2) = nI k := by
  rw [show (-2 : Int32) = (-1) + (-1) by decide, ← Int32.add_assoc, show k + 2 = (k + 1) + 1 by omega, pk_m1, pk_m1]
theorem zpf_len {env : Nat → Int32} : ∀ (toks : List zTok) (s r : List Int32), zpw toks s.length → zpf env toks s = some r → ∃ v, r = [v] := by
  intro toks
  induction toks with
  | nil =>
    intro s r h e
    simp only [zpw] at h
    simp only [zpf] at e
    match s, h with
    | [v], _ => exact ⟨v, by injection e with e; exact e.symm⟩
  | cons kv toks ih =>
    obtain ⟨k, v⟩ := kv
    intro s r hw e
    simp only [zpw] at hw
    simp only [zpf] at e
    rcases hw with ⟨rfl, hd, hw⟩ | ⟨rfl, hd, ⟨i, hi, rfl⟩, hw⟩ | ⟨hk2, hk5, hd, hw⟩
    · rw [if_pos rfl] at e; exact ih (v :: s) r hw e
    · rw [if_neg (by decide), if_pos rfl] at e; exact ih (env (nI i).toNatClampNeg :: s) r hw e
    · rw [if_neg (by omega), if_neg (by omega)] at e
      match s, hd, hw with
      | b :: a :: s, hd, hw =>
        simp only at e
        split at e
        · exact absurd e (by simp)
        · exact ih _ r (by simpa using hw) e
section
variable {d : Nat} {Z : zZ} {J : zJ} {l : Nat}
theorem S_reckon {I : zI} {k : Nat} (hk2 : 2 ≤ k) (hk5 : k ≤ 5) {a b : Int32} (h : ¬ (k = 5 ∧ b = 0)) : zE d kX2_reckon 0 [some (.int (nI (zcod k))), some (.int a), some (.int b)] [] Z I J (some (.int (zop k a b)), Z, I, J) := by
  obtain rfl | rfl | rfl | rfl : k = 2 ∨ k = 3 ∨ k = 4 ∨ k = 5 := by omega
  · exact BX2_reckon_0 _ _ _ ⟨fun q => absurd q (by decide), fun q => absurd q (by decide), fun _ => rfl, fun q => absurd q (by decide), fun q => absurd q (by decide)⟩
  · exact BX2_reckon_0 _ _ _ ⟨fun q => absurd q (by decide), fun q => absurd q (by decide), fun q => absurd q (by decide), fun q => absurd q (by decide), fun _ => rfl⟩
  · exact BX2_reckon_0 _ _ _ ⟨fun q => absurd q (by decide), fun _ => rfl, fun q => absurd q (by decide), fun q => absurd q (by decide), fun q => absurd q (by decide)⟩
  · have hb : ¬ b = 0 := fun e => h ⟨rfl, e⟩
    exact BX2_reckon_0 _ _ _ ⟨fun _ => ⟨fun _ => ⟨hb, rfl⟩, fun e => absurd e hb⟩, fun q => absurd q (by decide), fun q => absurd q (by decide), fun q => absurd q (by decide), fun q => absurd q (by decide)⟩
abbrev zvl (l next high i : Nat) : zL := [some (.ref l), none, none, none, none, none, none, none, some (.int (nI next)), some (.int (nI high)), some (.int (nI i)), none, none, none, none]
set_option maxHeartbeats 1000000 in
theorem C_run (hl : zLw Z l) (base : List Int32) (hbase : base.length ≤ 1) : ∀ (toks : List zTok) (I : zI) (s : List Int32) (c i : Nat), zcsg (I (l + 1)) (I (l + 2)) c toks → c + toks.length ≤ 400 → i ≤ c → zpw toks s.length → s.length ≤ 17 → zpile (I (l + 4)) (s ++ base) →
    ∃ I', zfc [l + 4] I I' ∧ ∀ o, (match zpf (I (l + 3)) toks s with
      | none => o = (some (.int 0), Z, I', J)
      | some r => zpile (I' (l + 4)) (r ++ base) → zE (d + 1) kX2_value 67 (zvl l (c + toks.length) (1 + base.length) (i + toks.length)) [] Z I' J o) → zE (d + 1) kX2_value 67 (zvl l c (s.length + base.length) i) [] Z I J o := by
  intro toks
  induction toks with
  | nil =>
    intro I s c i hseg hc hi hw hs hp
    simp only [zpw] at hw
    refine ⟨I, zfc.rf, fun o h => ?_⟩
    simp only [zpf] at h
    rw [hw]
    exact h hp
  | cons kv toks ih =>
    obtain ⟨k, v⟩ := kv
    intro I s c i hseg hc hi hw hs hp
    simp only [zcsg] at hseg
    obtain ⟨hk, hv, hseg⟩ := hseg
    simp only [List.length_cons] at hc ⊢
    have hcl : c < 401 := by omega
    have hat : zat I (l + 1) 401 (nI c) = nI (zcod k) := by rw [zatI hcl (by decide), hk]
    have hop : k < 2 → zat I (l + 2) 401 (nI c) = v := fun q => by rw [zatI hcl (by decide), hv q]
    have hni : ¬ (400 : Int32) < nI i := by rw [show (400 : Int32) = nI 400 from rfl, zlt (by decide) (by omega)]; omega
    have hcb := zcod_b k
    have hz0 : ¬ nI (zcod k) = 0 := by rw [zn0 (by omega)]; omega
    -- behind one token
    have next : ∀ (I1 : zI) (s1 : List Int32), zfc [l + 4] I I1 → zpw toks s1.length → s1.length ≤ 17 → zpile (I1 (l + 4)) (s1 ++ base) → zpf (I (l + 3)) ((k, v) :: toks) s = zpf (I (l + 3)) toks s1 →
        ∃ I', zfc [l + 4] I I' ∧ ∀ o, (match zpf (I (l + 3)) ((k, v) :: toks) s with
          | none => o = (some (.int 0), Z, I', J)
          | some r => zpile (I' (l + 4)) (r ++ base) → zE (d + 1) kX2_value 67 (zvl l (c + (toks.length + 1)) (1 + base.length) (i + (toks.length + 1))) [] Z I' J o) → zE (d + 1) kX2_value 253 (zvl l (c + 1) (s1.length + base.length) i) [] Z I1 J o := by
      intro I1 s1 hf hw1 hs1 hp1 he
      have e1 : I1 (l + 1) = I (l + 1) := hf _ (by simp)
      have e2 : I1 (l + 2) = I (l + 2) := hf _ (by simp)
      have e3 : I1 (l + 3) = I (l + 3) := hf _ (by simp)
      obtain ⟨I', h1, h2⟩ := ih I1 s1 (c + 1) (i + 1) (by rw [e1, e2]; exact hseg) (by omega) (by omega) hw1 hs1 hp1
      rw [e3] at h2
      refine ⟨I', hf.tr h1, fun o h => BX2_value_253 _ _ _ hl ?_⟩
      rw [zadd1]
      refine h2 o ?_
      rw [he] at h
      rw [show c + 1 + toks.length = c + (toks.length + 1) by omega, show i + 1 + toks.length = i + (toks.length + 1) by omega]
      exact h
    simp only [zpw] at hw
    rcases hw with ⟨rfl, hd, hw⟩ | ⟨rfl, hd, ⟨j, hj, rfl⟩, hw⟩ | ⟨hk2, hk5, hd, hw⟩
    · -- a number
      obtain ⟨I', h1, h2⟩ := next (zu I (l + 4) (s.length + base.length) v) (v :: s) (zfc.put (by simp)) hw (by simp; omega) ⟨by rw [← List.length_append]; exact zu_eq, zpile_upd (s := s ++ base) hp (by simp)⟩ (by simp [zpf])
      refine ⟨I', h1, fun o h => BX2_value_67 _ _ _ hl ⟨fun q => absurd q hni, fun _ => ⟨fun _ => ⟨fun _ => ?_, fun q => absurd hat q⟩, fun q => absurd (hat ▸ q) hz0⟩⟩⟩
      rw [hat, hop (by decide)]
      refine BX2_value_129 _ _ _ _ _ hl ⟨fun q => absurd rfl q, fun _ I2 e2 => ?_⟩
      rw [zptI (by omega) (by decide)] at e2
      subst e2
      rw [zadd1, zadd1]
      have := h2 o h
      simp only [List.length_cons] at this
      rw [show s.length + base.length + 1 = s.length + 1 + base.length by omega]
      exact this
    · -- a variable
      obtain ⟨I', h1, h2⟩ := next (zu I (l + 4) (s.length + base.length) (I (l + 3) j)) (I (l + 3) j :: s) (zfc.put (by simp)) hw (by simp; omega) ⟨by rw [← List.length_append]; exact zu_eq, zpile_upd (s := s ++ base) hp (by simp)⟩ (by simp [zpf, zclm (show j < 2147483648 by omega)])
      refine ⟨I', h1, fun o h => BX2_value_67 _ _ _ hl ⟨fun q => absurd q hni, fun _ => ⟨fun _ => ⟨fun q => ?_, fun _ => ⟨fun q => absurd hat q, fun _ => ?_⟩⟩, fun q => absurd (hat ▸ q) hz0⟩⟩⟩
      · rw [hat] at q; exact absurd q (by decide)
      rw [hat, hop (by decide)]
      refine BX2_value_129 _ _ _ _ _ hl ⟨fun _ I2 e2 => ?_, fun q => absurd q (by decide)⟩
      rw [zptI (by omega) (by decide), zatI hj (by decide)] at e2
      subst e2
      rw [zadd1, zadd1]
      have := h2 o h
      simp only [List.length_cons] at this
      rw [show s.length + base.length + 1 = s.length + 1 + base.length by omega]
      exact this
    · -- an operator
      match s, hd, hp, hs with
      | b :: a :: s, hd, hp, hs =>
        simp only [List.cons_append, zpile, List.length_cons, List.length_append] at hp hs
        obtain ⟨pb, pa, hp⟩ := hp
        have hco := zcod_op hk2
        have hn1 : ¬ nI (zcod k) = 1 := by rw [show (1 : Int32) = nI 1 from rfl, zeq (by omega) (by decide)]; omega
        have hn2 : ¬ nI (zcod k) = 2 := by rw [show (2 : Int32) = nI 2 from rfl, zeq (by omega) (by decide)]; omega
        have hn3 : ¬ nI (zcod k) = 3 := by rw [show (3 : Int32) = nI 3 from rfl, zeq (by omega) (by decide)]; omega
        have h47 : nI (zcod k) = 47 ↔ k = 5 := by
          obtain rfl | rfl | rfl | rfl : k = 2 ∨ k = 3 ∨ k = 4 ∨ k = 5 := by omega
          all_goals decide
        have eh : (b :: a :: s).length + base.length = s.length + base.length + 2 := by simp; omega
        have ey1 : zat I (l + 4) 32 (nI (s.length + base.length + 2) - 2) = a := by
          rw [show (2 : Int32) = nI 2 from rfl, zsub (by omega), show s.length + base.length + 2 - 2 = s.length + base.length by omega, zatI (by omega) (by decide)]; exact pa
        have ey2 : zat I (l + 4) 32 (nI (s.length + base.length + 2) - 1) = b := by
          rw [show s.length + base.length + 2 = (s.length + base.length + 1) + 1 by omega, zsub1, zatI (by omega) (by decide)]
          rw [show s.length + base.length + 1 = s.length + 1 + base.length by omega] at *
          simpa [Nat.add_assoc, Nat.add_comm, Nat.add_left_comm] using pb
        by_cases h5 : k = 5 ∧ b = 0
        · refine ⟨I, zfc.rf, fun o h => ?_⟩
          have hz : zpf (I (l + 3)) ((k, v) :: toks) (b :: a :: s) = none := by
            simp only [zpf]; rw [if_neg (by omega), if_neg (by omega), if_pos h5]
          rw [hz] at h
          rw [eh]
          refine BX2_value_67 _ _ _ hl ⟨fun q => absurd q hni, fun _ => ⟨fun _ => ⟨fun q => absurd (hat ▸ q) hn1, fun _ => ⟨fun _ y1 e1 y2 e2 => ⟨fun _ => ⟨fun q => ?_, fun _ => ⟨fun q => ?_, fun _ => h⟩⟩, fun q => absurd (hat ▸ q) hn3⟩, fun q => absurd (hat ▸ q) hn2⟩⟩, fun q => absurd (hat ▸ q) hz0⟩⟩
          · rw [hat] at q; exact absurd (h47.mpr h5.1) q
          · rw [ey2, h5.2] at e2; exact absurd e2 q
        · have hz : zpf (I (l + 3)) ((k, v) :: toks) (b :: a :: s) = zpf (I (l + 3)) toks (zop k a b :: s) := by
            simp only [zpf]; rw [if_neg (by omega), if_neg (by omega), if_neg h5]
          obtain ⟨I', h1, h2⟩ := next (zu I (l + 4) (s.length + base.length) (zop k a b)) (zop k a b :: s) (zfc.put (by simp)) (by simpa using hw) (by simp; omega) ⟨by rw [← List.length_append]; exact zu_eq, zpile_upd (s := s ++ base) hp (by simp)⟩ hz
          refine ⟨I', h1, fun o h => ?_⟩
          have h3 := h2 o h
          simp only [List.length_cons] at h3
          have h232 : ∀ y1 y2 : Int32, y1 = a → y2 = b → zE (d + 1) kX2_value 232 [some (.ref l), none, none, none, none, none, none, none, some (.int (nI c + 1)), some (.int (nI (s.length + base.length + 2) + (-2))), some (.int (nI i)), some (.int (nI (zcod k))), none, some (.int y1), some (.int y2)] [] Z I J o := by
            intro y1 y2 e1 e2
            subst e1; subst e2
            refine BX2_value_232 _ _ _ _ _ _ hl ⟨zop k y1 y2, S_reckon hk2 hk5 h5, fun I2 e2 => ?_⟩
            rw [zm2, zptI (by omega) (by decide)] at e2
            subst e2
            rw [zm2, zadd1, zadd1, show s.length + base.length + 1 = s.length + 1 + base.length by omega]
            exact h3
          rw [eh]
          refine BX2_value_67 _ _ _ hl ⟨fun q => absurd q hni, fun _ => ⟨fun _ => ⟨fun q => absurd (hat ▸ q) hn1, fun _ => ⟨fun _ y1 e1 y2 e2 => ⟨fun _ => ⟨fun q => ?_, fun q => ⟨fun q2 => ?_, fun q2 => ?_⟩⟩, fun q => absurd (hat ▸ q) hn3⟩, fun q => absurd (hat ▸ q) hn2⟩⟩, fun q => absurd (hat ▸ q) hz0⟩⟩
          · rw [hat]; exact h232 y1 y2 (e1.trans ey1) (e2.trans ey2)
          · rw [hat]; exact h232 y1 y2 (e1.trans ey1) (e2.trans ey2)
          · rw [hat] at q
            rw [e2, ey2] at q2
            exact absurd ⟨h47.mp q, q2⟩ h5
theorem C_stop (hl : zLw Z l) {I : zI} {c i : Nat} {v : Int32} (hc : c ≤ 400) (hi : i ≤ c) (h0 : I (l + 1) c = 0) (hp : zpile (I (l + 4)) [v]) : zE (d + 1) kX2_value 67 (zvl l c 1 i) [] Z I J (some (.int v), Z, I, J) := by
  have hat : zat I (l + 1) 401 (nI c) = 0 := by rw [zatI (by omega) (by decide), h0]
  have hni : ¬ (400 : Int32) < nI i := by rw [show (400 : Int32) = nI 400 from rfl, zlt (by decide) (by omega)]; omega
  refine BX2_value_67 _ _ _ hl ⟨fun q => absurd q hni, fun _ => ⟨fun q => absurd hat q, fun _ => ?_⟩⟩
  rw [show nI 1 - 1 = nI 0 from zsub1 0, zatI (by decide) (by decide)]
  have := hp.1
  simp only [List.length_nil] at this
  rw [this]
set_option maxHeartbeats 1000000 in
theorem C_lawB (hl : zLw Z l) {e : List zTok} (he : zpw e 0) : ∀ (t : List (List zTok × List zTok × List zTok)) (I : zI) (c i : Nat), (∀ q ∈ t, zpw q.1 0 ∧ zpw q.2.1 0 ∧ zpw q.2.2 0) → zclw (I (l + 1)) (I (l + 2)) c t e → i ≤ c →
    ∃ I', zfc [l + 4] I I' ∧ zE (d + 1) kX2_value 67 (zvl l c 0 i) [] Z I J (some (.int (zlwB (I (l + 3)) e t)), Z, I', J) := by
  -- an E, then STOP
  have one : ∀ (toks : List zTok) (I : zI) (c i : Nat), zpw toks 0 → zcsg (I (l + 1)) (I (l + 2)) c toks → I (l + 1) (c + toks.length) = 0 → c + toks.length ≤ 400 → i ≤ c → ∃ I', zfc [l + 4] I I' ∧ zE (d + 1) kX2_value 67 (zvl l c 0 i) [] Z I J (some (.int (zv1 (zpf (I (l + 3)) toks []))), Z, I', J) := by
    intro toks I c i hw h1 h2 h3 hi
    obtain ⟨I', g1, g2⟩ := C_run (d := d) (J := J) hl [] (by simp) toks I [] c i h1 h3 hi hw (by simp) trivial
    refine ⟨I', g1, g2 _ ?_⟩
    cases hz : zpf (I (l + 3)) toks [] with
    | none => rfl
    | some r =>
      obtain ⟨v, rfl⟩ := zpf_len toks [] r hw hz
      intro hp
      exact C_stop hl h3 (by omega) (by rw [g1 (l + 1) (by simp)]; exact h2) hp
  intro t
  induction t with
  | nil =>
    intro I c i _ h hi
    obtain ⟨h1, h2, h3⟩ := h
    simp only [zlwB]
    exact one e I c i he h1 h2 h3 hi
  | cons q t ih =>
    obtain ⟨a1, a2, a3⟩ := q
    intro I c i hq h hi
    obtain ⟨h1, h2, h3, h4, h5, h6, h7⟩ := h
    obtain ⟨w1, w2, w3⟩ := hq _ List.mem_cons_self
    have hle := zclw_le _ _ _ h7
    simp only [zlwB]
    obtain ⟨I1, g1, g2⟩ := C_run (d := d) (J := J) hl [] (by simp) a1 I [] c i h1 (by omega) hi w1 (by simp) trivial
    have e11 := g1 (l + 1) (by simp)
    have e12 := g1 (l + 2) (by simp)
    have e13 := g1 (l + 3) (by simp)
    cases hz : zpf (I (l + 3)) a1 [] with
    | none => exact ⟨I1, g1, g2 _ (by rw [hz])⟩
    | some r =>
      obtain ⟨x, rfl⟩ := zpf_len a1 [] r w1 hz
      by_cases hpi : zpile (I1 (l + 4)) [x]
      case neg =>
        -- cannot be: any end would do
        exact ⟨I1, g1, g2 _ (by rw [hz]; exact fun hp => absurd hp hpi)⟩
      obtain ⟨I2, k1, k2⟩ := C_run (d := d) (J := J) hl [x] (by simp) a2 I1 [] (c + a1.length) (i + a1.length) (by rw [e11, e12]; exact h2) (by omega) (by omega) w2 (by simp) hpi
      have e21 := (k1 (l + 1) (by simp)).trans e11
      have e22 := (k1 (l + 2) (by simp)).trans e12
      have e23 := (k1 (l + 3) (by simp)).trans e13
      rw [e13] at k2
      cases hz2 : zpf (I (l + 3)) a2 [] with
      | none => exact ⟨I2, g1.tr k1, g2 _ (by rw [hz]; exact fun _ => k2 _ (by rw [hz2]))⟩
      | some r2 =>
        obtain ⟨y, rfl⟩ := zpf_len a2 [] r2 w2 hz2
        by_cases hp2 : zpile (I2 (l + 4)) [y, x]
        case neg => exact ⟨I2, g1.tr k1, g2 _ (by rw [hz]; exact fun _ => k2 _ (by rw [hz2]; exact fun hp => absurd hp hp2))⟩
        dsimp only
        have zx : zv1 (some [x]) = x := rfl
        have zy : zv1 (some [y]) = y := rfl
        -- at the branch
        have hci : c + a1.length + a2.length < 401 := by omega
        have hat : zat I2 (l + 1) 401 (nI (c + a1.length + a2.length)) = 3 := by rw [zatI hci (by decide), e21, h3]
        have hop : zat I2 (l + 2) 401 (nI (c + a1.length + a2.length)) = nI (c + a1.length + a2.length + 1 + a3.length + 1) := by rw [zatI hci (by decide), e22, h4]
        have hni : ¬ (400 : Int32) < nI (i + a1.length + a2.length) := by rw [show (400 : Int32) = nI 400 from rfl, zlt (by decide) (by omega)]; omega
        have q0 : zat I2 (l + 4) 32 (nI 2 - 2) = x := by rw [show nI 2 - 2 = nI 0 by decide, zatI (by decide) (by decide)]; exact hp2.2.1
        have q1 : zat I2 (l + 4) 32 (nI 2 - 1) = y := by rw [show nI 2 - 1 = nI 1 by decide, zatI (by decide) (by decide)]; exact hp2.1
        by_cases hlt : x < y
        · rw [show (if zv1 (some [x]) < zv1 (some [y]) then zv1 (zpf (I (l + 3)) a3 []) else zlwB (I (l + 3)) e t) = zv1 (zpf (I (l + 3)) a3 []) from if_pos hlt]
          obtain ⟨I3, m1, m2⟩ := one a3 I2 (c + a1.length + a2.length + 1) (i + a1.length + a2.length + 1) w3 (by rw [e21, e22]; exact h5) (by rw [e21]; exact h6) (by omega) (by omega)
          rw [e23] at m2
          have fin : zE (d + 1) kX2_value 67 (zvl l (c + a1.length + a2.length) 2 (i + a1.length + a2.length)) [] Z I2 J (some (.int (zv1 (zpf (I (l + 3)) a3 []))), Z, I3, J) := by
            refine BX2_value_67 _ _ _ hl ⟨fun q => absurd q hni, fun _ => ⟨fun _ => ⟨fun q => ?_, fun _ => ⟨fun _ y1 e1 y2 e2 => ⟨fun q => absurd hat q, fun _ => ⟨fun q => ?_, fun _ => ?_⟩⟩, fun q => ?_⟩⟩, fun q => ?_⟩⟩
            · rw [hat] at q; exact absurd q (by decide)
            · rw [e1, e2, q0, q1] at q; exact absurd hlt (Int32.not_lt.mpr q)
            · refine BX2_value_253 _ _ _ hl ?_
              rw [zadd1, zadd1]; exact m2
            · rw [hat] at q; exact absurd q (by decide)
            · rw [hat] at q; exact absurd q (by decide)
          exact ⟨I3, (g1.tr k1).tr m1, g2 _ (by rw [hz]; exact fun _ => k2 _ (by rw [hz2]; exact fun _ => fin))⟩
        · rw [show (if zv1 (some [x]) < zv1 (some [y]) then zv1 (zpf (I (l + 3)) a3 []) else zlwB (I (l + 3)) e t) = zlwB (I (l + 3)) e t from if_neg hlt]
          obtain ⟨I3, m1, m2⟩ := ih I2 (c + a1.length + a2.length + 1 + a3.length + 1) (i + a1.length + a2.length + 1) (fun q hq' => hq q (List.mem_cons_of_mem _ hq')) (by rw [e21, e22]; exact h7) (by omega)
          rw [e23] at m2
          have fin : zE (d + 1) kX2_value 67 (zvl l (c + a1.length + a2.length) 2 (i + a1.length + a2.length)) [] Z I2 J (some (.int (zlwB (I (l + 3)) e t)), Z, I3, J) := by
            refine BX2_value_67 _ _ _ hl ⟨fun q => absurd q hni, fun _ => ⟨fun _ => ⟨fun q => ?_, fun _ => ⟨fun _ y1 e1 y2 e2 => ⟨fun q => absurd hat q, fun _ => ⟨fun _ => ?_, fun q => ?_⟩⟩, fun q => ?_⟩⟩, fun q => ?_⟩⟩
            · rw [hat] at q; exact absurd q (by decide)
            · rw [hop]
              refine BX2_value_253 _ _ _ hl ?_
              rw [zadd1]; exact m2
            · rw [e1, e2, q0, q1] at q; exact absurd (Int32.not_lt.mp hlt) q
            · rw [hat] at q; exact absurd q (by decide)
            · rw [hat] at q; exact absurd q (by decide)
          exact ⟨I3, (g1.tr k1).tr m1, g2 _ (by rw [hz]; exact fun _ => k2 _ (by rw [hz2]; exact fun _ => fin))⟩
/-- a LAW's value -/
theorem C_value (hl : zLw Z l) {I : zI} {c : Nat} {w : zLaw} (hw : zlwOK w) (hc : zclw (I (l + 1)) (I (l + 2)) c w.1 w.2) (x y mi le lo ra : Int32) :
    ∃ I', zfc [l + 3, l + 4] I I' ∧ zE (d + 1) kX2_value 0 [some (.ref l), some (.int (nI c)), some (.int x), some (.int y), some (.int mi), some (.int le), some (.int lo), some (.int ra), none, none, none, none, none, none, none] [] Z I J (some (.int (zlw (zenv x y mi le lo ra) w)), Z, I', J) := by
  generalize hI6 : zu (zu (zu (zu (zu (zu I (l + 3) 0 x) (l + 3) 1 y) (l + 3) 2 mi) (l + 3) 3 le) (l + 3) 4 lo) (l + 3) 5 ra = I6
  have hf : zfc [l + 3, l + 4] I I6 := by
    rw [← hI6]
    exact (((((zfc.put (by simp)).tr (zfc.put (by simp))).tr (zfc.put (by simp))).tr (zfc.put (by simp))).tr (zfc.put (by simp))).tr (zfc.put (by simp))
  obtain ⟨I', h1, h2⟩ := C_lawB (d := d) (J := J) hl hw.2 w.1 I6 c 0 hw.1 (by rw [hf (l + 1) (by simp), hf (l + 2) (by simp)]; exact hc) (Nat.zero_le _)
  have hv : zlwB (I6 (l + 3)) w.2 w.1 = zlw (zenv x y mi le lo ra) w := by
    refine zlw_congr (w := w) (fun i hi => ?_) hw
    subst hI6
    obtain rfl | rfl | rfl | rfl | rfl | rfl : i = 0 ∨ i = 1 ∨ i = 2 ∨ i = 3 ∨ i = 4 ∨ i = 5 := by omega
    all_goals simp [zu_if, zenv]
  rw [hv] at h2
  refine ⟨I', hf.tr (h1.mono (by simp)), BX2_value_0 _ _ _ _ _ _ _ hl (fun I1 e1 I2 e2 I3 e3 I4 e4 I5 e5 I7 e7 => ?_)⟩
  have p0 : ∀ (I : zI) (v : Int32), zpt I (l + 3) 6 0 v = zu I (l + 3) 0 v := fun I v => zptI (k := 0) (by decide) (by decide)
  have p1 : ∀ (I : zI) (v : Int32), zpt I (l + 3) 6 1 v = zu I (l + 3) 1 v := fun I v => zptI (k := 1) (by decide) (by decide)
  have p2 : ∀ (I : zI) (v : Int32), zpt I (l + 3) 6 2 v = zu I (l + 3) 2 v := fun I v => zptI (k := 2) (by decide) (by decide)
  have p3 : ∀ (I : zI) (v : Int32), zpt I (l + 3) 6 3 v = zu I (l + 3) 3 v := fun I v => zptI (k := 3) (by decide) (by decide)
  have p4 : ∀ (I : zI) (v : Int32), zpt I (l + 3) 6 4 v = zu I (l + 3) 4 v := fun I v => zptI (k := 4) (by decide) (by decide)
  have p5 : ∀ (I : zI) (v : Int32), zpt I (l + 3) 6 5 v = zu I (l + 3) 5 v := fun I v => zptI (k := 5) (by decide) (by decide)
  rw [p0] at e1; rw [p1] at e2; rw [p2] at e3; rw [p3] at e4; rw [p4] at e5; rw [p5] at e7
  subst e1; subst e2; subst e3; subst e4; subst e5; subst e7
  rw [hI6]; exact h2
end
