/-! LAWS: what they mean; the reference's evaluation -/
/-- what a reference's method leaves as it was: all rows but those of S, all its own fields but those of F -/
def zfm (S F : List Nat) (I I' : zI) : Prop := (∀ a, a ≠ 420 → a ∉ S → I' a = I a) ∧ ∀ k, k ∉ F → I' 420 k = I 420 k
theorem zfm.rf {S F : List Nat} {I : zI} : zfm S F I I := ⟨fun _ _ _ => rfl, fun _ _ => rfl⟩
theorem zfm.tr {S F : List Nat} {I I' I'' : zI} (h1 : zfm S F I I') (h2 : zfm S F I' I'') : zfm S F I I'' := ⟨fun a h h3 => (h2.1 a h h3).trans (h1.1 a h h3), fun k h => (h2.2 k h).trans (h1.2 k h)⟩
theorem zfm.mono {S F S' F' : List Nat} {I I' : zI} (h : zfm S F I I') (hS : ∀ a ∈ S, a ∈ S') (hF : ∀ a ∈ F, a ∈ F') : zfm S' F' I I' := ⟨fun a h1 h2 => h.1 a h1 (fun q => h2 (hS a q)), fun k h1 => h.2 k (fun q => h1 (hF k q))⟩
theorem zfm.put {S F : List Nat} {I : zI} {a k : Nat} {v : Int32} (ha : a ∈ S) (h4 : a ≠ 420) : zfm S F I (zu I a k v) := ⟨fun b _ h2 => zu_ne (fun q => h2 (q ▸ ha)), fun j _ => zu_a (fun q => h4 q.symm)⟩
theorem zfm.fld {S F : List Nat} {I : zI} {k : Nat} {v : Int32} (hk : k ∈ F) : zfm S F I (zu I 420 k v) := ⟨fun b h1 _ => zu_ne h1, fun j h => zu_k (fun q => h (q ▸ hk))⟩
abbrev zTok : Type := Nat × Int32
def zop (k : Nat) (a b : Int32) : Int32 := if k = 2 then a + b else if k = 3 then a - b else if k = 4 then a * b else a / b
/-- the tokens of an E, each operator behind what it works on: 0 a number, 1 a variable, 2 .. 5 + - * /; none: divided by 0 -/
def zpf (env : Nat → Int32) : List zTok → List Int32 → Option (List Int32)
  | [], s => some s
  | (k, v) :: t, s => if k = 0 then zpf env t (v :: s) else if k = 1 then zpf env t (env v.toNatClampNeg :: s) else
    match s with
    | b :: a :: s' => if k = 5 ∧ b = 0 then none else zpf env t (zop k a b :: s')
    | _ => none
def zv1 (x : Option (List Int32)) : Int32 := match x with
  | some (r :: _) => r
  | _ => 0
/-- tokens that make one value of d there -/
def zpw : List zTok → Nat → Prop
  | [], d => d = 1
  | (k, v) :: t, d => (k = 0 ∧ d < 16 ∧ zpw t (d + 1)) ∨ (k = 1 ∧ d < 16 ∧ (∃ i, i < 6 ∧ v = nI i) ∧ zpw t (d + 1)) ∨ (2 ≤ k ∧ k ≤ 5 ∧ 2 ≤ d ∧ zpw t (d - 1))
abbrev zLaw : Type := List (List zTok × List zTok × List zTok) × List zTok
def zlwB (env : Nat → Int32) (e : List zTok) : List (List zTok × List zTok × List zTok) → Int32
  | [] => zv1 (zpf env e [])
  | (a, b, c) :: t => match zpf env a [], zpf env b [] with
    | some u, some v => if zv1 (some u) < zv1 (some v) then zv1 (zpf env c []) else zlwB env e t
    | _, _ => 0
/-- a LAW's value -/
def zlw (env : Nat → Int32) (w : zLaw) : Int32 := zlwB env w.2 w.1
def zlwOK (w : zLaw) : Prop := (∀ q ∈ w.1, zpw q.1 0 ∧ zpw q.2.1 0 ∧ zpw q.2.2 0) ∧ zpw w.2 0
-- the reference
/-- a stack in a row of ints, the top first -/
def zpile (f : Nat → Int32) : List Int32 → Prop
  | [] => True
  | a :: s => f s.length = a ∧ zpile f s
/-- tokens in two rows -/
def zseg (f g : Nat → Int32) : Nat → List zTok → Prop
  | _, [] => True
  | c, (k, v) :: t => f c = nI k ∧ g c = v ∧ zseg f g (c + 1) t
theorem zpile_upd {I : zI} {a : Nat} {s : List Int32} {k : Nat} {v : Int32} (h : zpile (I a) s) (hk : s.length ≤ k) : zpile (zu I a k v a) s := by
  induction s with
  | nil => trivial
  | cons x s ih =>
    simp only [zpile, List.length_cons] at h hk ⊢
    exact ⟨by rw [zu_k (by omega)]; exact h.1, ih h.2 (by omega)⟩
section
variable {d : Nat} {Z : zZ} {J : zJ} {t u : Nat}
set_option maxHeartbeats 1000000 in
theorem M_termOf_loop (hL : zLY Z t u) : ∀ (toks : List zTok) (I : zI) (s : List Int32) (c : Nat), zseg (I 452) (I 453) c toks → c + toks.length ≤ 840 → zpw toks s.length → s.length ≤ 17 → zpile (I 456) s →
    ∃ I', zE d kX12_termOf 5 [some (.ref 420), none, some (.int (nI (c + toks.length))), some (.int (nI s.length)), some (.int (nI c)), none, none, none] [] Z I J (some (.int (zv1 (zpf (I 455) toks s))), Z, I', J) ∧ zfm [456] [54] I I' ∧ I' 420 54 = if (zpf (I 455) toks s).isNone = true then 1 else I 420 54 := by
  intro toks
  induction toks with
  | nil =>
    intro I s c hseg hc hw hs hp
    simp only [zpw] at hw
    match s, hw, hp with
    | [r], _, hp =>
      simp only [zpile, List.length_nil] at hp
      refine ⟨I, BX12_termOf_5 _ _ _ hL ⟨fun _ => ?_, fun q => ?_⟩, zfm.rf, ?_⟩
      · simp [zpf, zv1, hp.1]
      · exact absurd (by simp only [List.length_nil, Nat.add_zero]; exact Int32.le_refl _) q
      · simp [zpf]
  | cons kv toks ih =>
    obtain ⟨k, v⟩ := kv
    intro I s c hseg hc hw hs hp
    simp only [zseg] at hseg
    obtain ⟨hk, hv, hseg⟩ := hseg
    simp only [List.length_cons] at hc
    have hcl : c < 2147483648 := by omega
    have hin : vp_in (nI c) 840 := zvin (by omega) (by decide)
    have hnle : ¬ nI (c + (toks.length + 1)) ≤ nI c := by rw [zle' (by omega) hcl]; omega
    -- what follows behind one token
    have next : ∀ (I1 : zI) (s1 : List Int32), zfm [456] [54] I I1 → I1 420 54 = I 420 54 → zpw toks s1.length → s1.length ≤ 17 → zpile (I1 456) s1 → zpf (I 455) ((k, v) :: toks) s = zpf (I 455) toks s1 → ∃ I', zE d kX12_termOf 159 [some (.ref 420), none, some (.int (nI (c + (toks.length + 1)))), some (.int (nI s1.length)), some (.int (nI c)), none, none, none] [] Z I1 J (some (.int (zv1 (zpf (I 455) ((k, v) :: toks) s))), Z, I', J) ∧ zfm [456] [54] I I' ∧ I' 420 54 = if (zpf (I 455) ((k, v) :: toks) s).isNone = true then 1 else I 420 54 := by
      intro I1 s1 hf hb hw1 hs1 hp1 he
      have e452 : I1 452 = I 452 := hf.1 452 (by decide) (by decide)
      have e453 : I1 453 = I 453 := hf.1 453 (by decide) (by decide)
      have e455 : I1 455 = I 455 := hf.1 455 (by decide) (by decide)
      obtain ⟨I', h1, h2, h3⟩ := ih I1 s1 (c + 1) (by rw [e452, e453]; exact hseg) (by omega) hw1 hs1 hp1
      rw [e455] at h1 h3
      rw [he]
      refine ⟨I', BX12_termOf_159 _ _ _ hL ?_, hf.tr h2, by rw [h3, hb]⟩
      rw [zadd1, show c + (toks.length + 1) = c + 1 + toks.length by omega]
      exact h1
    simp only [zpw] at hw
    rcases hw with ⟨rfl, hd, hw⟩ | ⟨rfl, hd, ⟨i, hi, rfl⟩, hw⟩ | ⟨hk2, hk5, hd, hw⟩
    · -- a number
      obtain ⟨I', h1, h2, h3⟩ := next (zu I 456 s.length v) (v :: s) (zfm.put (by decide) (by decide)) (zu_a (by decide)) hw (by simp; omega) ⟨zu_eq, zpile_upd hp (Nat.le_refl _)⟩ (by simp [zpf])
      refine ⟨I', BX12_termOf_5 _ _ _ hL ⟨fun q => absurd q hnle, fun _ => ⟨hin, ⟨fun q => ?_, fun _ => ⟨fun q => ?_, fun _ => ⟨hin, zvin (by omega) (by decide), fun I5 e5 => ?_⟩⟩⟩⟩⟩, h2, h3⟩
      · rw [zclm hcl, hk] at q; exact absurd q (by decide)
      · rw [zclm hcl, hk] at q; exact absurd rfl q
      · rw [zclm hcl, zclm (by omega), hv] at e5
        subst e5
        rw [zadd1]; exact h1
    · -- a variable
      obtain ⟨I', h1, h2, h3⟩ := next (zu I 456 s.length (I 455 i)) (I 455 i :: s) (zfm.put (by decide) (by decide)) (zu_a (by decide)) hw (by simp; omega) ⟨zu_eq, zpile_upd hp (Nat.le_refl _)⟩ (by simp [zpf, zclm (show i < 2147483648 by omega)])
      refine ⟨I', BX12_termOf_5 _ _ _ hL ⟨fun q => absurd q hnle, fun _ => ⟨hin, ⟨fun q => ?_, fun _ => ⟨fun _ => ⟨hin, ?_, zvin (by omega) (by decide), fun I5 e5 => ?_⟩, fun q => ?_⟩⟩⟩⟩, h2, h3⟩
      · rw [zclm hcl, hk] at q; exact absurd q (by decide)
      · rw [zclm hcl, hv]; exact zvin hi (by decide)
      · rw [zclm hcl, zclm (by omega), hv, zclm (by omega)] at e5
        subst e5
        rw [zadd1]; exact h1
      · rw [zclm hcl, hk] at q; exact absurd q (by decide)
    · -- an operator
      match s, hd, hp, hs with
      | b :: a :: s, hd, hp, hs =>
        simp only [zpile, List.length_cons] at hp hs
        obtain ⟨pb, pa, hp⟩ := hp
        have e1 : nI (s.length + 1 + 1) + (-1) = nI (s.length + 1) := pk_m1 _
        have e2 : nI (s.length + 1) - 1 = nI s.length := zsub1 _
        have hkn : I 452 c = nI k := hk
        have hk2' : (2 : Int32) ≤ I 452 (nI c).toNatClampNeg := by rw [zclm hcl, hk, show (2 : Int32) = nI 2 from rfl, zle' (by decide) (by omega)]; exact hk2
        by_cases h5 : k = 5 ∧ b = 0
        · obtain ⟨rfl, rfl⟩ := h5
          have hz : zpf (I 455) ((5, v) :: toks) ((0 : Int32) :: a :: s) = none := by simp [zpf]
          refine ⟨zu I 420 54 1, BX12_termOf_5 _ _ _ hL ⟨fun q => absurd q hnle, fun _ => ⟨hin, ⟨fun _ => ⟨?_, fun y1 ey1 => ⟨?_, fun y2 ey2 => ⟨fun q => ?_, fun _ => ⟨fun q => ?_, fun _ I3 e3 => ?_⟩⟩⟩⟩, fun q => absurd hk2' q⟩⟩⟩, ?_, ?_⟩
          · simp only [List.length_cons]; rw [e1, e2]; exact zvin (by omega) (by decide)
          · simp only [List.length_cons]; rw [e1]; exact zvin (by omega) (by decide)
          · rw [zclm hcl, hk] at q; exact absurd rfl q
          · simp only [List.length_cons] at ey2; rw [e1, zclm (by omega), pb] at ey2; exact absurd ey2 q
          · rw [hz, e3]; rfl
          · exact zfm.fld (by decide)
          · rw [hz]; simp [zu_eq]
        · have hz : zpf (I 455) ((k, v) :: toks) (b :: a :: s) = zpf (I 455) toks (zop k a b :: s) := by
            simp only [zpf]
            rw [if_neg (by omega), if_neg (by omega), if_neg h5]
          obtain ⟨I', h1, h2, h3⟩ := next (zu I 456 s.length (zop k a b)) (zop k a b :: s) (zfm.put (by decide) (by decide)) (zu_a (by decide)) (by simpa using hw) (by simp; omega) ⟨zu_eq, zpile_upd hp (Nat.le_refl _)⟩ hz
          have h104 : ∀ x7 : Int32, x7 = b → zE d kX12_termOf 104 [some (.ref 420), none, some (.int (nI (c + (toks.length + 1)))), some (.int (nI (s.length + 1))), some (.int (nI c)), some (.int (nI k)), some (.int a), some (.int x7)] [] Z I J (some (.int (zv1 (zpf (I 455) ((k, v) :: toks) (b :: a :: s)))), Z, I', J) := by
            intro x7 e7
            subst e7
            have hv4 : vp_in (nI (s.length + 1) - 1) 400 := by rw [e2]; exact zvin (by omega) (by decide)
            have hst : ∀ (I4 : zI) (r : Int32), zop k a x7 = r → I4 = zu I 456 (nI (s.length + 1) - 1).toNatClampNeg r → zE d kX12_termOf 159 [some (.ref 420), none, some (.int (nI (c + (toks.length + 1)))), some (.int (nI (s.length + 1))), some (.int (nI c)), none, none, none] [] Z I4 J (some (.int (zv1 (zpf (I 455) ((k, v) :: toks) (x7 :: a :: s)))), Z, I', J) := by
              intro I4 r hr e4
              rw [e2, zclm (by omega), ← hr] at e4
              subst e4
              exact h1
            refine BX12_termOf_104 _ _ _ _ _ _ hL ⟨fun n2 => ⟨fun n3 => ⟨fun n4 => ⟨?_, hv4, fun I1 e1 => hst I1 _ ?_ e1⟩, fun q4 => ⟨hv4, fun I1 e1 => hst I1 _ ?_ e1⟩⟩, fun q3 => ⟨hv4, fun I1 e1 => hst I1 _ ?_ e1⟩⟩, fun q2 => ⟨hv4, fun I1 e1 => hst I1 _ ?_ e1⟩⟩
            · rw [show (2 : Int32) = nI 2 from rfl, zeq (by omega) (by decide)] at n2
              rw [show (3 : Int32) = nI 3 from rfl, zeq (by omega) (by decide)] at n3
              rw [show (4 : Int32) = nI 4 from rfl, zeq (by omega) (by decide)] at n4
              exact fun q => h5 ⟨by omega, q⟩
            · rw [show (2 : Int32) = nI 2 from rfl, zeq (by omega) (by decide)] at n2
              rw [show (3 : Int32) = nI 3 from rfl, zeq (by omega) (by decide)] at n3
              rw [show (4 : Int32) = nI 4 from rfl, zeq (by omega) (by decide)] at n4
              simp [zop, n2, n3, n4]
            · rw [show (4 : Int32) = nI 4 from rfl, zeq (by omega) (by decide)] at q4
              simp [zop, q4]
            · rw [show (3 : Int32) = nI 3 from rfl, zeq (by omega) (by decide)] at q3
              simp [zop, q3]
            · rw [show (2 : Int32) = nI 2 from rfl, zeq (by omega) (by decide)] at q2
              simp [zop, q2]
          refine ⟨I', BX12_termOf_5 _ _ _ hL ⟨fun q => absurd q hnle, fun _ => ⟨hin, ⟨fun _ => ⟨?_, fun y1 ey1 => ⟨?_, fun y2 ey2 => ⟨fun _ => ?_, fun _ => ⟨fun _ => ?_, fun q => ?_⟩⟩⟩⟩, fun q => absurd hk2' q⟩⟩⟩, h2, h3⟩
          · simp only [List.length_cons]; rw [e1, e2]; exact zvin (by omega) (by decide)
          · simp only [List.length_cons]; rw [e1]; exact zvin (by omega) (by decide)
          · simp only [List.length_cons] at ey1 ey2 ⊢
            rw [e1, e2, zclm (by omega), pa] at ey1
            rw [e1, zclm (by omega), pb] at ey2
            subst ey1
            rw [zclm hcl, hk, e1]
            exact h104 y2 ey2
          · simp only [List.length_cons] at ey1 ey2 ⊢
            rw [e1, e2, zclm (by omega), pa] at ey1
            rw [e1, zclm (by omega), pb] at ey2
            subst ey1
            rw [zclm hcl, hk, e1]
            exact h104 y2 ey2
          · rename_i q5
            rw [zclm hcl, hk, show (5 : Int32) = nI 5 from rfl, zeq (by omega) (by decide)] at q5
            simp only [List.length_cons] at ey2
            rw [e1, zclm (by omega), pb] at ey2
            exact absurd ⟨q5, by rw [← ey2]; exact q⟩ h5
end
