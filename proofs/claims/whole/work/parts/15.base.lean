/-! where the cells lie; rows that name what they make: printed by wip/whole/gbase.py -/
def zat (I : zI) (a n : Nat) (i : Int32) : Int32 := if 0 ≤ i ∧ i < Int32.ofNat n then I a i.toNatClampNeg else 0
def zpt (I : zI) (a n : Nat) (i v : Int32) : zI := if 0 ≤ i ∧ i < Int32.ofNat n then zu I a i.toNatClampNeg v else I
theorem ex_topi {d : Nat} {k : zK} {pc : Nat} {ls : zL} {x : Int32} {st : List Value} {Z : zZ} {I : zI} {J : zJ} {o : zO} (h : ∀ y : Int32, y = x → zE d k pc ls (.int y :: st) Z I J o) : zE d k pc ls (.int x :: st) Z I J o := h x rfl
theorem ex_putiN {d : Nat} {k : zK} {pc : Nat} {ls : zL} {st : List Value} {Z : zZ} {I : zI} {J : zJ} {o : zO} {idx ci f a : Nat} {x : Int32} (h0 : decode k.1 pc = .ok (.putfield idx, 3)) (h1 : zFput k.2.1 idx ci f k) (h2 : zis Z a 0 ci) (h3 : zrf ci f = false) (h4 : narrow (zcY ci f) (.int x) = .int x ∧ fits (zcY ci f) (.int x) = true) (h5 : ∀ I1 : zI, I1 = zu I a f x → zE d k (pc + 3) ls st Z I1 J o) : zE d k pc ls (.int x :: .ref a :: st) Z I J o := ex_puti h0 h1 h2 h3 h4 (h5 _ rfl)
theorem ex_iastN {d : Nat} {k : zK} {pc : Nat} {ls : zL} {st : List Value} {Z : zZ} {I : zI} {J : zJ} {o : zO} {a n : Nat} {i x : Int32} (h0 : decode k.1 pc = .ok (.iastore, 1)) (h1 : zis Z a 1 n) (h2 : vp_in i n) (h3 : ∀ I1 : zI, I1 = zu I a i.toNatClampNeg x → zE d k (pc + 1) ls st Z I1 J o) : zE d k pc ls (.int x :: .int i :: .ref a :: st) Z I J o := ex_iast h0 h1 h2 (h3 _ rfl)
theorem ex_bastN {d : Nat} {k : zK} {pc : Nat} {ls : zL} {st : List Value} {Z : zZ} {I : zI} {J : zJ} {o : zO} {a n : Nat} {i x : Int32} (h0 : decode k.1 pc = .ok (.bastore, 1)) (h1 : zis Z a 3 n) (h2 : vp_in i n) (h3 : ∀ I1 : zI, I1 = zu I a i.toNatClampNeg (vp_nar .byte x) → zE d k (pc + 1) ls st Z I1 J o) : zE d k pc ls (.int x :: .int i :: .ref a :: st) Z I J o := ex_bast h0 h1 h2 (h3 _ rfl)
theorem ex_zastN {d : Nat} {k : zK} {pc : Nat} {ls : zL} {st : List Value} {Z : zZ} {I : zI} {J : zJ} {o : zO} {a n : Nat} {i x : Int32} (h0 : decode k.1 pc = .ok (.bastore, 1)) (h1 : zis Z a 4 n) (h2 : vp_in i n) (h3 : ∀ I1 : zI, I1 = zu I a i.toNatClampNeg (vp_nar .boolean x) → zE d k (pc + 1) ls st Z I1 J o) : zE d k pc ls (.int x :: .int i :: .ref a :: st) Z I J o := ex_zast h0 h1 h2 (h3 _ rfl)
theorem ex_lastN {d : Nat} {k : zK} {pc : Nat} {ls : zL} {st : List Value} {Z : zZ} {I : zI} {J : zJ} {o : zO} {a n : Nat} {i : Int32} {x : Int64} (h0 : decode k.1 pc = .ok (.lastore, 1)) (h1 : zis Z a 2 n) (h2 : vp_in i n) (h3 : ∀ J1 : zJ, J1 = zu J a i.toNatClampNeg x → zE d k (pc + 1) ls st Z I J1 o) : zE d k pc ls (.long x :: .int i :: .ref a :: st) Z I J o := ex_last h0 h1 h2 (h3 _ rfl)
theorem ex_copyN {d : Nat} {k : zK} {pc : Nat} {ls : zL} {st : List Value} {Z : zZ} {I : zI} {J : zJ} {o : zO} {idx a0 a n0 n1 : Nat} {sp dp n : Int32} (h0 : 1 ≤ d) (h1 : decode k.1 pc = .ok (.invokestatic idx, 3)) (h2 : Cond.methodLink k.2.1 idx arraycopyName ∈ zT) (h3 : zis Z a0 1 n0) (h4 : zis Z a 1 n1) (g1 : ¬ sp < 0) (g2 : ¬ dp < 0) (g3 : ¬ n < 0) (g4 : Int32.toNatClampNeg sp + Int32.toNatClampNeg n ≤ n0) (g5 : Int32.toNatClampNeg dp + Int32.toNatClampNeg n ≤ n1) (h5 : (st.map (fun v => v.category)).sum ≤ 8) (h6 : ∀ I1 : zI, I1 = zrow I a (zcpy (I a0) (I a) (Int32.toNatClampNeg sp) (Int32.toNatClampNeg dp) (Int32.toNatClampNeg n)) → zE d k (pc + 3) ls st Z I1 J o) : zE d k pc ls (.int n :: .int dp :: .ref a :: .int sp :: .ref a0 :: st) Z I J o := ex_copy h0 h1 h2 h3 h4 g1 g2 g3 g4 g5 h5 (h6 _ rfl)
theorem ex_tab {d : Nat} {k : zK} {pc : Nat} {ls : zL} {st : List Value} {Z : zZ} {I : zI} {J : zJ} {o : zO} {x : Int32} {dflt lo hi : Int} {offs : Array Int} {len : Nat} (h0 : decode k.1 pc = .ok (.tableswitch dflt lo hi offs, len)) (hd : (x.toInt < lo ∨ hi < x.toInt) → ∃ p : Nat, (pc : Int) + dflt = (p : Int) ∧ zE d k p ls st Z I J o) (hin : ∀ (q : Nat) (off : Int), q < (hi - lo + 1).toNat → offs[q]? = some off → x.toInt = lo + q → ∃ p : Nat, (pc : Int) + off = (p : Int) ∧ zE d k p ls st Z I J o) (hs : ∀ q, q < (hi - lo + 1).toNat → (offs[q]?).isSome = true := by decide) : zE d k pc ls (.int x :: st) Z I J o := by
  by_cases h : x.toInt < lo ∨ hi < x.toInt
  · obtain ⟨p, h1, h2⟩ := hd h
    exact ex_tabOut h0 h h1 h2
  · have hq : (x.toInt - lo).toNat < (hi - lo + 1).toNat := by omega
    have h3 := hs _ hq
    obtain ⟨off, ho⟩ := Option.isSome_iff_exists.mp h3
    obtain ⟨p, h1, h2⟩ := hin _ off hq ho (by omega)
    exact ex_tabIn h0 (fun z => h (Or.inl z)) (fun z => h (Or.inr z)) ho h1 h2
def zDy (Z : zZ) (d : Nat) : Prop := zis Z d 0 0 ∧ Z.2.2.2 d 1 = some (d + 1) ∧ Z.2.2.2 d 2 = some (d + 2) ∧ Z.2.2.2 d 3 = some (d + 3) ∧ Z.2.2.2 d 4 = some (d + 4) ∧ Z.2.2.2 d 5 = some (d + 5) ∧ Z.2.2.2 d 6 = some (d + 6) ∧ Z.2.2.2 d 7 = some (d + 7) ∧ Z.2.2.2 d 8 = some (d + 8) ∧ Z.2.2.2 d 9 = some (d + 9) ∧ zis Z (d + 1) 1 7 ∧ zis Z (d + 2) 1 7 ∧ zis Z (d + 3) 1 7 ∧ zis Z (d + 4) 1 7 ∧ zis Z (d + 5) 1 421 ∧ zis Z (d + 6) 1 421 ∧ zis Z (d + 7) 1 421 ∧ zis Z (d + 8) 1 421 ∧ zis Z (d + 9) 1 288
theorem zDy_o {Z : zZ} {d : Nat} (h : zDy Z d) : zis Z d 0 0 := h.1
theorem zDy_r1 {Z : zZ} {d : Nat} (h : zDy Z d) : Z.2.2.2 d 1 = some (d + 1) := h.2.1
theorem zDy_r2 {Z : zZ} {d : Nat} (h : zDy Z d) : Z.2.2.2 d 2 = some (d + 2) := h.2.2.1
theorem zDy_r3 {Z : zZ} {d : Nat} (h : zDy Z d) : Z.2.2.2 d 3 = some (d + 3) := h.2.2.2.1
theorem zDy_r4 {Z : zZ} {d : Nat} (h : zDy Z d) : Z.2.2.2 d 4 = some (d + 4) := h.2.2.2.2.1
theorem zDy_r5 {Z : zZ} {d : Nat} (h : zDy Z d) : Z.2.2.2 d 5 = some (d + 5) := h.2.2.2.2.2.1
theorem zDy_r6 {Z : zZ} {d : Nat} (h : zDy Z d) : Z.2.2.2 d 6 = some (d + 6) := h.2.2.2.2.2.2.1
theorem zDy_r7 {Z : zZ} {d : Nat} (h : zDy Z d) : Z.2.2.2 d 7 = some (d + 7) := h.2.2.2.2.2.2.2.1
theorem zDy_r8 {Z : zZ} {d : Nat} (h : zDy Z d) : Z.2.2.2 d 8 = some (d + 8) := h.2.2.2.2.2.2.2.2.1
theorem zDy_r9 {Z : zZ} {d : Nat} (h : zDy Z d) : Z.2.2.2 d 9 = some (d + 9) := h.2.2.2.2.2.2.2.2.2.1
theorem zDy_a1 {Z : zZ} {d : Nat} (h : zDy Z d) : zis Z (d + 1) 1 7 := h.2.2.2.2.2.2.2.2.2.2.1
theorem zDy_a2 {Z : zZ} {d : Nat} (h : zDy Z d) : zis Z (d + 2) 1 7 := h.2.2.2.2.2.2.2.2.2.2.2.1
theorem zDy_a3 {Z : zZ} {d : Nat} (h : zDy Z d) : zis Z (d + 3) 1 7 := h.2.2.2.2.2.2.2.2.2.2.2.2.1
theorem zDy_a4 {Z : zZ} {d : Nat} (h : zDy Z d) : zis Z (d + 4) 1 7 := h.2.2.2.2.2.2.2.2.2.2.2.2.2.1
theorem zDy_a5 {Z : zZ} {d : Nat} (h : zDy Z d) : zis Z (d + 5) 1 421 := h.2.2.2.2.2.2.2.2.2.2.2.2.2.2.1
theorem zDy_a6 {Z : zZ} {d : Nat} (h : zDy Z d) : zis Z (d + 6) 1 421 := h.2.2.2.2.2.2.2.2.2.2.2.2.2.2.2.1
theorem zDy_a7 {Z : zZ} {d : Nat} (h : zDy Z d) : zis Z (d + 7) 1 421 := h.2.2.2.2.2.2.2.2.2.2.2.2.2.2.2.2.1
theorem zDy_a8 {Z : zZ} {d : Nat} (h : zDy Z d) : zis Z (d + 8) 1 421 := h.2.2.2.2.2.2.2.2.2.2.2.2.2.2.2.2.2.1
theorem zDy_a9 {Z : zZ} {d : Nat} (h : zDy Z d) : zis Z (d + 9) 1 288 := h.2.2.2.2.2.2.2.2.2.2.2.2.2.2.2.2.2.2
def zLw (Z : zZ) (l : Nat) : Prop := zis Z l 0 2 ∧ Z.2.2.2 l 1 = some (l + 1) ∧ Z.2.2.2 l 2 = some (l + 2) ∧ Z.2.2.2 l 3 = some (l + 3) ∧ Z.2.2.2 l 4 = some (l + 4) ∧ zis Z (l + 1) 1 401 ∧ zis Z (l + 2) 1 401 ∧ zis Z (l + 3) 1 6 ∧ zis Z (l + 4) 1 32
theorem zLw_o {Z : zZ} {l : Nat} (h : zLw Z l) : zis Z l 0 2 := h.1
theorem zLw_r1 {Z : zZ} {l : Nat} (h : zLw Z l) : Z.2.2.2 l 1 = some (l + 1) := h.2.1
theorem zLw_r2 {Z : zZ} {l : Nat} (h : zLw Z l) : Z.2.2.2 l 2 = some (l + 2) := h.2.2.1
theorem zLw_r3 {Z : zZ} {l : Nat} (h : zLw Z l) : Z.2.2.2 l 3 = some (l + 3) := h.2.2.2.1
theorem zLw_r4 {Z : zZ} {l : Nat} (h : zLw Z l) : Z.2.2.2 l 4 = some (l + 4) := h.2.2.2.2.1
theorem zLw_a1 {Z : zZ} {l : Nat} (h : zLw Z l) : zis Z (l + 1) 1 401 := h.2.2.2.2.2.1
theorem zLw_a2 {Z : zZ} {l : Nat} (h : zLw Z l) : zis Z (l + 2) 1 401 := h.2.2.2.2.2.2.1
theorem zLw_a3 {Z : zZ} {l : Nat} (h : zLw Z l) : zis Z (l + 3) 1 6 := h.2.2.2.2.2.2.2.1
theorem zLw_a4 {Z : zZ} {l : Nat} (h : zLw Z l) : zis Z (l + 4) 1 32 := h.2.2.2.2.2.2.2.2
def zTx (Z : zZ) (t : Nat) : Prop := zis Z t 0 6 ∧ Z.2.2.2 t 6 = some (t + 1) ∧ Z.2.2.2 t 7 = some (t + 6) ∧ Z.2.2.2 t 8 = some (t + 7) ∧ Z.2.2.2 t 9 = some (t + 8) ∧ Z.2.2.2 t 10 = some (t + 9) ∧ Z.2.2.2 t 11 = some (t + 10) ∧ Z.2.2.2 t 12 = some (t + 11) ∧ Z.2.2.2 t 13 = some (t + 12) ∧ Z.2.2.2 t 14 = some (t + 13) ∧ Z.2.2.2 t 15 = some (t + 14) ∧ Z.2.2.2 t 16 = some (t + 15) ∧ Z.2.2.2 t 17 = some (t + 16) ∧ zis Z (t + 6) 1 7 ∧ zis Z (t + 7) 1 7 ∧ zis Z (t + 8) 1 7 ∧ zis Z (t + 9) 1 7 ∧ zis Z (t + 10) 1 7 ∧ zis Z (t + 11) 1 7 ∧ zis Z (t + 12) 1 42 ∧ zis Z (t + 13) 1 42 ∧ zis Z (t + 14) 1 6 ∧ zis Z (t + 15) 1 6 ∧ zis Z (t + 16) 2 7 ∧ zLw Z (t + 1)
theorem zTx_o {Z : zZ} {t : Nat} (h : zTx Z t) : zis Z t 0 6 := h.1
theorem zTx_r6 {Z : zZ} {t : Nat} (h : zTx Z t) : Z.2.2.2 t 6 = some (t + 1) := h.2.1
theorem zTx_r7 {Z : zZ} {t : Nat} (h : zTx Z t) : Z.2.2.2 t 7 = some (t + 6) := h.2.2.1
theorem zTx_r8 {Z : zZ} {t : Nat} (h : zTx Z t) : Z.2.2.2 t 8 = some (t + 7) := h.2.2.2.1
theorem zTx_r9 {Z : zZ} {t : Nat} (h : zTx Z t) : Z.2.2.2 t 9 = some (t + 8) := h.2.2.2.2.1
theorem zTx_r10 {Z : zZ} {t : Nat} (h : zTx Z t) : Z.2.2.2 t 10 = some (t + 9) := h.2.2.2.2.2.1
theorem zTx_r11 {Z : zZ} {t : Nat} (h : zTx Z t) : Z.2.2.2 t 11 = some (t + 10) := h.2.2.2.2.2.2.1
theorem zTx_r12 {Z : zZ} {t : Nat} (h : zTx Z t) : Z.2.2.2 t 12 = some (t + 11) := h.2.2.2.2.2.2.2.1
theorem zTx_r13 {Z : zZ} {t : Nat} (h : zTx Z t) : Z.2.2.2 t 13 = some (t + 12) := h.2.2.2.2.2.2.2.2.1
theorem zTx_r14 {Z : zZ} {t : Nat} (h : zTx Z t) : Z.2.2.2 t 14 = some (t + 13) := h.2.2.2.2.2.2.2.2.2.1
theorem zTx_r15 {Z : zZ} {t : Nat} (h : zTx Z t) : Z.2.2.2 t 15 = some (t + 14) := h.2.2.2.2.2.2.2.2.2.2.1
theorem zTx_r16 {Z : zZ} {t : Nat} (h : zTx Z t) : Z.2.2.2 t 16 = some (t + 15) := h.2.2.2.2.2.2.2.2.2.2.2.1
theorem zTx_r17 {Z : zZ} {t : Nat} (h : zTx Z t) : Z.2.2.2 t 17 = some (t + 16) := h.2.2.2.2.2.2.2.2.2.2.2.2.1
theorem zTx_a6 {Z : zZ} {t : Nat} (h : zTx Z t) : zis Z (t + 6) 1 7 := h.2.2.2.2.2.2.2.2.2.2.2.2.2.1
theorem zTx_a7 {Z : zZ} {t : Nat} (h : zTx Z t) : zis Z (t + 7) 1 7 := h.2.2.2.2.2.2.2.2.2.2.2.2.2.2.1
theorem zTx_a8 {Z : zZ} {t : Nat} (h : zTx Z t) : zis Z (t + 8) 1 7 := h.2.2.2.2.2.2.2.2.2.2.2.2.2.2.2.1
theorem zTx_a9 {Z : zZ} {t : Nat} (h : zTx Z t) : zis Z (t + 9) 1 7 := h.2.2.2.2.2.2.2.2.2.2.2.2.2.2.2.2.1
theorem zTx_a10 {Z : zZ} {t : Nat} (h : zTx Z t) : zis Z (t + 10) 1 7 := h.2.2.2.2.2.2.2.2.2.2.2.2.2.2.2.2.2.1
theorem zTx_a11 {Z : zZ} {t : Nat} (h : zTx Z t) : zis Z (t + 11) 1 7 := h.2.2.2.2.2.2.2.2.2.2.2.2.2.2.2.2.2.2.1
theorem zTx_a12 {Z : zZ} {t : Nat} (h : zTx Z t) : zis Z (t + 12) 1 42 := h.2.2.2.2.2.2.2.2.2.2.2.2.2.2.2.2.2.2.2.1
theorem zTx_a13 {Z : zZ} {t : Nat} (h : zTx Z t) : zis Z (t + 13) 1 42 := h.2.2.2.2.2.2.2.2.2.2.2.2.2.2.2.2.2.2.2.2.1
theorem zTx_a14 {Z : zZ} {t : Nat} (h : zTx Z t) : zis Z (t + 14) 1 6 := h.2.2.2.2.2.2.2.2.2.2.2.2.2.2.2.2.2.2.2.2.2.1
theorem zTx_a15 {Z : zZ} {t : Nat} (h : zTx Z t) : zis Z (t + 15) 1 6 := h.2.2.2.2.2.2.2.2.2.2.2.2.2.2.2.2.2.2.2.2.2.2.1
theorem zTx_a16 {Z : zZ} {t : Nat} (h : zTx Z t) : zis Z (t + 16) 2 7 := h.2.2.2.2.2.2.2.2.2.2.2.2.2.2.2.2.2.2.2.2.2.2.2.1
theorem zTx_l {Z : zZ} {t : Nat} (h : zTx Z t) : zLw Z (t + 1) := h.2.2.2.2.2.2.2.2.2.2.2.2.2.2.2.2.2.2.2.2.2.2.2.2
def zLYs : List (Nat × Nat × Nat) := [(0, 0, 11), (1, 1, 2000), (2, 0, 5), (20, 0, 8), (21, 1, 402), (22, 1, 402), (23, 1, 402), (24, 2, 402), (25, 2, 17), (26, 1, 400), (27, 1, 400), (28, 1, 400), (29, 1, 20), (67, 0, 3), (68, 5, 30), (69, 5, 3), (70, 1, 3), (401, 0, 7), (402, 1, 7), (403, 1, 7), (404, 1, 7), (405, 1, 144), (406, 1, 128), (407, 0, 10), (408, 1, 6), (409, 1, 384), (410, 0, 4), (411, 1, 4032), (412, 1, 196), (413, 0, 1), (414, 1, 7), (415, 0, 9), (416, 1, 12), (417, 1, 12), (418, 1, 12), (419, 1, 7), (420, 0, 12), (421, 3, 2000), (422, 3, 2000), (423, 1, 403), (424, 1, 403), (425, 1, 403), (426, 2, 403), (427, 2, 17), (428, 2, 7), (429, 1, 2), (430, 1, 2), (431, 1, 2), (432, 1, 14), (433, 1, 14), (434, 1, 14), (435, 1, 14), (436, 1, 84), (437, 1, 84), (438, 1, 2), (439, 1, 12), (440, 1, 12), (441, 1, 2), (442, 1, 49), (443, 1, 49), (444, 1, 49), (445, 1, 16), (446, 1, 16), (447, 4, 260), (448, 1, 260), (449, 1, 260), (450, 1, 260), (451, 1, 260), (452, 1, 840), (453, 1, 840), (454, 1, 64), (455, 1, 6), (456, 1, 400), (457, 1, 1290), (458, 1, 1290), (459, 1, 7), (460, 1, 38700), (461, 1, 7), (462, 1, 128), (463, 1, 6), (464, 1, 6), (465, 1, 7), (466, 1, 4032), (467, 1, 196), (468, 1, 12), (469, 1, 12), (470, 4, 12), (471, 4, 3), (472, 1, 3870)]
def zLYr : List (Nat × Nat × Nat) := [(0, 0, 1), (20, 0, 21), (20, 1, 22), (20, 2, 23), (20, 3, 24), (20, 4, 25), (2, 2, 20), (2, 9, 26), (2, 10, 27), (2, 11, 28), (2, 13, 29), (0, 3, 2), (0, 5, 47), (0, 6, 57), (67, 1, 68), (67, 2, 69), (67, 3, 70), (0, 7, 67), (401, 0, 402), (401, 1, 403), (401, 2, 404), (401, 4, 405), (401, 5, 406), (0, 8, 401), (407, 0, 408), (407, 1, 409), (0, 9, 407), (410, 2, 411), (410, 3, 412), (0, 10, 410), (413, 2, 414), (0, 11, 413), (415, 1, 416), (415, 2, 417), (415, 3, 418), (415, 4, 419), (0, 12, 415), (420, 1, 421), (420, 3, 422), (420, 5, 423), (420, 6, 424), (420, 7, 425), (420, 8, 426), (420, 9, 427), (420, 21, 428), (420, 22, 429), (420, 23, 430), (420, 24, 431), (420, 25, 432), (420, 26, 433), (420, 27, 434), (420, 28, 435), (420, 29, 436), (420, 30, 437), (420, 31, 438), (420, 32, 439), (420, 33, 440), (420, 34, 441), (420, 36, 442), (420, 37, 443), (420, 38, 444), (420, 39, 445), (420, 40, 446), (420, 42, 447), (420, 43, 448), (420, 44, 449), (420, 45, 450), (420, 46, 451), (420, 48, 452), (420, 49, 453), (420, 50, 454), (420, 52, 455), (420, 53, 456), (420, 55, 457), (420, 56, 458), (420, 57, 459), (420, 59, 460), (420, 60, 461), (420, 61, 462), (420, 62, 463), (420, 63, 464), (420, 66, 465), (420, 67, 466), (420, 68, 467), (420, 70, 468), (420, 71, 469), (420, 72, 470), (420, 73, 471), (420, 74, 472)]
/-- the cells of class and reference, t the text in place, u the other -/
def zLY (Z : zZ) (t u : Nat) : Prop := (∀ e ∈ zLYs, zis Z e.1 e.2.1 e.2.2) ∧ (∀ e ∈ zLYr, Z.2.2.2 e.1 e.2.1 = some e.2.2) ∧ (zDy Z 47 ∧ zDy Z 57 ∧ (∀ i, i < 30 → zDy Z (71 + 10 * i) ∧ Z.2.2.2 68 i = some (71 + 10 * i)) ∧ ∀ i, i < 3 → zDy Z (371 + 10 * i) ∧ Z.2.2.2 69 i = some (371 + 10 * i)) ∧ (zTx Z t ∧ zTx Z u ∧ Z.2.2.2 0 4 = some t ∧ Z.2.2.2 2 0 = some u ∧ (t = 3 ∧ u = 30 ∨ t = 30 ∧ u = 3)) ∧ zro Z 1000001 5 ∧ zro Z 1000002 5 ∧ zrb Z 1000005 80 ∧ zrb Z 1000006 9
theorem ly_a0 {Z : zZ} {t u : Nat} (h : zLY Z t u) : zis Z 0 0 11 := h.1 (0, 0, 11) (List.mem_of_getElem? (i := 0) rfl)
theorem ly_a1 {Z : zZ} {t u : Nat} (h : zLY Z t u) : zis Z 1 1 2000 := h.1 (1, 1, 2000) (List.mem_of_getElem? (i := 1) rfl)
theorem ly_a2 {Z : zZ} {t u : Nat} (h : zLY Z t u) : zis Z 2 0 5 := h.1 (2, 0, 5) (List.mem_of_getElem? (i := 2) rfl)
theorem ly_a20 {Z : zZ} {t u : Nat} (h : zLY Z t u) : zis Z 20 0 8 := h.1 (20, 0, 8) (List.mem_of_getElem? (i := 3) rfl)
theorem ly_a21 {Z : zZ} {t u : Nat} (h : zLY Z t u) : zis Z 21 1 402 := h.1 (21, 1, 402) (List.mem_of_getElem? (i := 4) rfl)
theorem ly_a22 {Z : zZ} {t u : Nat} (h : zLY Z t u) : zis Z 22 1 402 := h.1 (22, 1, 402) (List.mem_of_getElem? (i := 5) rfl)
theorem ly_a23 {Z : zZ} {t u : Nat} (h : zLY Z t u) : zis Z 23 1 402 := h.1 (23, 1, 402) (List.mem_of_getElem? (i := 6) rfl)
theorem ly_a24 {Z : zZ} {t u : Nat} (h : zLY Z t u) : zis Z 24 2 402 := h.1 (24, 2, 402) (List.mem_of_getElem? (i := 7) rfl)
theorem ly_a25 {Z : zZ} {t u : Nat} (h : zLY Z t u) : zis Z 25 2 17 := h.1 (25, 2, 17) (List.mem_of_getElem? (i := 8) rfl)
theorem ly_a26 {Z : zZ} {t u : Nat} (h : zLY Z t u) : zis Z 26 1 400 := h.1 (26, 1, 400) (List.mem_of_getElem? (i := 9) rfl)
theorem ly_a27 {Z : zZ} {t u : Nat} (h : zLY Z t u) : zis Z 27 1 400 := h.1 (27, 1, 400) (List.mem_of_getElem? (i := 10) rfl)
theorem ly_a28 {Z : zZ} {t u : Nat} (h : zLY Z t u) : zis Z 28 1 400 := h.1 (28, 1, 400) (List.mem_of_getElem? (i := 11) rfl)
theorem ly_a29 {Z : zZ} {t u : Nat} (h : zLY Z t u) : zis Z 29 1 20 := h.1 (29, 1, 20) (List.mem_of_getElem? (i := 12) rfl)
theorem ly_a67 {Z : zZ} {t u : Nat} (h : zLY Z t u) : zis Z 67 0 3 := h.1 (67, 0, 3) (List.mem_of_getElem? (i := 13) rfl)
theorem ly_a68 {Z : zZ} {t u : Nat} (h : zLY Z t u) : zis Z 68 5 30 := h.1 (68, 5, 30) (List.mem_of_getElem? (i := 14) rfl)
theorem ly_a69 {Z : zZ} {t u : Nat} (h : zLY Z t u) : zis Z 69 5 3 := h.1 (69, 5, 3) (List.mem_of_getElem? (i := 15) rfl)
theorem ly_a70 {Z : zZ} {t u : Nat} (h : zLY Z t u) : zis Z 70 1 3 := h.1 (70, 1, 3) (List.mem_of_getElem? (i := 16) rfl)
theorem ly_a401 {Z : zZ} {t u : Nat} (h : zLY Z t u) : zis Z 401 0 7 := h.1 (401, 0, 7) (List.mem_of_getElem? (i := 17) rfl)
theorem ly_a402 {Z : zZ} {t u : Nat} (h : zLY Z t u) : zis Z 402 1 7 := h.1 (402, 1, 7) (List.mem_of_getElem? (i := 18) rfl)
theorem ly_a403 {Z : zZ} {t u : Nat} (h : zLY Z t u) : zis Z 403 1 7 := h.1 (403, 1, 7) (List.mem_of_getElem? (i := 19) rfl)
theorem ly_a404 {Z : zZ} {t u : Nat} (h : zLY Z t u) : zis Z 404 1 7 := h.1 (404, 1, 7) (List.mem_of_getElem? (i := 20) rfl)
theorem ly_a405 {Z : zZ} {t u : Nat} (h : zLY Z t u) : zis Z 405 1 144 := h.1 (405, 1, 144) (List.mem_of_getElem? (i := 21) rfl)
theorem ly_a406 {Z : zZ} {t u : Nat} (h : zLY Z t u) : zis Z 406 1 128 := h.1 (406, 1, 128) (List.mem_of_getElem? (i := 22) rfl)
theorem ly_a407 {Z : zZ} {t u : Nat} (h : zLY Z t u) : zis Z 407 0 10 := h.1 (407, 0, 10) (List.mem_of_getElem? (i := 23) rfl)
theorem ly_a408 {Z : zZ} {t u : Nat} (h : zLY Z t u) : zis Z 408 1 6 := h.1 (408, 1, 6) (List.mem_of_getElem? (i := 24) rfl)
theorem ly_a409 {Z : zZ} {t u : Nat} (h : zLY Z t u) : zis Z 409 1 384 := h.1 (409, 1, 384) (List.mem_of_getElem? (i := 25) rfl)
theorem ly_a410 {Z : zZ} {t u : Nat} (h : zLY Z t u) : zis Z 410 0 4 := h.1 (410, 0, 4) (List.mem_of_getElem? (i := 26) rfl)
theorem ly_a411 {Z : zZ} {t u : Nat} (h : zLY Z t u) : zis Z 411 1 4032 := h.1 (411, 1, 4032) (List.mem_of_getElem? (i := 27) rfl)
theorem ly_a412 {Z : zZ} {t u : Nat} (h : zLY Z t u) : zis Z 412 1 196 := h.1 (412, 1, 196) (List.mem_of_getElem? (i := 28) rfl)
theorem ly_a413 {Z : zZ} {t u : Nat} (h : zLY Z t u) : zis Z 413 0 1 := h.1 (413, 0, 1) (List.mem_of_getElem? (i := 29) rfl)
theorem ly_a414 {Z : zZ} {t u : Nat} (h : zLY Z t u) : zis Z 414 1 7 := h.1 (414, 1, 7) (List.mem_of_getElem? (i := 30) rfl)
theorem ly_a415 {Z : zZ} {t u : Nat} (h : zLY Z t u) : zis Z 415 0 9 := h.1 (415, 0, 9) (List.mem_of_getElem? (i := 31) rfl)
theorem ly_a416 {Z : zZ} {t u : Nat} (h : zLY Z t u) : zis Z 416 1 12 := h.1 (416, 1, 12) (List.mem_of_getElem? (i := 32) rfl)
theorem ly_a417 {Z : zZ} {t u : Nat} (h : zLY Z t u) : zis Z 417 1 12 := h.1 (417, 1, 12) (List.mem_of_getElem? (i := 33) rfl)
theorem ly_a418 {Z : zZ} {t u : Nat} (h : zLY Z t u) : zis Z 418 1 12 := h.1 (418, 1, 12) (List.mem_of_getElem? (i := 34) rfl)
theorem ly_a419 {Z : zZ} {t u : Nat} (h : zLY Z t u) : zis Z 419 1 7 := h.1 (419, 1, 7) (List.mem_of_getElem? (i := 35) rfl)
theorem ly_a420 {Z : zZ} {t u : Nat} (h : zLY Z t u) : zis Z 420 0 12 := h.1 (420, 0, 12) (List.mem_of_getElem? (i := 36) rfl)
theorem ly_a421 {Z : zZ} {t u : Nat} (h : zLY Z t u) : zis Z 421 3 2000 := h.1 (421, 3, 2000) (List.mem_of_getElem? (i := 37) rfl)
theorem ly_a422 {Z : zZ} {t u : Nat} (h : zLY Z t u) : zis Z 422 3 2000 := h.1 (422, 3, 2000) (List.mem_of_getElem? (i := 38) rfl)
theorem ly_a423 {Z : zZ} {t u : Nat} (h : zLY Z t u) : zis Z 423 1 403 := h.1 (423, 1, 403) (List.mem_of_getElem? (i := 39) rfl)
theorem ly_a424 {Z : zZ} {t u : Nat} (h : zLY Z t u) : zis Z 424 1 403 := h.1 (424, 1, 403) (List.mem_of_getElem? (i := 40) rfl)
theorem ly_a425 {Z : zZ} {t u : Nat} (h : zLY Z t u) : zis Z 425 1 403 := h.1 (425, 1, 403) (List.mem_of_getElem? (i := 41) rfl)
theorem ly_a426 {Z : zZ} {t u : Nat} (h : zLY Z t u) : zis Z 426 2 403 := h.1 (426, 2, 403) (List.mem_of_getElem? (i := 42) rfl)
theorem ly_a427 {Z : zZ} {t u : Nat} (h : zLY Z t u) : zis Z 427 2 17 := h.1 (427, 2, 17) (List.mem_of_getElem? (i := 43) rfl)
theorem ly_a428 {Z : zZ} {t u : Nat} (h : zLY Z t u) : zis Z 428 2 7 := h.1 (428, 2, 7) (List.mem_of_getElem? (i := 44) rfl)
theorem ly_a429 {Z : zZ} {t u : Nat} (h : zLY Z t u) : zis Z 429 1 2 := h.1 (429, 1, 2) (List.mem_of_getElem? (i := 45) rfl)
theorem ly_a430 {Z : zZ} {t u : Nat} (h : zLY Z t u) : zis Z 430 1 2 := h.1 (430, 1, 2) (List.mem_of_getElem? (i := 46) rfl)
theorem ly_a431 {Z : zZ} {t u : Nat} (h : zLY Z t u) : zis Z 431 1 2 := h.1 (431, 1, 2) (List.mem_of_getElem? (i := 47) rfl)
theorem ly_a432 {Z : zZ} {t u : Nat} (h : zLY Z t u) : zis Z 432 1 14 := h.1 (432, 1, 14) (List.mem_of_getElem? (i := 48) rfl)
theorem ly_a433 {Z : zZ} {t u : Nat} (h : zLY Z t u) : zis Z 433 1 14 := h.1 (433, 1, 14) (List.mem_of_getElem? (i := 49) rfl)
theorem ly_a434 {Z : zZ} {t u : Nat} (h : zLY Z t u) : zis Z 434 1 14 := h.1 (434, 1, 14) (List.mem_of_getElem? (i := 50) rfl)
theorem ly_a435 {Z : zZ} {t u : Nat} (h : zLY Z t u) : zis Z 435 1 14 := h.1 (435, 1, 14) (List.mem_of_getElem? (i := 51) rfl)
theorem ly_a436 {Z : zZ} {t u : Nat} (h : zLY Z t u) : zis Z 436 1 84 := h.1 (436, 1, 84) (List.mem_of_getElem? (i := 52) rfl)
theorem ly_a437 {Z : zZ} {t u : Nat} (h : zLY Z t u) : zis Z 437 1 84 := h.1 (437, 1, 84) (List.mem_of_getElem? (i := 53) rfl)
theorem ly_a438 {Z : zZ} {t u : Nat} (h : zLY Z t u) : zis Z 438 1 2 := h.1 (438, 1, 2) (List.mem_of_getElem? (i := 54) rfl)
theorem ly_a439 {Z : zZ} {t u : Nat} (h : zLY Z t u) : zis Z 439 1 12 := h.1 (439, 1, 12) (List.mem_of_getElem? (i := 55) rfl)
theorem ly_a440 {Z : zZ} {t u : Nat} (h : zLY Z t u) : zis Z 440 1 12 := h.1 (440, 1, 12) (List.mem_of_getElem? (i := 56) rfl)
theorem ly_a441 {Z : zZ} {t u : Nat} (h : zLY Z t u) : zis Z 441 1 2 := h.1 (441, 1, 2) (List.mem_of_getElem? (i := 57) rfl)
theorem ly_a442 {Z : zZ} {t u : Nat} (h : zLY Z t u) : zis Z 442 1 49 := h.1 (442, 1, 49) (List.mem_of_getElem? (i := 58) rfl)
theorem ly_a443 {Z : zZ} {t u : Nat} (h : zLY Z t u) : zis Z 443 1 49 := h.1 (443, 1, 49) (List.mem_of_getElem? (i := 59) rfl)
theorem ly_a444 {Z : zZ} {t u : Nat} (h : zLY Z t u) : zis Z 444 1 49 := h.1 (444, 1, 49) (List.mem_of_getElem? (i := 60) rfl)
theorem ly_a445 {Z : zZ} {t u : Nat} (h : zLY Z t u) : zis Z 445 1 16 := h.1 (445, 1, 16) (List.mem_of_getElem? (i := 61) rfl)
theorem ly_a446 {Z : zZ} {t u : Nat} (h : zLY Z t u) : zis Z 446 1 16 := h.1 (446, 1, 16) (List.mem_of_getElem? (i := 62) rfl)
theorem ly_a447 {Z : zZ} {t u : Nat} (h : zLY Z t u) : zis Z 447 4 260 := h.1 (447, 4, 260) (List.mem_of_getElem? (i := 63) rfl)
theorem ly_a448 {Z : zZ} {t u : Nat} (h : zLY Z t u) : zis Z 448 1 260 := h.1 (448, 1, 260) (List.mem_of_getElem? (i := 64) rfl)
theorem ly_a449 {Z : zZ} {t u : Nat} (h : zLY Z t u) : zis Z 449 1 260 := h.1 (449, 1, 260) (List.mem_of_getElem? (i := 65) rfl)
theorem ly_a450 {Z : zZ} {t u : Nat} (h : zLY Z t u) : zis Z 450 1 260 := h.1 (450, 1, 260) (List.mem_of_getElem? (i := 66) rfl)
theorem ly_a451 {Z : zZ} {t u : Nat} (h : zLY Z t u) : zis Z 451 1 260 := h.1 (451, 1, 260) (List.mem_of_getElem? (i := 67) rfl)
theorem ly_a452 {Z : zZ} {t u : Nat} (h : zLY Z t u) : zis Z 452 1 840 := h.1 (452, 1, 840) (List.mem_of_getElem? (i := 68) rfl)
theorem ly_a453 {Z : zZ} {t u : Nat} (h : zLY Z t u) : zis Z 453 1 840 := h.1 (453, 1, 840) (List.mem_of_getElem? (i := 69) rfl)
theorem ly_a454 {Z : zZ} {t u : Nat} (h : zLY Z t u) : zis Z 454 1 64 := h.1 (454, 1, 64) (List.mem_of_getElem? (i := 70) rfl)
theorem ly_a455 {Z : zZ} {t u : Nat} (h : zLY Z t u) : zis Z 455 1 6 := h.1 (455, 1, 6) (List.mem_of_getElem? (i := 71) rfl)
theorem ly_a456 {Z : zZ} {t u : Nat} (h : zLY Z t u) : zis Z 456 1 400 := h.1 (456, 1, 400) (List.mem_of_getElem? (i := 72) rfl)
theorem ly_a457 {Z : zZ} {t u : Nat} (h : zLY Z t u) : zis Z 457 1 1290 := h.1 (457, 1, 1290) (List.mem_of_getElem? (i := 73) rfl)
theorem ly_a458 {Z : zZ} {t u : Nat} (h : zLY Z t u) : zis Z 458 1 1290 := h.1 (458, 1, 1290) (List.mem_of_getElem? (i := 74) rfl)
theorem ly_a459 {Z : zZ} {t u : Nat} (h : zLY Z t u) : zis Z 459 1 7 := h.1 (459, 1, 7) (List.mem_of_getElem? (i := 75) rfl)
theorem ly_a460 {Z : zZ} {t u : Nat} (h : zLY Z t u) : zis Z 460 1 38700 := h.1 (460, 1, 38700) (List.mem_of_getElem? (i := 76) rfl)
theorem ly_a461 {Z : zZ} {t u : Nat} (h : zLY Z t u) : zis Z 461 1 7 := h.1 (461, 1, 7) (List.mem_of_getElem? (i := 77) rfl)
theorem ly_a462 {Z : zZ} {t u : Nat} (h : zLY Z t u) : zis Z 462 1 128 := h.1 (462, 1, 128) (List.mem_of_getElem? (i := 78) rfl)
theorem ly_a463 {Z : zZ} {t u : Nat} (h : zLY Z t u) : zis Z 463 1 6 := h.1 (463, 1, 6) (List.mem_of_getElem? (i := 79) rfl)
theorem ly_a464 {Z : zZ} {t u : Nat} (h : zLY Z t u) : zis Z 464 1 6 := h.1 (464, 1, 6) (List.mem_of_getElem? (i := 80) rfl)
theorem ly_a465 {Z : zZ} {t u : Nat} (h : zLY Z t u) : zis Z 465 1 7 := h.1 (465, 1, 7) (List.mem_of_getElem? (i := 81) rfl)
theorem ly_a466 {Z : zZ} {t u : Nat} (h : zLY Z t u) : zis Z 466 1 4032 := h.1 (466, 1, 4032) (List.mem_of_getElem? (i := 82) rfl)
theorem ly_a467 {Z : zZ} {t u : Nat} (h : zLY Z t u) : zis Z 467 1 196 := h.1 (467, 1, 196) (List.mem_of_getElem? (i := 83) rfl)
theorem ly_a468 {Z : zZ} {t u : Nat} (h : zLY Z t u) : zis Z 468 1 12 := h.1 (468, 1, 12) (List.mem_of_getElem? (i := 84) rfl)
theorem ly_a469 {Z : zZ} {t u : Nat} (h : zLY Z t u) : zis Z 469 1 12 := h.1 (469, 1, 12) (List.mem_of_getElem? (i := 85) rfl)
theorem ly_a470 {Z : zZ} {t u : Nat} (h : zLY Z t u) : zis Z 470 4 12 := h.1 (470, 4, 12) (List.mem_of_getElem? (i := 86) rfl)
theorem ly_a471 {Z : zZ} {t u : Nat} (h : zLY Z t u) : zis Z 471 4 3 := h.1 (471, 4, 3) (List.mem_of_getElem? (i := 87) rfl)
theorem ly_a472 {Z : zZ} {t u : Nat} (h : zLY Z t u) : zis Z 472 1 3870 := h.1 (472, 1, 3870) (List.mem_of_getElem? (i := 88) rfl)
theorem ly_r0_0 {Z : zZ} {t u : Nat} (h : zLY Z t u) : Z.2.2.2 0 0 = some 1 := h.2.1 (0, 0, 1) (List.mem_of_getElem? (i := 0) rfl)
theorem ly_r20_0 {Z : zZ} {t u : Nat} (h : zLY Z t u) : Z.2.2.2 20 0 = some 21 := h.2.1 (20, 0, 21) (List.mem_of_getElem? (i := 1) rfl)
theorem ly_r20_1 {Z : zZ} {t u : Nat} (h : zLY Z t u) : Z.2.2.2 20 1 = some 22 := h.2.1 (20, 1, 22) (List.mem_of_getElem? (i := 2) rfl)
theorem ly_r20_2 {Z : zZ} {t u : Nat} (h : zLY Z t u) : Z.2.2.2 20 2 = some 23 := h.2.1 (20, 2, 23) (List.mem_of_getElem? (i := 3) rfl)
theorem ly_r20_3 {Z : zZ} {t u : Nat} (h : zLY Z t u) : Z.2.2.2 20 3 = some 24 := h.2.1 (20, 3, 24) (List.mem_of_getElem? (i := 4) rfl)
theorem ly_r20_4 {Z : zZ} {t u : Nat} (h : zLY Z t u) : Z.2.2.2 20 4 = some 25 := h.2.1 (20, 4, 25) (List.mem_of_getElem? (i := 5) rfl)
theorem ly_r2_2 {Z : zZ} {t u : Nat} (h : zLY Z t u) : Z.2.2.2 2 2 = some 20 := h.2.1 (2, 2, 20) (List.mem_of_getElem? (i := 6) rfl)
theorem ly_r2_9 {Z : zZ} {t u : Nat} (h : zLY Z t u) : Z.2.2.2 2 9 = some 26 := h.2.1 (2, 9, 26) (List.mem_of_getElem? (i := 7) rfl)
theorem ly_r2_10 {Z : zZ} {t u : Nat} (h : zLY Z t u) : Z.2.2.2 2 10 = some 27 := h.2.1 (2, 10, 27) (List.mem_of_getElem? (i := 8) rfl)
theorem ly_r2_11 {Z : zZ} {t u : Nat} (h : zLY Z t u) : Z.2.2.2 2 11 = some 28 := h.2.1 (2, 11, 28) (List.mem_of_getElem? (i := 9) rfl)
theorem ly_r2_13 {Z : zZ} {t u : Nat} (h : zLY Z t u) : Z.2.2.2 2 13 = some 29 := h.2.1 (2, 13, 29) (List.mem_of_getElem? (i := 10) rfl)
theorem ly_r0_3 {Z : zZ} {t u : Nat} (h : zLY Z t u) : Z.2.2.2 0 3 = some 2 := h.2.1 (0, 3, 2) (List.mem_of_getElem? (i := 11) rfl)
theorem ly_r0_5 {Z : zZ} {t u : Nat} (h : zLY Z t u) : Z.2.2.2 0 5 = some 47 := h.2.1 (0, 5, 47) (List.mem_of_getElem? (i := 12) rfl)
theorem ly_r0_6 {Z : zZ} {t u : Nat} (h : zLY Z t u) : Z.2.2.2 0 6 = some 57 := h.2.1 (0, 6, 57) (List.mem_of_getElem? (i := 13) rfl)
theorem ly_r67_1 {Z : zZ} {t u : Nat} (h : zLY Z t u) : Z.2.2.2 67 1 = some 68 := h.2.1 (67, 1, 68) (List.mem_of_getElem? (i := 14) rfl)
theorem ly_r67_2 {Z : zZ} {t u : Nat} (h : zLY Z t u) : Z.2.2.2 67 2 = some 69 := h.2.1 (67, 2, 69) (List.mem_of_getElem? (i := 15) rfl)
theorem ly_r67_3 {Z : zZ} {t u : Nat} (h : zLY Z t u) : Z.2.2.2 67 3 = some 70 := h.2.1 (67, 3, 70) (List.mem_of_getElem? (i := 16) rfl)
theorem ly_r0_7 {Z : zZ} {t u : Nat} (h : zLY Z t u) : Z.2.2.2 0 7 = some 67 := h.2.1 (0, 7, 67) (List.mem_of_getElem? (i := 17) rfl)
theorem ly_r401_0 {Z : zZ} {t u : Nat} (h : zLY Z t u) : Z.2.2.2 401 0 = some 402 := h.2.1 (401, 0, 402) (List.mem_of_getElem? (i := 18) rfl)
theorem ly_r401_1 {Z : zZ} {t u : Nat} (h : zLY Z t u) : Z.2.2.2 401 1 = some 403 := h.2.1 (401, 1, 403) (List.mem_of_getElem? (i := 19) rfl)
theorem ly_r401_2 {Z : zZ} {t u : Nat} (h : zLY Z t u) : Z.2.2.2 401 2 = some 404 := h.2.1 (401, 2, 404) (List.mem_of_getElem? (i := 20) rfl)
theorem ly_r401_4 {Z : zZ} {t u : Nat} (h : zLY Z t u) : Z.2.2.2 401 4 = some 405 := h.2.1 (401, 4, 405) (List.mem_of_getElem? (i := 21) rfl)
theorem ly_r401_5 {Z : zZ} {t u : Nat} (h : zLY Z t u) : Z.2.2.2 401 5 = some 406 := h.2.1 (401, 5, 406) (List.mem_of_getElem? (i := 22) rfl)
theorem ly_r0_8 {Z : zZ} {t u : Nat} (h : zLY Z t u) : Z.2.2.2 0 8 = some 401 := h.2.1 (0, 8, 401) (List.mem_of_getElem? (i := 23) rfl)
theorem ly_r407_0 {Z : zZ} {t u : Nat} (h : zLY Z t u) : Z.2.2.2 407 0 = some 408 := h.2.1 (407, 0, 408) (List.mem_of_getElem? (i := 24) rfl)
theorem ly_r407_1 {Z : zZ} {t u : Nat} (h : zLY Z t u) : Z.2.2.2 407 1 = some 409 := h.2.1 (407, 1, 409) (List.mem_of_getElem? (i := 25) rfl)
theorem ly_r0_9 {Z : zZ} {t u : Nat} (h : zLY Z t u) : Z.2.2.2 0 9 = some 407 := h.2.1 (0, 9, 407) (List.mem_of_getElem? (i := 26) rfl)
theorem ly_r410_2 {Z : zZ} {t u : Nat} (h : zLY Z t u) : Z.2.2.2 410 2 = some 411 := h.2.1 (410, 2, 411) (List.mem_of_getElem? (i := 27) rfl)
theorem ly_r410_3 {Z : zZ} {t u : Nat} (h : zLY Z t u) : Z.2.2.2 410 3 = some 412 := h.2.1 (410, 3, 412) (List.mem_of_getElem? (i := 28) rfl)
theorem ly_r0_10 {Z : zZ} {t u : Nat} (h : zLY Z t u) : Z.2.2.2 0 10 = some 410 := h.2.1 (0, 10, 410) (List.mem_of_getElem? (i := 29) rfl)
theorem ly_r413_2 {Z : zZ} {t u : Nat} (h : zLY Z t u) : Z.2.2.2 413 2 = some 414 := h.2.1 (413, 2, 414) (List.mem_of_getElem? (i := 30) rfl)
theorem ly_r0_11 {Z : zZ} {t u : Nat} (h : zLY Z t u) : Z.2.2.2 0 11 = some 413 := h.2.1 (0, 11, 413) (List.mem_of_getElem? (i := 31) rfl)
theorem ly_r415_1 {Z : zZ} {t u : Nat} (h : zLY Z t u) : Z.2.2.2 415 1 = some 416 := h.2.1 (415, 1, 416) (List.mem_of_getElem? (i := 32) rfl)
theorem ly_r415_2 {Z : zZ} {t u : Nat} (h : zLY Z t u) : Z.2.2.2 415 2 = some 417 := h.2.1 (415, 2, 417) (List.mem_of_getElem? (i := 33) rfl)
theorem ly_r415_3 {Z : zZ} {t u : Nat} (h : zLY Z t u) : Z.2.2.2 415 3 = some 418 := h.2.1 (415, 3, 418) (List.mem_of_getElem? (i := 34) rfl)
theorem ly_r415_4 {Z : zZ} {t u : Nat} (h : zLY Z t u) : Z.2.2.2 415 4 = some 419 := h.2.1 (415, 4, 419) (List.mem_of_getElem? (i := 35) rfl)
theorem ly_r0_12 {Z : zZ} {t u : Nat} (h : zLY Z t u) : Z.2.2.2 0 12 = some 415 := h.2.1 (0, 12, 415) (List.mem_of_getElem? (i := 36) rfl)
theorem ly_r420_1 {Z : zZ} {t u : Nat} (h : zLY Z t u) : Z.2.2.2 420 1 = some 421 := h.2.1 (420, 1, 421) (List.mem_of_getElem? (i := 37) rfl)
theorem ly_r420_3 {Z : zZ} {t u : Nat} (h : zLY Z t u) : Z.2.2.2 420 3 = some 422 := h.2.1 (420, 3, 422) (List.mem_of_getElem? (i := 38) rfl)
theorem ly_r420_5 {Z : zZ} {t u : Nat} (h : zLY Z t u) : Z.2.2.2 420 5 = some 423 := h.2.1 (420, 5, 423) (List.mem_of_getElem? (i := 39) rfl)
theorem ly_r420_6 {Z : zZ} {t u : Nat} (h : zLY Z t u) : Z.2.2.2 420 6 = some 424 := h.2.1 (420, 6, 424) (List.mem_of_getElem? (i := 40) rfl)
theorem ly_r420_7 {Z : zZ} {t u : Nat} (h : zLY Z t u) : Z.2.2.2 420 7 = some 425 := h.2.1 (420, 7, 425) (List.mem_of_getElem? (i := 41) rfl)
theorem ly_r420_8 {Z : zZ} {t u : Nat} (h : zLY Z t u) : Z.2.2.2 420 8 = some 426 := h.2.1 (420, 8, 426) (List.mem_of_getElem? (i := 42) rfl)
theorem ly_r420_9 {Z : zZ} {t u : Nat} (h : zLY Z t u) : Z.2.2.2 420 9 = some 427 := h.2.1 (420, 9, 427) (List.mem_of_getElem? (i := 43) rfl)
theorem ly_r420_21 {Z : zZ} {t u : Nat} (h : zLY Z t u) : Z.2.2.2 420 21 = some 428 := h.2.1 (420, 21, 428) (List.mem_of_getElem? (i := 44) rfl)
theorem ly_r420_22 {Z : zZ} {t u : Nat} (h : zLY Z t u) : Z.2.2.2 420 22 = some 429 := h.2.1 (420, 22, 429) (List.mem_of_getElem? (i := 45) rfl)
theorem ly_r420_23 {Z : zZ} {t u : Nat} (h : zLY Z t u) : Z.2.2.2 420 23 = some 430 := h.2.1 (420, 23, 430) (List.mem_of_getElem? (i := 46) rfl)
theorem ly_r420_24 {Z : zZ} {t u : Nat} (h : zLY Z t u) : Z.2.2.2 420 24 = some 431 := h.2.1 (420, 24, 431) (List.mem_of_getElem? (i := 47) rfl)
theorem ly_r420_25 {Z : zZ} {t u : Nat} (h : zLY Z t u) : Z.2.2.2 420 25 = some 432 := h.2.1 (420, 25, 432) (List.mem_of_getElem? (i := 48) rfl)
theorem ly_r420_26 {Z : zZ} {t u : Nat} (h : zLY Z t u) : Z.2.2.2 420 26 = some 433 := h.2.1 (420, 26, 433) (List.mem_of_getElem? (i := 49) rfl)
theorem ly_r420_27 {Z : zZ} {t u : Nat} (h : zLY Z t u) : Z.2.2.2 420 27 = some 434 := h.2.1 (420, 27, 434) (List.mem_of_getElem? (i := 50) rfl)
theorem ly_r420_28 {Z : zZ} {t u : Nat} (h : zLY Z t u) : Z.2.2.2 420 28 = some 435 := h.2.1 (420, 28, 435) (List.mem_of_getElem? (i := 51) rfl)
theorem ly_r420_29 {Z : zZ} {t u : Nat} (h : zLY Z t u) : Z.2.2.2 420 29 = some 436 := h.2.1 (420, 29, 436) (List.mem_of_getElem? (i := 52) rfl)
theorem ly_r420_30 {Z : zZ} {t u : Nat} (h : zLY Z t u) : Z.2.2.2 420 30 = some 437 := h.2.1 (420, 30, 437) (List.mem_of_getElem? (i := 53) rfl)
theorem ly_r420_31 {Z : zZ} {t u : Nat} (h : zLY Z t u) : Z.2.2.2 420 31 = some 438 := h.2.1 (420, 31, 438) (List.mem_of_getElem? (i := 54) rfl)
theorem ly_r420_32 {Z : zZ} {t u : Nat} (h : zLY Z t u) : Z.2.2.2 420 32 = some 439 := h.2.1 (420, 32, 439) (List.mem_of_getElem? (i := 55) rfl)
theorem ly_r420_33 {Z : zZ} {t u : Nat} (h : zLY Z t u) : Z.2.2.2 420 33 = some 440 := h.2.1 (420, 33, 440) (List.mem_of_getElem? (i := 56) rfl)
theorem ly_r420_34 {Z : zZ} {t u : Nat} (h : zLY Z t u) : Z.2.2.2 420 34 = some 441 := h.2.1 (420, 34, 441) (List.mem_of_getElem? (i := 57) rfl)
theorem ly_r420_36 {Z : zZ} {t u : Nat} (h : zLY Z t u) : Z.2.2.2 420 36 = some 442 := h.2.1 (420, 36, 442) (List.mem_of_getElem? (i := 58) rfl)
theorem ly_r420_37 {Z : zZ} {t u : Nat} (h : zLY Z t u) : Z.2.2.2 420 37 = some 443 := h.2.1 (420, 37, 443) (List.mem_of_getElem? (i := 59) rfl)
theorem ly_r420_38 {Z : zZ} {t u : Nat} (h : zLY Z t u) : Z.2.2.2 420 38 = some 444 := h.2.1 (420, 38, 444) (List.mem_of_getElem? (i := 60) rfl)
theorem ly_r420_39 {Z : zZ} {t u : Nat} (h : zLY Z t u) : Z.2.2.2 420 39 = some 445 := h.2.1 (420, 39, 445) (List.mem_of_getElem? (i := 61) rfl)
theorem ly_r420_40 {Z : zZ} {t u : Nat} (h : zLY Z t u) : Z.2.2.2 420 40 = some 446 := h.2.1 (420, 40, 446) (List.mem_of_getElem? (i := 62) rfl)
theorem ly_r420_42 {Z : zZ} {t u : Nat} (h : zLY Z t u) : Z.2.2.2 420 42 = some 447 := h.2.1 (420, 42, 447) (List.mem_of_getElem? (i := 63) rfl)
theorem ly_r420_43 {Z : zZ} {t u : Nat} (h : zLY Z t u) : Z.2.2.2 420 43 = some 448 := h.2.1 (420, 43, 448) (List.mem_of_getElem? (i := 64) rfl)
theorem ly_r420_44 {Z : zZ} {t u : Nat} (h : zLY Z t u) : Z.2.2.2 420 44 = some 449 := h.2.1 (420, 44, 449) (List.mem_of_getElem? (i := 65) rfl)
theorem ly_r420_45 {Z : zZ} {t u : Nat} (h : zLY Z t u) : Z.2.2.2 420 45 = some 450 := h.2.1 (420, 45, 450) (List.mem_of_getElem? (i := 66) rfl)
theorem ly_r420_46 {Z : zZ} {t u : Nat} (h : zLY Z t u) : Z.2.2.2 420 46 = some 451 := h.2.1 (420, 46, 451) (List.mem_of_getElem? (i := 67) rfl)
theorem ly_r420_48 {Z : zZ} {t u : Nat} (h : zLY Z t u) : Z.2.2.2 420 48 = some 452 := h.2.1 (420, 48, 452) (List.mem_of_getElem? (i := 68) rfl)
theorem ly_r420_49 {Z : zZ} {t u : Nat} (h : zLY Z t u) : Z.2.2.2 420 49 = some 453 := h.2.1 (420, 49, 453) (List.mem_of_getElem? (i := 69) rfl)
theorem ly_r420_50 {Z : zZ} {t u : Nat} (h : zLY Z t u) : Z.2.2.2 420 50 = some 454 := h.2.1 (420, 50, 454) (List.mem_of_getElem? (i := 70) rfl)
theorem ly_r420_52 {Z : zZ} {t u : Nat} (h : zLY Z t u) : Z.2.2.2 420 52 = some 455 := h.2.1 (420, 52, 455) (List.mem_of_getElem? (i := 71) rfl)
theorem ly_r420_53 {Z : zZ} {t u : Nat} (h : zLY Z t u) : Z.2.2.2 420 53 = some 456 := h.2.1 (420, 53, 456) (List.mem_of_getElem? (i := 72) rfl)
theorem ly_r420_55 {Z : zZ} {t u : Nat} (h : zLY Z t u) : Z.2.2.2 420 55 = some 457 := h.2.1 (420, 55, 457) (List.mem_of_getElem? (i := 73) rfl)
theorem ly_r420_56 {Z : zZ} {t u : Nat} (h : zLY Z t u) : Z.2.2.2 420 56 = some 458 := h.2.1 (420, 56, 458) (List.mem_of_getElem? (i := 74) rfl)
theorem ly_r420_57 {Z : zZ} {t u : Nat} (h : zLY Z t u) : Z.2.2.2 420 57 = some 459 := h.2.1 (420, 57, 459) (List.mem_of_getElem? (i := 75) rfl)
theorem ly_r420_59 {Z : zZ} {t u : Nat} (h : zLY Z t u) : Z.2.2.2 420 59 = some 460 := h.2.1 (420, 59, 460) (List.mem_of_getElem? (i := 76) rfl)
theorem ly_r420_60 {Z : zZ} {t u : Nat} (h : zLY Z t u) : Z.2.2.2 420 60 = some 461 := h.2.1 (420, 60, 461) (List.mem_of_getElem? (i := 77) rfl)
theorem ly_r420_61 {Z : zZ} {t u : Nat} (h : zLY Z t u) : Z.2.2.2 420 61 = some 462 := h.2.1 (420, 61, 462) (List.mem_of_getElem? (i := 78) rfl)
theorem ly_r420_62 {Z : zZ} {t u : Nat} (h : zLY Z t u) : Z.2.2.2 420 62 = some 463 := h.2.1 (420, 62, 463) (List.mem_of_getElem? (i := 79) rfl)
theorem ly_r420_63 {Z : zZ} {t u : Nat} (h : zLY Z t u) : Z.2.2.2 420 63 = some 464 := h.2.1 (420, 63, 464) (List.mem_of_getElem? (i := 80) rfl)
theorem ly_r420_66 {Z : zZ} {t u : Nat} (h : zLY Z t u) : Z.2.2.2 420 66 = some 465 := h.2.1 (420, 66, 465) (List.mem_of_getElem? (i := 81) rfl)
theorem ly_r420_67 {Z : zZ} {t u : Nat} (h : zLY Z t u) : Z.2.2.2 420 67 = some 466 := h.2.1 (420, 67, 466) (List.mem_of_getElem? (i := 82) rfl)
theorem ly_r420_68 {Z : zZ} {t u : Nat} (h : zLY Z t u) : Z.2.2.2 420 68 = some 467 := h.2.1 (420, 68, 467) (List.mem_of_getElem? (i := 83) rfl)
theorem ly_r420_70 {Z : zZ} {t u : Nat} (h : zLY Z t u) : Z.2.2.2 420 70 = some 468 := h.2.1 (420, 70, 468) (List.mem_of_getElem? (i := 84) rfl)
theorem ly_r420_71 {Z : zZ} {t u : Nat} (h : zLY Z t u) : Z.2.2.2 420 71 = some 469 := h.2.1 (420, 71, 469) (List.mem_of_getElem? (i := 85) rfl)
theorem ly_r420_72 {Z : zZ} {t u : Nat} (h : zLY Z t u) : Z.2.2.2 420 72 = some 470 := h.2.1 (420, 72, 470) (List.mem_of_getElem? (i := 86) rfl)
theorem ly_r420_73 {Z : zZ} {t u : Nat} (h : zLY Z t u) : Z.2.2.2 420 73 = some 471 := h.2.1 (420, 73, 471) (List.mem_of_getElem? (i := 87) rfl)
theorem ly_r420_74 {Z : zZ} {t u : Nat} (h : zLY Z t u) : Z.2.2.2 420 74 = some 472 := h.2.1 (420, 74, 472) (List.mem_of_getElem? (i := 88) rfl)
theorem ly_d47 {Z : zZ} {t u : Nat} (h : zLY Z t u) : zDy Z 47 := h.2.2.1.1
theorem ly_d57 {Z : zZ} {t u : Nat} (h : zLY Z t u) : zDy Z 57 := h.2.2.1.2.1
theorem ly_kept {Z : zZ} {t u : Nat} (h : zLY Z t u) {i : Nat} (hi : i < 30) : zDy Z (71 + 10 * i) ∧ Z.2.2.2 68 i = some (71 + 10 * i) := h.2.2.1.2.2.1 i hi
theorem ly_slot {Z : zZ} {t u : Nat} (h : zLY Z t u) {i : Nat} (hi : i < 3) : zDy Z (371 + 10 * i) ∧ Z.2.2.2 69 i = some (371 + 10 * i) := h.2.2.1.2.2.2 i hi
theorem ly_tx {Z : zZ} {t u : Nat} (h : zLY Z t u) : zTx Z t := h.2.2.2.1.1
theorem ly_ux {Z : zZ} {t u : Nat} (h : zLY Z t u) : zTx Z u := h.2.2.2.1.2.1
theorem ly_text {Z : zZ} {t u : Nat} (h : zLY Z t u) : Z.2.2.2 0 4 = some t := h.2.2.2.1.2.2.1
theorem ly_rtext {Z : zZ} {t u : Nat} (h : zLY Z t u) : Z.2.2.2 2 0 = some u := h.2.2.2.1.2.2.2.1
theorem ly_tu {Z : zZ} {t u : Nat} (h : zLY Z t u) : t = 3 ∧ u = 30 ∨ t = 30 ∧ u = 3 := h.2.2.2.1.2.2.2.2
theorem ly_ro1 {Z : zZ} {t u : Nat} (h : zLY Z t u) : zro Z 1000001 5 := h.2.2.2.2.1
theorem ly_ro2 {Z : zZ} {t u : Nat} (h : zLY Z t u) : zro Z 1000002 5 := h.2.2.2.2.2.1
theorem ly_rb5 {Z : zZ} {t u : Nat} (h : zLY Z t u) : zrb Z 1000005 80 := h.2.2.2.2.2.2.1
theorem ly_rb6 {Z : zZ} {t u : Nat} (h : zLY Z t u) : zrb Z 1000006 9 := h.2.2.2.2.2.2.2
