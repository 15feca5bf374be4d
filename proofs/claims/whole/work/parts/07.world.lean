/-! THE LITTLE MACHINE AND THE BIG ONE: what a state of the little one says of a heap, and what a run of it says of the walk. -/
def zval (α : Nat → Nat) : Value → Value
  | .ref a => .ref (α a)
  | .int x => .int x
  | .long x => .long x
  | .float x => .float x
  | .double x => .double x
  | .null => .null
  | .retAddr x => .retAddr x
theorem zval_cat (α : Nat → Nat) (v : Value) : (zval α v).category = v.category := by cases v <;> rfl
def zfv (α : Nat → Nat) (Z : zZ) (I : zI) (a ci k : Nat) : Value := if zrf ci k = true then va_rf ((Z.2.2.2 a k).map α) else .int (I a k)
def zent0 (cy : Nat → ClassId) (α : Nat → Nat) (Z : zZ) (I : zI) (J : zJ) (a : Nat) (kd n : Nat) : va_E :=
  if kd = 0 then .inr (n, (List.range (zcN n)).map (zfv α Z I a n))
  else if kd = 2 then .inl (cy 2, n, .inr (.inl (J a)))
  else if kd = 3 then .inl (cy 3, n, .inl (I a))
  else if kd = 4 then .inl (cy 4, n, .inl (I a))
  else if kd = 5 then .inl (cy 5, n, .inr (.inr (.inr (.inr (fun j => (Z.2.2.2 a j).map α)))))
  else .inl (cy 1, n, .inl (I a))
def zent (cy : Nat → ClassId) (α : Nat → Nat) (Z : zZ) (I : zI) (J : zJ) (a : Nat) : va_E := zent0 cy α Z I J a (Z.2.2.1 a).1 (Z.2.2.1 a).2
def zws (cy : Nat → ClassId) (α : Nat → Nat) (Z : zZ) (I : zI) (J : zJ) : va_W := (List.range Z.1).map (fun a => (α a, zent cy α Z I J a))
def ztys (cy : Nat → ClassId) : List (ClassId × FieldType) := [(cy 1, .int), (cy 2, .long), (cy 3, .byte), (cy 4, .boolean), (cy 5, .object RX0)]
def zlenS : List Nat := [80, 9]
def zbytS : List (List Int32) := [[116,111,119,110,32,109,97,110,32,103,111,101,115,32,108,111,110,103,32,101,114,114,97,110,100,32,112,105,108,108,97,114,32,100,121,101,32,115,101,101,100,32,105,102,32,116,104,101,110,32,101,108,115,101,32,120,32,121,32,109,105,110,117,116,101,32,108,101,102,116,32,108,111,116,32,114,97,110,107,32],[59,61,43,45,42,47,60,40,41]]
def zSt (A : Nat → Prop) (α : Nat → Nat) (U : State) (H : Heap) : Prop :=
  (va_Z RX11 "STEP_X" "[I" (.ref (α 1000001)) A U H ∧ va_Z RX11 "STEP_Y" "[I" (.ref (α 1000002)) A U H ∧ va_Z "java/lang/String" "COMPACT_STRINGS" "Z" (.int 1) A U H) ∧
  (∃ v, (v = .null ∨ v = .ref (α 1000007)) ∧ va_Z "jdk/internal/util/Preconditions" "SIOOBE_FORMATTER" "Ljava/util/function/BiFunction;" v A U H) ∧
  vk_S 2 zlenS zbytS (fun i => α (1000003 + i)) (fun i => α (1000005 + i)) A U H ∧ vk_R RX8 28 "town man goes long errand pillar dye seed if then else x y minute left lot rank " (α 1000003) U ∧ vk_R RX8 80 ";=+-*/<()" (α 1000004) U
def zRo (A : Nat → Prop) (α : Nat → Nat) (Z : zZ) (I : zI) (U : State) (H : Heap) : Prop :=
  (∀ a n, zro Z a n → va_T .int (α a) n (fun j => .int (I a j)) A U H) ∧ ∀ a n, zrb Z a n → va_T .byte (α a) n (fun j => .int (I a j)) A U H
def zNw (U : State) : Prop :=
  (∀ o i b n d h, Cond.fieldLinkNest o i b n d h ∈ lw_tbl → va_Nw (.fieldLinkNest o i b n d h) U) ∧ (∀ o i y h, Cond.methodLinkNest o i y h ∈ lw_tbl → va_Nw (.methodLinkNest o i y h) U) ∧ va_AO RX0 U
/-- the state (Z, I, J) is what the heap H holds; s: the method's own start; A: what it may change -/
def zWd (D : va_G) (cy : Nat → ClassId) (α : Nat → Nat) (A : Nat → Prop) (Z : zZ) (I : zI) (J : zJ) (s : State) (H : Heap) : Prop :=
  va_P D vwCl (zws cy α Z I J) H ∧ va_D A (zws cy α Z I J) ∧ zRo A α Z I s s.heap
def zFix (D : va_G) (cy : Nat → ClassId) (α : Nat → Nat) (A : Nat → Prop) (s : State) : Prop :=
  va_K D vwCl (ztys cy) s ∧ zSt A α s s.heap ∧ zNw s
def zloc (α : Nat → Nat) (ls : zL) (n : Nat) (arr : Array Slot) : Prop := arr.size = n ∧ lv_wf arr ∧ (∀ i v, zget ls i = some v → arr[i]? = some (.val (zval α v))) ∧ ls.length ≤ n
def zCx (D : va_G) (cy : Nat → ClassId) (α : Nat → Nat) (d : Nat) (k : zK) (p : Program) (R : Room) (s : State) (m : MethodId) (args : Array Value) (meth : Method) (c : Code) (A : Nat → Prop) : Prop :=
  p.tables.exec = Jvm.exec ∧ c.code = k.1 ∧ c.maxLocals = k.2.2.1 ∧ s.vm.findClass k.2.1 = some m.cls ∧ meth.name = k.2.2.2.2.name ∧ (∀ w ∈ zT, w.before args s = true) ∧ d ≤ R.frames ∧ 37 * d ≤ R.locals ∧ (∀ q, s.heap.size ≤ q → A q) ∧ (∀ a, a < 999999 → α (a + 1) = α a + 1) ∧ zFix D cy α A s
/-- what a run of the little machine says of the big one -/
def zP (D : va_G) (cy : Nat → ClassId) (α : Nat → Nat) : zPr := fun d k pc ls st Z I J o =>
  (Z.1 ≤ o.2.1.1 ∧ Z.2.1 ≤ o.2.1.2.1 ∧ (Z.1 ≤ 999999 → o.2.1.1 ≤ 999999) ∧ ∀ a, 1000000 ≤ a → o.2.1.2.2.1 a = Z.2.2.1 a ∧ o.2.2.1 a = I a) ∧
  ∀ (p : Program) (l : Launch) (e : Env) (R : Room) (s : State) (m : MethodId) (args : Array Value) (below : List Frame) (meth : Method) (c : Code) (H : Heap) (locs : List Loc) (cells slots : Nat) (Q : State → Prop) (A : Nat → Prop) (arr : Array Slot),
    zCx D cy α d k p R s m args meth c A → va_S A s.heap H locs → zWd D cy α A Z I J s H → zloc α ls k.2.2.1 arr → (s.heap.size + cells = α Z.1 ∧ Z.1 ≤ 999999 ∧ α 0 ≤ s.heap.size) → cells + (o.2.1.1 - Z.1) ≤ R.cells → slots + (o.2.1.2.1 - Z.2.1) ≤ R.slots →
    (∀ (H' : Heap) (locs' : List Loc) (arr' : Array Slot) (pc' : Nat), va_S A s.heap H' locs' → zWd D cy α A o.2.1 o.2.2.1 o.2.2.2 s H' → zRet k pc' o.1 → W p l e R s m args below meth c H' locs' (cells + (o.2.1.1 - Z.1)) (slots + (o.2.1.2.1 - Z.2.1)) Q (F0 m pc' arr' (o.1.map (zval α)).toList)) →
    W p l e R s m args below meth c H locs cells slots Q (F0 m pc arr (st.map (zval α)))
-- the cells
theorem zws_get {cy : Nat → ClassId} {α : Nat → Nat} {Z : zZ} {I : zI} {J : zJ} {a : Nat} (h : a < Z.1) : (zws cy α Z I J)[a]? = some (α a, zent cy α Z I J a) := by
  simp [zws, h]
theorem zws_set {cy : Nat → ClassId} {α : Nat → Nat} {Z Z' : zZ} {I I' : zI} {J J' : zJ} {a : Nat} (hz : Z'.1 = Z.1) (h : ∀ b, b ≠ a → zent cy α Z' I' J' b = zent cy α Z I J b) {x : va_E} (hx : x = zent cy α Z' I' J' a) : (zws cy α Z I J).set a (α a, x) = zws cy α Z' I' J' := by
  subst hx
  apply List.ext_getElem?
  intro b
  unfold zws
  rw [hz, List.getElem?_set]
  by_cases hb : a = b
  · subst hb
    by_cases hl : a < Z.1
    · simp [hl]
    · simp [hl]
  · rw [if_neg hb]
    by_cases hl : b < Z.1
    · simp [hl, h b (Ne.symm hb)]
    · simp [hl]
theorem zws_push {cy : Nat → ClassId} {α : Nat → Nat} {Z Z' : zZ} {I I' : zI} {J J' : zJ} (hz : Z'.1 = Z.1 + 1) (h : ∀ b, b < Z.1 → zent cy α Z' I' J' b = zent cy α Z I J b) {x : va_E} (hx : x = zent cy α Z' I' J' Z.1) : zws cy α Z I J ++ [(α Z.1, x)] = zws cy α Z' I' J' := by
  subst hx
  unfold zws
  rw [hz, List.range_succ, List.map_append]
  congr 1
  apply List.map_congr_left
  intro b hb
  rw [h b (List.mem_range.mp hb)]
theorem zent_at {cy : Nat → ClassId} {α : Nat → Nat} {Z : zZ} {I : zI} {J : zJ} {a kd n : Nat} (h : Z.2.2.1 a = (kd, n)) : zent cy α Z I J a = zent0 cy α Z I J a kd n := by
  unfold zent; rw [h]
theorem zget_put {ls : zL} {i j : Nat} {v w : Value} (h : zget (zput ls i v) j = some w) : (j = i ∧ w = v) ∨ (j ≠ i ∧ zget ls j = some w ∧ ¬ (j + 1 = i ∧ w.category = 2)) := by
  induction ls generalizing i j with
  | nil => simp [zput, zget] at h
  | cons x t ih =>
    cases i with
    | zero =>
      cases j with
      | zero => simp [zput, zget] at h; exact Or.inl ⟨rfl, h.symm⟩
      | succ j => simp [zput, zget] at h; exact Or.inr ⟨by omega, by simpa [zget] using h, by omega⟩
    | succ i =>
      cases j with
      | zero =>
        right
        refine ⟨by omega, ?_⟩
        cases i with
        | zero =>
          simp only [zput, zget] at h
          simp only [zget]
          cases x with
          | none => simp [zkl] at h
          | some y => cases y <;> simp [zkl] at h <;> (subst h; simp [Value.category])
        | succ i =>
          simp only [zput, zget] at h
          simp only [zget]
          exact ⟨h, by omega⟩
      | succ j =>
        simp only [zput, zget] at h
        rcases ih h with ⟨e1, e2⟩ | ⟨e1, e2, e3⟩
        · exact Or.inl ⟨by omega, e2⟩
        · exact Or.inr ⟨by omega, by simpa only [zget] using e2, by omega⟩
theorem zget_clr {ls : zL} {i j : Nat} {w : Value} (h : zget (zclr ls i) j = some w) : j ≠ i ∧ zget ls j = some w := by
  induction ls generalizing i j with
  | nil => simp [zclr, zget] at h
  | cons x t ih =>
    cases i with
    | zero =>
      cases j with
      | zero => simp [zclr, zget] at h
      | succ j => simp only [zclr, zget] at h; exact ⟨by omega, by simpa only [zget] using h⟩
    | succ i =>
      cases j with
      | zero => simp only [zclr, zget] at h; exact ⟨by omega, by simpa only [zget] using h⟩
      | succ j =>
        simp only [zclr, zget] at h
        obtain ⟨e1, e2⟩ := ih h
        exact ⟨by omega, by simpa only [zget] using e2⟩
theorem zle_get : ∀ {ls' ls : zL}, zle ls' ls → ∀ {i : Nat} {v : Value}, zget ls' i = some v → zget ls i = some v
  | [], _, _, _, _, h => by simp [zget] at h
  | none :: t, _ :: u, hl, 0, v, h => by simp [zget] at h
  | none :: t, x :: u, hl, i + 1, v, h => by
    simp only [zle] at hl
    simp only [zget] at h ⊢
    exact zle_get hl h
  | some w :: t, some x :: u, hl, 0, v, h => by
    simp only [zle] at hl
    simp only [zget] at h ⊢
    rw [← hl.1]; exact h
  | some w :: t, some x :: u, hl, i + 1, v, h => by
    simp only [zle] at hl
    simp only [zget] at h ⊢
    exact zle_get hl.2 h
  | none :: t, [], hl, _, _, _ => by simp [zle] at hl
  | some w :: t, none :: u, hl, _, _, _ => by simp [zle] at hl
  | some w :: t, [], hl, _, _, _ => by simp [zle] at hl
theorem zle_len : ∀ {ls' ls : zL}, zle ls' ls → ls'.length ≤ ls.length
  | [], _, _ => by simp
  | none :: t, _ :: u, hl => by
    simp only [zle] at hl
    have := zle_len hl
    simp; omega
  | some w :: t, some x :: u, hl => by
    simp only [zle] at hl
    have := zle_len hl.2
    simp; omega
  | none :: t, [], hl => by simp [zle] at hl
  | some w :: t, none :: u, hl => by simp [zle] at hl
  | some w :: t, [], hl => by simp [zle] at hl
theorem zput_len : ∀ (ls : zL) (i : Nat) (v : Value), (zput ls i v).length = ls.length
  | [], _, _ => by simp [zput]
  | _ :: t, 0, v => by simp [zput]
  | x :: t, n + 1, v => by simp [zput, zput_len t n v]
theorem zclr_len : ∀ (ls : zL) (i : Nat), (zclr ls i).length = ls.length
  | [], _ => by simp [zclr]
  | _ :: t, 0 => by simp [zclr]
  | x :: t, n + 1 => by simp [zclr, zclr_len t n]
theorem zok_lt : ∀ {ls : zL} {i : Nat}, zok ls i = true → i < ls.length
  | [], _, h => by simp [zok] at h
  | _ :: t, 0, _ => by simp
  | _ :: t, n + 1, h => by
    simp only [zok] at h
    have := zok_lt h
    simp; omega
/-- the locals as the kit lists them -/
def zlv (α : Nat → Nat) : Nat → zL → List (Nat × Value)
  | _, [] => []
  | i, none :: t => zlv α (i + 1) t
  | i, some v :: t => (i, zval α v) :: zlv α (i + 1) t
theorem zlv_mem {α : Nat → Nat} {ls : zL} : ∀ {i : Nat} {q : Nat × Value}, q ∈ zlv α i ls ↔ ∃ j v, q = (i + j, zval α v) ∧ zget ls j = some v := by
  induction ls with
  | nil => intro i q; simp [zlv, zget]
  | cons x t ih =>
    intro i q
    have h0 : (∃ j v, q = (i + j, zval α v) ∧ zget (x :: t) j = some v) ↔ (∃ v, q = (i, zval α v) ∧ x = some v) ∨ ∃ j v, q = (i + 1 + j, zval α v) ∧ zget t j = some v := by
      constructor
      · rintro ⟨j, v, h1, h2⟩
        cases j with
        | zero => exact Or.inl ⟨v, h1, h2⟩
        | succ j => exact Or.inr ⟨j, v, by rw [h1]; congr 1; omega, h2⟩
      · rintro (⟨v, h1, h2⟩ | ⟨j, v, h1, h2⟩)
        · exact ⟨0, v, h1, h2⟩
        · exact ⟨j + 1, v, by rw [h1]; congr 1; omega, h2⟩
    rw [h0]
    cases x with
    | none => simp only [zlv]; rw [ih]; simp
    | some w =>
      simp only [zlv, List.mem_cons]; rw [ih]
      constructor
      · rintro (h | h)
        · exact Or.inl ⟨w, h, rfl⟩
        · exact Or.inr h
      · rintro (⟨v, h1, h2⟩ | h)
        · cases h2; exact Or.inl h1
        · exact Or.inr h
theorem zloc_has {α : Nat → Nat} {ls : zL} {n : Nat} {arr : Array Slot} (h : zloc α ls n arr) : lv_has arr n (zlv α 0 ls) := by
  refine ⟨h.1, h.2.1, fun q hq => ?_⟩
  obtain ⟨j, v, rfl, hv⟩ := zlv_mem.mp hq
  simpa using h.2.2.1 j v hv
theorem zloc_put {α : Nat → Nat} {ls : zL} {n i : Nat} {arr : Array Slot} {v : Value} (hn : ls.length ≤ n) (h : lv_has arr n ((i, zval α v) :: (zlv α 0 ls).filter (fun q => !(q.1 == i) && !(q.1 + 1 == i && q.2.category == 2)))) : zloc α (zput ls i v) n arr := by
  refine ⟨h.1, h.2.1, fun j w hw => ?_, by rw [zput_len]; exact hn⟩
  rcases zget_put hw with ⟨rfl, rfl⟩ | ⟨e1, e2, e3⟩
  · exact h.2.2 (j, _) List.mem_cons_self
  · refine h.2.2 (j, zval α w) (List.mem_cons_of_mem _ (List.mem_filter.mpr ⟨zlv_mem.mpr ⟨j, w, by simp, e2⟩, ?_⟩))
    have hc : (zval α w).category = w.category := zval_cat α w
    simp only [hc, Bool.and_eq_true, Bool.not_eq_true', beq_eq_false_iff_ne, ne_eq, Bool.and_eq_false_iff]
    refine ⟨e1, ?_⟩
    by_cases q : j + 1 = i
    · exact Or.inr fun z => e3 ⟨q, z⟩
    · exact Or.inl q
theorem zloc_putl {α : Nat → Nat} {ls : zL} {n i : Nat} {arr : Array Slot} {v : Value} (hn : ls.length ≤ n) (h : lv_has arr n ((i, zval α v) :: (zlv α 0 ls).filter (fun q => !(q.1 == i) && (!(q.1 == i + 1) && !(q.1 + 1 == i && q.2.category == 2))))) : zloc α (zclr (zput ls i v) (i + 1)) n arr := by
  refine ⟨h.1, h.2.1, fun j w hw => ?_, by rw [zclr_len, zput_len]; exact hn⟩
  obtain ⟨e0, hw⟩ := zget_clr hw
  rcases zget_put hw with ⟨rfl, rfl⟩ | ⟨e1, e2, e3⟩
  · exact h.2.2 (j, _) List.mem_cons_self
  · refine h.2.2 (j, zval α w) (List.mem_cons_of_mem _ (List.mem_filter.mpr ⟨zlv_mem.mpr ⟨j, w, by simp, e2⟩, ?_⟩))
    have hc : (zval α w).category = w.category := zval_cat α w
    simp only [hc, Bool.and_eq_true, Bool.not_eq_true', beq_eq_false_iff_ne, ne_eq, Bool.and_eq_false_iff]
    refine ⟨e1, e0, ?_⟩
    by_cases q : j + 1 = i
    · exact Or.inr fun z => e3 ⟨q, z⟩
    · exact Or.inl q
theorem zget_len {ls : zL} {i : Nat} {v : Value} (h : zget ls i = some v) : i < ls.length := by
  induction ls generalizing i with
  | nil => simp [zget] at h
  | cons x t ih =>
    cases i with
    | zero => simp
    | succ i => simp only [zget] at h; have := ih h; simp; omega
/-! what the tables hold of the classes -/
theorem z_cl {ci : Nat} (h : ci < 13) : vwCl[ci]? = some (zcR ci, zcT ci, zcN ci) := by
  match ci, h with
  | 0, _ => rfl
  | 1, _ => rfl
  | 2, _ => rfl
  | 3, _ => rfl
  | 4, _ => rfl
  | 5, _ => rfl
  | 6, _ => rfl
  | 7, _ => rfl
  | 8, _ => rfl
  | 9, _ => rfl
  | 10, _ => rfl
  | 11, _ => rfl
  | 12, _ => rfl
  | n + 13, h => exact absurd h (by omega)
theorem z_in {ci : Nat} (h : ci < 13) : ∀ w ∈ u_ws (zcR ci) (zcT ci) (zcN ci), w ∈ zT := by
  match ci, h with
  | 0, _ => decide +kernel
  | 1, _ => decide +kernel
  | 2, _ => decide +kernel
  | 3, _ => decide +kernel
  | 4, _ => decide +kernel
  | 5, _ => decide +kernel
  | 6, _ => decide +kernel
  | 7, _ => decide +kernel
  | 8, _ => decide +kernel
  | 9, _ => decide +kernel
  | 10, _ => decide +kernel
  | 11, _ => decide +kernel
  | 12, _ => decide +kernel
  | n + 13, h => exact absurd h (by omega)
theorem z_ty {ci : Nat} (h : ci < 13) : ∀ f, f < zcN ci → parseFieldDescriptor (zcT ci f).2.2.1 = some (zcY ci f) := by
  match ci, h with
  | 0, _ => exact tyX0_ok
  | 1, _ => exact tyX1_ok
  | 2, _ => exact tyX2_ok
  | 3, _ => exact tyX3_ok
  | 4, _ => exact tyX4_ok
  | 5, _ => exact tyX5_ok
  | 6, _ => exact tyX6_ok
  | 7, _ => exact tyX7_ok
  | 8, _ => exact tyX8_ok
  | 9, _ => exact tyX9_ok
  | 10, _ => exact tyX10_ok
  | 11, _ => exact tyX11_ok
  | 12, _ => exact tyX12_ok
  | n + 13, h => exact absurd h (by omega)
theorem z_nm {ci : Nat} (h : ci < 13) : ∀ a, a < zcN ci → ∀ b, b < zcN ci → a ≠ b → (zcT ci a).2.1 ≠ (zcT ci b).2.1 := by
  match ci, h with
  | 0, _ => exact nmX0
  | 1, _ => exact nmX1
  | 2, _ => exact nmX2
  | 3, _ => exact nmX3
  | 4, _ => exact nmX4
  | 5, _ => exact nmX5
  | 6, _ => exact nmX6
  | 7, _ => exact nmX7
  | 8, _ => exact nmX8
  | 9, _ => exact nmX9
  | 10, _ => exact nmX10
  | 11, _ => exact nmX11
  | 12, _ => exact nmX12
  | n + 13, h => exact absurd h (by omega)
theorem z_ins {ci : Nat} (h : ci < 13) : Cond.instantiable (zcR ci) (zcN ci) ∈ zT ∧ Cond.initialized (zcR ci) ∈ zT := by
  match ci, h with
  | 0, _ => decide +kernel
  | 1, _ => decide +kernel
  | 2, _ => decide +kernel
  | 3, _ => decide +kernel
  | 4, _ => decide +kernel
  | 5, _ => decide +kernel
  | 6, _ => decide +kernel
  | 7, _ => decide +kernel
  | 8, _ => decide +kernel
  | 9, _ => decide +kernel
  | 10, _ => decide +kernel
  | 11, _ => decide +kernel
  | 12, _ => decide +kernel
  | n + 13, h => exact absurd h (by omega)
theorem zT_good : ∀ w ∈ zT, w ∈ lw_tbl ∧ goodWord w = true := fun w h => List.mem_filter.mp h
