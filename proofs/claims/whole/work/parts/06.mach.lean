/-! THE LITTLE MACHINE. A state is a table of cells with small numbers for addresses: zZ = (how many cells, how many slots, the shape of each, what its references hold), zI the ints, zJ the longs. An address from 1000000 on is read only. -/
abbrev zZ : Type := Nat × Nat × (Nat → Nat × Nat) × (Nat → Nat → Option Nat)
abbrev zI : Type := Nat → Nat → Int32
abbrev zJ : Type := Nat → Nat → Int64
abbrev zO : Type := Option Value × zZ × zI × zJ
/-- code, its class, how many locals, what it returns, its name -/
abbrev zK : Type := ByteArray × String × Nat × Option FieldType × MethodName
abbrev zL : Type := List (Option Value)
abbrev zPr : Type := Nat → zK → Nat → zL → List Value → zZ → zI → zJ → zO → Prop
def zT : List Cond := lw_tbl.filter goodWord
def zu {β : Type} (I : Nat → Nat → β) (a k : Nat) (v : β) : Nat → Nat → β := fun b j => if b = a ∧ j = k then v else I b j
def zis (Z : zZ) (a kd n : Nat) : Prop := a < Z.1 ∧ a < 1000000 ∧ Z.2.2.1 a = (kd, n)
def zro (Z : zZ) (a n : Nat) : Prop := 1000000 ≤ a ∧ a < 1000003 ∧ Z.2.2.1 a = (1, n)
-- locals
def zget : zL → Nat → Option Value
  | [], _ => none
  | v :: _, 0 => v
  | _ :: t, n + 1 => zget t n
def zkl : Option Value → Option Value
  | some (.long _) => none
  | some (.double _) => none
  | x => x
def zput : zL → Nat → Value → zL
  | [], _, _ => []
  | _ :: t, 0, v => some v :: t
  | x :: t, n + 1, v => (match n with | 0 => zkl x | _ => x) :: zput t n v
def zok : zL → Nat → Bool
  | [], _ => false
  | _ :: _, 0 => true
  | _ :: t, n + 1 => zok t n
def zclr : zL → Nat → zL
  | [], _ => []
  | _ :: t, 0 => none :: t
  | x :: t, n + 1 => x :: zclr t n
/-- fewer known locals -/
def zle : zL → zL → Prop
  | [], _ => True
  | none :: t, _ :: u => zle t u
  | some v :: t, some w :: u => v = w ∧ zle t u
  | _ :: _, [] => False
  | some _ :: _, none :: _ => False
def zarg : List Value → zL
  | [] => []
  | .long x :: t => some (.long x) :: none :: zarg t
  | .double x :: t => some (.double x) :: none :: zarg t
  | v :: t => some v :: zarg t
def zin (n : Nat) (vs : List Value) : zL := zarg vs ++ List.replicate (n - (zarg vs).length) none
def zjmp (pc : Nat) (off : Int) : Nat := ((pc : Int) + off).toNat
/-- what an instruction does that looks at locals and stack alone, and doesn't choose -/
def zlen : Instr → Nat
  | .bipush _ => 2
  | .sipush _ => 3
  | .iload _ => 2
  | .aload _ => 2
  | .lload _ => 2
  | .istore _ => 2
  | .astore _ => 2
  | .lstore _ => 2
  | .iinc _ _ => 3
  | .goto _ => 3
  | .ifnull _ => 3
  | .ifnonnull _ => 3
  | _ => 1
def zstep (i : Instr) (pc : Nat) (ls : zL) (st : List Value) : Option (Nat × zL × List Value) :=
  match i with
  | .iconst n => some (pc + 1, ls, .int (Int32.ofInt n) :: st)
  | .bipush n => some (pc + 2, ls, .int (Int8.ofInt n).toInt32 :: st)
  | .sipush n => some (pc + 3, ls, .int (Int16.ofInt n).toInt32 :: st)
  | .lconst n => some (pc + 1, ls, .long (Int64.ofNat (n : Nat)) :: st)
  | .aconst_null => some (pc + 1, ls, .null :: st)
  | .iload_n n => match zget ls (n : Nat) with | some (.int x) => some (pc + 1, ls, .int x :: st) | _ => none
  | .iload n => match zget ls n with | some (.int x) => some (pc + 2, ls, .int x :: st) | _ => none
  | .aload_n n => match zget ls (n : Nat) with | some (.ref x) => some (pc + 1, ls, .ref x :: st) | some .null => some (pc + 1, ls, .null :: st) | _ => none
  | .aload n => match zget ls n with | some (.ref x) => some (pc + 2, ls, .ref x :: st) | some .null => some (pc + 2, ls, .null :: st) | _ => none
  | .lload_n n => match zget ls (n : Nat) with | some (.long x) => some (pc + 1, ls, .long x :: st) | _ => none
  | .lload n => match zget ls n with | some (.long x) => some (pc + 2, ls, .long x :: st) | _ => none
  | .istore_n n => match zok ls (n : Nat), st with | true, .int x :: t => some (pc + 1, zput ls (n : Nat) (.int x), t) | _, _ => none
  | .istore n => match zok ls n, st with | true, .int x :: t => some (pc + 2, zput ls n (.int x), t) | _, _ => none
  | .astore_n n => match zok ls (n : Nat), st with | true, .ref x :: t => some (pc + 1, zput ls (n : Nat) (.ref x), t) | true, .null :: t => some (pc + 1, zput ls (n : Nat) .null, t) | _, _ => none
  | .astore n => match zok ls n, st with | true, .ref x :: t => some (pc + 2, zput ls n (.ref x), t) | true, .null :: t => some (pc + 2, zput ls n .null, t) | _, _ => none
  | .lstore_n n => match zok ls ((n : Nat) + 1), st with | true, .long x :: t => some (pc + 1, zclr (zput ls (n : Nat) (.long x)) ((n : Nat) + 1), t) | _, _ => none
  | .lstore n => match zok ls (n + 1), st with | true, .long x :: t => some (pc + 2, zclr (zput ls n (.long x)) (n + 1), t) | _, _ => none
  | .iinc n c => match zget ls n with | some (.int x) => some (pc + 3, zput ls n (.int (x + Int32.ofInt c)), st) | _ => none
  | .iadd => match st with | .int y :: .int x :: t => some (pc + 1, ls, .int (x + y) :: t) | _ => none
  | .isub => match st with | .int y :: .int x :: t => some (pc + 1, ls, .int (x - y) :: t) | _ => none
  | .imul => match st with | .int y :: .int x :: t => some (pc + 1, ls, .int (x * y) :: t) | _ => none
  | .iand => match st with | .int y :: .int x :: t => some (pc + 1, ls, .int (x &&& y) :: t) | _ => none
  | .ior => match st with | .int y :: .int x :: t => some (pc + 1, ls, .int (x ||| y) :: t) | _ => none
  | .ixor => match st with | .int y :: .int x :: t => some (pc + 1, ls, .int (x ^^^ y) :: t) | _ => none
  | .ineg => match st with | .int x :: t => some (pc + 1, ls, .int (0 - x) :: t) | _ => none
  | .ishl => match st with | .int y :: .int x :: t => some (pc + 1, ls, .int (x <<< (y &&& 31)) :: t) | _ => none
  | .ishr => match st with | .int y :: .int x :: t => some (pc + 1, ls, .int (x >>> (y &&& 31)) :: t) | _ => none
  | .iushr => match st with | .int y :: .int x :: t => some (pc + 1, ls, .int (x.toUInt32 >>> (y.toUInt32 &&& Int32.toUInt32 31)).toInt32 :: t) | _ => none
  | .ladd => match st with | .long y :: .long x :: t => some (pc + 1, ls, .long (x + y) :: t) | _ => none
  | .lmul => match st with | .long y :: .long x :: t => some (pc + 1, ls, .long (x * y) :: t) | _ => none
  | .i2l => match st with | .int x :: t => some (pc + 1, ls, .long x.toInt64 :: t) | _ => none
  | .i2b => match st with | .int x :: t => some (pc + 1, ls, .int x.toInt8.toInt32 :: t) | _ => none
  | .lcmp => match st with | .long y :: .long x :: t => some (pc + 1, ls, .int (lg_cmp x y) :: t) | _ => none
  | .dup => match st with | .int x :: t => some (pc + 1, ls, .int x :: .int x :: t) | .ref x :: t => some (pc + 1, ls, .ref x :: .ref x :: t) | _ => none
  | .dup2 => match st with | .int x :: .ref y :: t => some (pc + 1, ls, .int x :: .ref y :: .int x :: .ref y :: t) | _ => none
  | .pop => match st with | .int _ :: t => some (pc + 1, ls, t) | .ref _ :: t => some (pc + 1, ls, t) | _ => none
  | .goto off => if 0 ≤ (pc : Int) + off then some (zjmp pc off, ls, st) else none
  | .ifnull off => match st with | .ref _ :: t => some (pc + 3, ls, t) | .null :: t => if 0 ≤ (pc : Int) + off then some (zjmp pc off, ls, t) else none | _ => none
  | .ifnonnull off => match st with | .ref _ :: t => if 0 ≤ (pc : Int) + off then some (zjmp pc off, ls, t) else none | .null :: t => some (pc + 3, ls, t) | _ => none
  | _ => none
def zcmp (c : Jvm.ClassFile.Cond) (x y : Int32) : Prop := match c with
  | .eq => x = y
  | .ne => ¬ x = y
  | .lt => x < y
  | .ge => y ≤ x
  | .gt => y < x
  | .le => x ≤ y
-- classes: name, fields, types, how many
def zcR (ci : Nat) : String := match ci with | 0 => RX0 | 1 => RX1 | 2 => RX2 | 3 => RX3 | 4 => RX4 | 5 => RX5 | 6 => RX6 | 7 => RX7 | 8 => RX8 | 9 => RX9 | 10 => RX10 | 11 => RX11 | _ => RX12
def zcT (ci : Nat) : u_T := match ci with | 0 => TX0 | 1 => TX1 | 2 => TX2 | 3 => TX3 | 4 => TX4 | 5 => TX5 | 6 => TX6 | 7 => TX7 | 8 => TX8 | 9 => TX9 | 10 => TX10 | 11 => TX11 | _ => TX12
def zcY (ci : Nat) : Nat → FieldType := match ci with | 0 => tyX0 | 1 => tyX1 | 2 => tyX2 | 3 => tyX3 | 4 => tyX4 | 5 => tyX5 | 6 => tyX6 | 7 => tyX7 | 8 => tyX8 | 9 => tyX9 | 10 => tyX10 | 11 => tyX11 | _ => tyX12
def zcN (ci : Nat) : Nat := match ci with | 0 => 11 | 1 => 3 | 2 => 5 | 3 => 5 | 4 => 4 | 5 => 16 | 6 => 18 | 7 => 6 | 8 => 6 | 9 => 5 | 10 => 2 | 11 => 13 | _ => 75
/-- a field is a reference -/
def zrf (ci k : Nat) : Bool := match zcY ci k with | .object _ => true | .array _ => true | _ => false
/-- what an instruction that names a field links: (class, slot) -/
def zF (own : String) (idx ci k : Nat) : Prop := ci < 13 ∧ k < zcN ci ∧ (Cond.fieldLink own idx (zcT ci k).1 (zcT ci k).2.1 (zcT ci k).2.2.1 ∈ zT ∨ ∃ h, Cond.fieldLinkNest own idx (zcT ci k).1 (zcT ci k).2.1 (zcT ci k).2.2.1 h ∈ lw_tbl)
def zFput (own : String) (idx ci k : Nat) (k0 : zK) : Prop := ci < 13 ∧ k < zcN ci ∧ Cond.fieldLink own idx (zcT ci k).1 (zcT ci k).2.1 (zcT ci k).2.2.1 ∈ zT ∧ ((zcT ci k).2.2.2 = false ∨ (k0.2.2.2.2.name = "<init>" ∧ (zcT ci k).1 = own))
/-- a callee -/
def zM (y : zK) (n : Nat) : Prop := Cond.code y.2.2.2.2 y.1 y.2.2.1 y.2.2.2.1 ∈ zT ∧ Cond.initialized y.2.2.2.2.cls ∈ zT ∧ y.2.1 = y.2.2.2.2.cls ∧ plainName y.2.2.2.2.cls = true ∧ y.2.2.2.2.cls ≠ "java/lang/invoke/MethodHandle" ∧ y.2.2.2.2.cls ≠ "java/lang/invoke/VarHandle" ∧ (parseMethodDescriptor y.2.2.2.2.desc).map (fun d => d.parameters.length) = some n ∧ y.2.2.1 ≤ 18
def zlink (own : String) (idx : Nat) (y : MethodName) : Prop := Cond.methodLink own idx y ∈ zT ∨ ∃ h, Cond.methodLinkNest own idx y h ∈ lw_tbl
def zgl (own : String) (idx : Nat) (n : String) : Prop := Cond.fieldLink own idx RX11 n "[I" ∈ zT ∨ ∃ h, Cond.fieldLinkNest own idx RX11 n "[I" h ∈ lw_tbl
def zRet (k : zK) (pc : Nat) (v : Option Value) : Prop := match v with
  | none => decode k.1 pc = .ok (.return_, 1) ∧ k.2.2.2.1 = none
  | some (.int x) => decode k.1 pc = .ok (.ireturn, 1) ∧ ∃ ty, k.2.2.2.1 = some ty ∧ narrow ty (.int x) = .int x
  | some (.long _) => decode k.1 pc = .ok (.lreturn, 1) ∧ k.2.2.2.1 = some .long
  | some (.ref _) => decode k.1 pc = .ok (.areturn, 1) ∧ ∃ ty, k.2.2.2.1 = some (.object ty)
  | some .null => decode k.1 pc = .ok (.areturn, 1) ∧ ∃ ty, k.2.2.2.1 = some (.object ty)
  | _ => False
def zcpy (f g : Nat → Int32) (sp dp n : Nat) : Nat → Int32 := va_cpy f g sp dp n
/-- one row of ints takes the place of another -/
def zrow (I : zI) (a : Nat) (f : Nat → Int32) : zI := fun b => if b = a then f else I b
def zZsh (Z : zZ) (sh : Nat × Nat) (n : Nat) : zZ := (Z.1 + 1, Z.2.1 + n, (fun b => if b = Z.1 then sh else Z.2.2.1 b), fun b => if b = Z.1 then fun _ => none else Z.2.2.2 b)
def zZr (Z : zZ) (a k b : Nat) : zZ := (Z.1, Z.2.1, Z.2.2.1, zu Z.2.2.2 a k (some b))
def zzero (I : zI) (a : Nat) : zI := fun b => if b = a then fun _ => 0 else I b
def zzeroJ (J : zJ) (a : Nat) : zJ := fun b => if b = a then fun _ => 0 else J b
def zkind (t : ArrayType) : Nat := match newarray.typeOf t with | .int => 1 | .long => 2 | .byte => 3 | .boolean => 4 | _ => 9
-- THE RULES
def zr_step (P : zPr) : Prop := ∀ d k pc ls st Z I J o i pc' ls' st', decode k.1 pc = .ok (i, zlen i) → zstep i pc ls st = some (pc', ls', st') → P d k pc' ls' st' Z I J o → P d k pc ls st Z I J o
def zr_div (P : zPr) : Prop := ∀ d k pc ls st Z I J o x y, decode k.1 pc = .ok (.idiv, 1) → ¬ y = 0 → P d k (pc + 1) ls (.int (x / y) :: st) Z I J o → P d k pc ls (.int y :: .int x :: st) Z I J o
def zr_rem (P : zPr) : Prop := ∀ d k pc ls st Z I J o x y, decode k.1 pc = .ok (.irem, 1) → ¬ y = 0 → P d k (pc + 1) ls (.int (x - x / y * y) :: st) Z I J o → P d k pc ls (.int y :: .int x :: st) Z I J o
def zr_icmp (P : zPr) : Prop := ∀ d k pc ls st Z I J o x y c off (pc' : Nat), decode k.1 pc = .ok (.if_icmp c off, 3) → (pc : Int) + off = (pc' : Int) → (zcmp c x y → P d k pc' ls st Z I J o) → (¬ zcmp c x y → P d k (pc + 3) ls st Z I J o) → P d k pc ls (.int y :: .int x :: st) Z I J o
def zr_if (P : zPr) : Prop := ∀ d k pc ls st Z I J o x c off (pc' : Nat), decode k.1 pc = .ok (.ifCond c off, 3) → (pc : Int) + off = (pc' : Int) → (zcmp c x 0 → P d k pc' ls st Z I J o) → (¬ zcmp c x 0 → P d k (pc + 3) ls st Z I J o) → P d k pc ls (.int x :: st) Z I J o
def zr_tabIn (P : zPr) : Prop := ∀ d k pc ls st Z I J o (x : Int32) (dflt lo hi : Int) (offs : Array Int) (len : Nat) (off : Int) (pc' : Nat), decode k.1 pc = .ok (.tableswitch dflt lo hi offs, len) → ¬ x.toInt < lo → ¬ hi < x.toInt → offs[(x.toInt - lo).toNat]? = some off → (pc : Int) + off = (pc' : Int) → P d k pc' ls st Z I J o → P d k pc ls (.int x :: st) Z I J o
def zr_tabOut (P : zPr) : Prop := ∀ d k pc ls st Z I J o (x : Int32) (dflt lo hi : Int) (offs : Array Int) (len : Nat) (pc' : Nat), decode k.1 pc = .ok (.tableswitch dflt lo hi offs, len) → (x.toInt < lo ∨ hi < x.toInt) → (pc : Int) + dflt = (pc' : Int) → P d k pc' ls st Z I J o → P d k pc ls (.int x :: st) Z I J o
def zr_ldc (P : zPr) : Prop := ∀ d k pc ls st Z I J o idx v, decode k.1 pc = .ok (.ldc idx, 2) → Cond.constant k.2.1 idx v ∈ zT → P d k (pc + 2) ls (.int v :: st) Z I J o → P d k pc ls st Z I J o
def zr_ldcw (P : zPr) : Prop := ∀ d k pc ls st Z I J o idx v, decode k.1 pc = .ok (.ldc_w idx, 3) → Cond.constant k.2.1 idx v ∈ zT → P d k (pc + 3) ls (.int v :: st) Z I J o → P d k pc ls st Z I J o
def zr_ldc2 (P : zPr) : Prop := ∀ d k pc ls st Z I J o idx v, decode k.1 pc = .ok (.ldc2_w idx, 3) → Cond.constantLong k.2.1 idx v ∈ zT → P d k (pc + 3) ls (.long v :: st) Z I J o → P d k pc ls st Z I J o
def zr_less (P : zPr) : Prop := ∀ d k pc ls ls' st Z I J o, zle ls' ls → P d k pc ls' st Z I J o → P d k pc ls st Z I J o
def zr_geti (P : zPr) : Prop := ∀ d k pc ls st Z I J o idx ci f a, decode k.1 pc = .ok (.getfield idx, 3) → zF k.2.1 idx ci f → zis Z a 0 ci → zrf ci f = false → P d k (pc + 3) ls (.int (I a f) :: st) Z I J o → P d k pc ls (.ref a :: st) Z I J o
def zr_getr (P : zPr) : Prop := ∀ d k pc ls st Z I J o idx ci f a b, decode k.1 pc = .ok (.getfield idx, 3) → zF k.2.1 idx ci f → zis Z a 0 ci → zrf ci f = true → Z.2.2.2 a f = some b → P d k (pc + 3) ls (.ref b :: st) Z I J o → P d k pc ls (.ref a :: st) Z I J o
def zr_puti (P : zPr) : Prop := ∀ d k pc ls st Z I J o idx ci f a x, decode k.1 pc = .ok (.putfield idx, 3) → zFput k.2.1 idx ci f k → zis Z a 0 ci → zrf ci f = false → narrow (zcY ci f) (.int x) = .int x ∧ fits (zcY ci f) (.int x) = true → P d k (pc + 3) ls st Z (zu I a f x) J o → P d k pc ls (.int x :: .ref a :: st) Z I J o
def zr_putr (P : zPr) : Prop := ∀ d k pc ls st Z I J o idx ci f a b, decode k.1 pc = .ok (.putfield idx, 3) → zFput k.2.1 idx ci f k → zis Z a 0 ci → zrf ci f = true → P d k (pc + 3) ls st (zZr Z a f b) I J o → P d k pc ls (.ref b :: .ref a :: st) Z I J o
def zr_gets (P : zPr) : Prop := ∀ d k pc ls st Z I J o idx b, decode k.1 pc = .ok (.getstatic idx, 3) → (b = 1000001 ∧ zgl k.2.1 idx "STEP_X" ∨ b = 1000002 ∧ zgl k.2.1 idx "STEP_Y") → P d k (pc + 3) ls (.ref b :: st) Z I J o → P d k pc ls st Z I J o
def zr_iald (P : zPr) : Prop := ∀ d k pc ls st Z I J o a n i, decode k.1 pc = .ok (.iaload, 1) → (zis Z a 1 n ∨ zro Z a n) → vp_in i n → P d k (pc + 1) ls (.int (I a i.toNatClampNeg) :: st) Z I J o → P d k pc ls (.int i :: .ref a :: st) Z I J o
def zr_bald (P : zPr) : Prop := ∀ d k pc ls st Z I J o a n i, decode k.1 pc = .ok (.baload, 1) → (zis Z a 3 n ∨ zis Z a 4 n) → vp_in i n → P d k (pc + 1) ls (.int (I a i.toNatClampNeg) :: st) Z I J o → P d k pc ls (.int i :: .ref a :: st) Z I J o
def zr_lald (P : zPr) : Prop := ∀ d k pc ls st Z I J o a n i, decode k.1 pc = .ok (.laload, 1) → zis Z a 2 n → vp_in i n → P d k (pc + 1) ls (.long (J a i.toNatClampNeg) :: st) Z I J o → P d k pc ls (.int i :: .ref a :: st) Z I J o
def zr_aald (P : zPr) : Prop := ∀ d k pc ls st Z I J o a n i b, decode k.1 pc = .ok (.aaload, 1) → zis Z a 5 n → vp_in i n → Z.2.2.2 a i.toNatClampNeg = some b → P d k (pc + 1) ls (.ref b :: st) Z I J o → P d k pc ls (.int i :: .ref a :: st) Z I J o
def zr_iast (P : zPr) : Prop := ∀ d k pc ls st Z I J o a n i x, decode k.1 pc = .ok (.iastore, 1) → zis Z a 1 n → vp_in i n → P d k (pc + 1) ls st Z (zu I a i.toNatClampNeg x) J o → P d k pc ls (.int x :: .int i :: .ref a :: st) Z I J o
def zr_bast (P : zPr) : Prop := ∀ d k pc ls st Z I J o a n i x, decode k.1 pc = .ok (.bastore, 1) → zis Z a 3 n → vp_in i n → P d k (pc + 1) ls st Z (zu I a i.toNatClampNeg (vp_nar .byte x)) J o → P d k pc ls (.int x :: .int i :: .ref a :: st) Z I J o
def zr_zast (P : zPr) : Prop := ∀ d k pc ls st Z I J o a n i x, decode k.1 pc = .ok (.bastore, 1) → zis Z a 4 n → vp_in i n → P d k (pc + 1) ls st Z (zu I a i.toNatClampNeg (vp_nar .boolean x)) J o → P d k pc ls (.int x :: .int i :: .ref a :: st) Z I J o
def zr_last (P : zPr) : Prop := ∀ d k pc ls st Z I J o a n i x, decode k.1 pc = .ok (.lastore, 1) → zis Z a 2 n → vp_in i n → P d k (pc + 1) ls st Z I (zu J a i.toNatClampNeg x) o → P d k pc ls (.long x :: .int i :: .ref a :: st) Z I J o
def zr_aast (P : zPr) : Prop := ∀ d k pc ls st Z I J o a n i b, decode k.1 pc = .ok (.aastore, 1) → zis Z a 5 n → vp_in i n → zis Z b 0 0 → P d k (pc + 1) ls st (zZr Z a i.toNatClampNeg b) I J o → P d k pc ls (.ref b :: .int i :: .ref a :: st) Z I J o
def zr_alen (P : zPr) : Prop := ∀ d k pc ls st Z I J o a kd n, decode k.1 pc = .ok (.arraylength, 1) → (zis Z a kd n ∧ 1 ≤ kd ∧ kd ≤ 5 ∨ zro Z a n) → P d k (pc + 1) ls (.int (Int32.ofNat n) :: st) Z I J o → P d k pc ls (.ref a :: st) Z I J o
def zr_new (P : zPr) : Prop := ∀ d k pc ls st (Z : zZ) I J o idx ci, decode k.1 pc = .ok (.new idx, 3) → ci < 13 → Cond.classLink k.2.1 idx (zcR ci) ∈ zT → Z.1 < 999999 → P d k (pc + 3) ls (.ref Z.1 :: st) (zZsh Z (0, ci) (zcN ci)) (zzero I Z.1) J o → P d k pc ls st Z I J o
def zr_newa (P : zPr) : Prop := ∀ d k pc ls st (Z : zZ) I J o t n N, decode k.1 pc = .ok (.newarray t, 2) → zkind t ≤ 4 → Cond.arrayClass (newarray.typeOf t) ∈ zT → ¬ n < 0 → n.toNatClampNeg = N → N ≤ 100000 → Z.1 < 999999 → P d k (pc + 2) ls (.ref Z.1 :: st) (zZsh Z (zkind t, N) N) (zzero I Z.1) (zzeroJ J Z.1) o → P d k pc ls (.int n :: st) Z I J o
def zr_newq (P : zPr) : Prop := ∀ d k pc ls st (Z : zZ) I J o idx n N, decode k.1 pc = .ok (.anewarray idx, 3) → Cond.classLink k.2.1 idx RX0 ∈ zT → ¬ n < 0 → n.toNatClampNeg = N → N ≤ 100000 → Z.1 < 999999 → P d k (pc + 3) ls (.ref Z.1 :: st) (zZsh Z (5, N) N) I J o → P d k pc ls (.int n :: st) Z I J o
def zr_obj (P : zPr) : Prop := ∀ d k pc ls st Z I J o idx a, 1 ≤ d → decode k.1 pc = .ok (.invokespecial idx, 3) → Cond.methodLink k.2.1 idx objectInit ∈ zT → (st.map (fun v => v.category)).sum ≤ 8 → P d k (pc + 3) ls st Z I J o → P d k pc ls (.ref a :: st) Z I J o
def zr_callS (P : zPr) : Prop := ∀ d k pc ls st (Z : zZ) I J o idx (y : zK) as n v Z1 I1 J1, decode k.1 pc = .ok (.invokestatic idx, 3) → zM y n → zlink k.2.1 idx y.2.2.2.2 → Cond.static y.2.2.2.2 ∈ zT → as.length = n → (zarg as).length ≤ y.2.2.1 → (st.map (fun v => v.category)).sum ≤ 8 → P d y 0 (zin y.2.2.1 as) [] Z I J (v, Z1, I1, J1) → P (d + 1) k (pc + 3) ls (v.toList ++ st) Z1 I1 J1 o → P (d + 1) k pc ls (as.reverse ++ st) Z I J o
def zr_callV (P : zPr) : Prop := ∀ d k pc ls st (Z : zZ) I J o idx (y : zK) as n v Z1 I1 J1 b ci, decode k.1 pc = .ok (.invokevirtual idx, 3) → zM y n → zlink k.2.1 idx y.2.2.2.2 → Cond.instanceMethod y.2.2.2.2 ∈ zT → Cond.selects (zcR ci) y.2.2.2.2 y.2.2.2.2 ∈ zT → ci < 13 → zis Z b 0 ci → as.length = n → (zarg (.ref b :: as)).length ≤ y.2.2.1 → (st.map (fun v => v.category)).sum ≤ 8 → P d y 0 (zin y.2.2.1 (.ref b :: as)) [] Z I J (v, Z1, I1, J1) → P (d + 1) k (pc + 3) ls (v.toList ++ st) Z1 I1 J1 o → P (d + 1) k pc ls (as.reverse ++ .ref b :: st) Z I J o
def zr_callI (P : zPr) : Prop := ∀ d k pc ls st (Z : zZ) I J o idx (y : zK) as n Z1 I1 J1 b, decode k.1 pc = .ok (.invokespecial idx, 3) → zM y n → zlink k.2.1 idx y.2.2.2.2 → Cond.instanceMethod y.2.2.2.2 ∈ zT → y.2.2.2.2.name = "<init>" → y.2.2.2.1 = none → as.length = n → (zarg (.ref b :: as)).length ≤ y.2.2.1 → (st.map (fun v => v.category)).sum ≤ 8 → P d y 0 (zin y.2.2.1 (.ref b :: as)) [] Z I J (none, Z1, I1, J1) → P (d + 1) k (pc + 3) ls st Z1 I1 J1 o → P (d + 1) k pc ls (as.reverse ++ .ref b :: st) Z I J o
def zr_max (P : zPr) : Prop := ∀ d k pc ls st Z I J o idx x y, 1 ≤ d → decode k.1 pc = .ok (.invokestatic idx, 3) → Cond.methodLink k.2.1 idx Lib.Math.max.name ∈ zT → (st.map (fun v => v.category)).sum ≤ 8 → P d k (pc + 3) ls (.int (if x < y then y else x) :: st) Z I J o → P d k pc ls (.int y :: .int x :: st) Z I J o
def zr_min (P : zPr) : Prop := ∀ d k pc ls st Z I J o idx x y, 1 ≤ d → decode k.1 pc = .ok (.invokestatic idx, 3) → Cond.methodLink k.2.1 idx Lib.Math.min.name ∈ zT → (st.map (fun v => v.category)).sum ≤ 8 → P d k (pc + 3) ls (.int (if y < x then y else x) :: st) Z I J o → P d k pc ls (.int y :: .int x :: st) Z I J o
def zr_abs (P : zPr) : Prop := ∀ d k pc ls st Z I J o idx x, 1 ≤ d → decode k.1 pc = .ok (.invokestatic idx, 3) → Cond.methodLink k.2.1 idx Lib.Math.abs.name ∈ zT → (st.map (fun v => v.category)).sum ≤ 8 → P d k (pc + 3) ls (.int (if 0 ≤ x then x else 0 - x) :: st) Z I J o → P d k pc ls (.int x :: st) Z I J o
def zr_copy (P : zPr) : Prop := ∀ d k pc ls st Z I J o idx a0 a n0 n1 sp dp n, 1 ≤ d → decode k.1 pc = .ok (.invokestatic idx, 3) → Cond.methodLink k.2.1 idx arraycopyName ∈ zT → zis Z a0 1 n0 → zis Z a 1 n1 → ¬ sp < 0 → ¬ dp < 0 → ¬ n < 0 → sp.toNatClampNeg + n.toNatClampNeg ≤ n0 → dp.toNatClampNeg + n.toNatClampNeg ≤ n1 → (st.map (fun v => v.category)).sum ≤ 8 → P d k (pc + 3) ls st Z (zrow I a (zcpy (I a0) (I a) sp.toNatClampNeg dp.toNatClampNeg n.toNatClampNeg)) J o → P d k pc ls (.int n :: .int dp :: .ref a :: .int sp :: .ref a0 :: st) Z I J o
def zr_ret (P : zPr) : Prop := ∀ d k pc ls Z I J v, zRet k pc v → P d k pc ls v.toList Z I J (v, Z, I, J)
def zrb (Z : zZ) (a n : Nat) : Prop := (a = 1000005 ∨ a = 1000006) ∧ Z.2.2.1 a = (3, n)
def zstr (b : Nat) : Prop := b = 1000003 ∨ b = 1000004
def zr_ldcs (P : zPr) : Prop := ∀ d k pc ls st Z I J o idx b, decode k.1 pc = .ok (.ldc idx, 2) → (k.2.1 = RX8 ∧ (idx = 28 ∧ b = 1000003 ∨ idx = 80 ∧ b = 1000004)) → P d k (pc + 2) ls (.ref b :: st) Z I J o → P d k pc ls st Z I J o
def zr_getv (P : zPr) : Prop := ∀ d k pc ls st Z I J o idx b, decode k.1 pc = .ok (.getfield idx, 3) → Cond.fieldLink k.2.1 idx "java/lang/String" "value" "[B" ∈ zT → zstr b → P d k (pc + 3) ls (.ref (b + 2) :: st) Z I J o → P d k pc ls (.ref b :: st) Z I J o
def zr_getc (P : zPr) : Prop := ∀ d k pc ls st Z I J o idx b, decode k.1 pc = .ok (.getfield idx, 3) → Cond.fieldLink k.2.1 idx "java/lang/String" "coder" "B" ∈ zT → zstr b → P d k (pc + 3) ls (.int 0 :: st) Z I J o → P d k pc ls (.ref b :: st) Z I J o
def zr_cmpS (P : zPr) : Prop := ∀ d k pc ls st Z I J o idx, decode k.1 pc = .ok (.getstatic idx, 3) → Cond.fieldLink k.2.1 idx "java/lang/String" "COMPACT_STRINGS" "Z" ∈ zT → P d k (pc + 3) ls (.int 1 :: st) Z I J o → P d k pc ls st Z I J o
def zr_fmt (P : zPr) : Prop := ∀ d k pc ls st Z I J o idx, decode k.1 pc = .ok (.getstatic idx, 3) → Cond.fieldLink k.2.1 idx "jdk/internal/util/Preconditions" "SIOOBE_FORMATTER" "Ljava/util/function/BiFunction;" ∈ zT → P d k (pc + 3) ls (.ref 1000007 :: st) Z I J o → P d k (pc + 3) ls (.null :: st) Z I J o → P d k pc ls st Z I J o
def zr_balr (P : zPr) : Prop := ∀ d k pc ls st Z I J o a n i, decode k.1 pc = .ok (.baload, 1) → zrb Z a n → vp_in i n → P d k (pc + 1) ls (.int (I a i.toNatClampNeg) :: st) Z I J o → P d k pc ls (.int i :: .ref a :: st) Z I J o
def zr_alenr (P : zPr) : Prop := ∀ d k pc ls st Z I J o a n, decode k.1 pc = .ok (.arraylength, 1) → zrb Z a n → P d k (pc + 1) ls (.int (Int32.ofNat n) :: st) Z I J o → P d k pc ls (.ref a :: st) Z I J o
def zr_callK (P : zPr) : Prop := ∀ d k pc ls st (Z : zZ) I J o idx (y : zK) as n v Z1 I1 J1 b, decode k.1 pc = .ok (.invokevirtual idx, 3) → zM y n → zlink k.2.1 idx y.2.2.2.2 → Cond.instanceMethod y.2.2.2.2 ∈ zT → Cond.selects "java/lang/String" y.2.2.2.2 y.2.2.2.2 ∈ zT → zstr b → as.length = n → (zarg (.ref b :: as)).length ≤ y.2.2.1 → (st.map (fun v => v.category)).sum ≤ 8 → P d y 0 (zin y.2.2.1 (.ref b :: as)) [] Z I J (v, Z1, I1, J1) → P (d + 1) k (pc + 3) ls (v.toList ++ st) Z1 I1 J1 o → P (d + 1) k pc ls (as.reverse ++ .ref b :: st) Z I J o
def zr_i2c (P : zPr) : Prop := ∀ d k pc ls st Z I J o x, decode k.1 pc = .ok (.i2c, 1) → P d k (pc + 1) ls (.int (x.toUInt32 % 65536).toInt32 :: st) Z I J o → P d k pc ls (.int x :: st) Z I J o
def zrA (P : zPr) : Prop := zr_step P ∧ zr_div P ∧ zr_rem P ∧ zr_icmp P ∧ zr_if P ∧ zr_tabIn P ∧ zr_tabOut P ∧ zr_ldc P ∧ zr_ldcw P ∧ zr_ldc2 P ∧ zr_less P
def zrB (P : zPr) : Prop := zr_geti P ∧ zr_getr P ∧ zr_puti P ∧ zr_putr P ∧ zr_gets P ∧ zr_iald P ∧ zr_bald P ∧ zr_lald P ∧ zr_aald P ∧ zr_iast P ∧ zr_bast P ∧ zr_zast P ∧ zr_last P ∧ zr_aast P ∧ zr_alen P
def zrC (P : zPr) : Prop := zr_new P ∧ zr_newa P ∧ zr_newq P ∧ zr_obj P ∧ zr_callS P ∧ zr_callV P ∧ zr_callI P ∧ zr_max P ∧ zr_min P ∧ zr_abs P ∧ zr_copy P ∧ zr_ret P
def zrD (P : zPr) : Prop := zr_ldcs P ∧ zr_getv P ∧ zr_getc P ∧ zr_cmpS P ∧ zr_fmt P ∧ zr_balr P ∧ zr_alenr P ∧ zr_callK P ∧ zr_i2c P
def zClosed (P : zPr) : Prop := zrA P ∧ zrB P ∧ zrC P ∧ zrD P
/-- THE RUN: from a place in a method to its end -/
def zE : zPr := fun d k pc ls st Z I J o => ∀ P : zPr, zClosed P → P d k pc ls st Z I J o
theorem ex_step {d} {k} {pc} {ls} {st} {Z} {I} {J} {o} {i} {pc'} {ls'} {st'} (h0 : decode k.1 pc = .ok (i, zlen i)) (h1 : zstep i pc ls st = some (pc', ls', st')) (h2 : zE d k pc' ls' st' Z I J o) : zE d k pc ls st Z I J o := fun P hP => (hP.1.1) _ _ _ _ _ _ _ _ _ _ _ _ _ h0 h1 (h2 P hP)
theorem ex_div {d} {k} {pc} {ls} {st} {Z} {I} {J} {o} {x} {y} (h0 : decode k.1 pc = .ok (.idiv, 1)) (h1 : ¬ y = 0) (h2 : zE d k (pc + 1) ls (.int (x / y) :: st) Z I J o) : zE d k pc ls (.int y :: .int x :: st) Z I J o := fun P hP => (hP.1.2.1) _ _ _ _ _ _ _ _ _ _ _ h0 h1 (h2 P hP)
theorem ex_rem {d} {k} {pc} {ls} {st} {Z} {I} {J} {o} {x} {y} (h0 : decode k.1 pc = .ok (.irem, 1)) (h1 : ¬ y = 0) (h2 : zE d k (pc + 1) ls (.int (x - x / y * y) :: st) Z I J o) : zE d k pc ls (.int y :: .int x :: st) Z I J o := fun P hP => (hP.1.2.2.1) _ _ _ _ _ _ _ _ _ _ _ h0 h1 (h2 P hP)
theorem ex_icmp {d} {k} {pc} {ls} {st} {Z} {I} {J} {o} {x} {y} {c} {off} {pc' : Nat} (h0 : decode k.1 pc = .ok (.if_icmp c off, 3)) (h1 : (pc : Int) + off = (pc' : Int)) (h2 : (zcmp c x y → zE d k pc' ls st Z I J o)) (h3 : (¬ zcmp c x y → zE d k (pc + 3) ls st Z I J o)) : zE d k pc ls (.int y :: .int x :: st) Z I J o := fun P hP => (hP.1.2.2.2.1) _ _ _ _ _ _ _ _ _ _ _ _ _ _ h0 h1 (fun c => h2 c P hP) (fun c => h3 c P hP)
theorem ex_if {d} {k} {pc} {ls} {st} {Z} {I} {J} {o} {x} {c} {off} {pc' : Nat} (h0 : decode k.1 pc = .ok (.ifCond c off, 3)) (h1 : (pc : Int) + off = (pc' : Int)) (h2 : (zcmp c x 0 → zE d k pc' ls st Z I J o)) (h3 : (¬ zcmp c x 0 → zE d k (pc + 3) ls st Z I J o)) : zE d k pc ls (.int x :: st) Z I J o := fun P hP => (hP.1.2.2.2.2.1) _ _ _ _ _ _ _ _ _ _ _ _ _ h0 h1 (fun c => h2 c P hP) (fun c => h3 c P hP)
theorem ex_tabIn {d} {k} {pc} {ls} {st} {Z} {I} {J} {o} {x : Int32} {dflt lo hi : Int} {offs : Array Int} {len : Nat} {off : Int} {pc' : Nat} (h0 : decode k.1 pc = .ok (.tableswitch dflt lo hi offs, len)) (h1 : ¬ x.toInt < lo) (h2 : ¬ hi < x.toInt) (h3 : offs[(x.toInt - lo).toNat]? = some off) (h4 : (pc : Int) + off = (pc' : Int)) (h5 : zE d k pc' ls st Z I J o) : zE d k pc ls (.int x :: st) Z I J o := fun P hP => (hP.1.2.2.2.2.2.1) _ _ _ _ _ _ _ _ _ _ _ _ _ _ _ _ _ h0 h1 h2 h3 h4 (h5 P hP)
theorem ex_tabOut {d} {k} {pc} {ls} {st} {Z} {I} {J} {o} {x : Int32} {dflt lo hi : Int} {offs : Array Int} {len : Nat} {pc' : Nat} (h0 : decode k.1 pc = .ok (.tableswitch dflt lo hi offs, len)) (h1 : (x.toInt < lo ∨ hi < x.toInt)) (h2 : (pc : Int) + dflt = (pc' : Int)) (h3 : zE d k pc' ls st Z I J o) : zE d k pc ls (.int x :: st) Z I J o := fun P hP => (hP.1.2.2.2.2.2.2.1) _ _ _ _ _ _ _ _ _ _ _ _ _ _ _ _ h0 h1 h2 (h3 P hP)
theorem ex_ldc {d} {k} {pc} {ls} {st} {Z} {I} {J} {o} {idx} {v} (h0 : decode k.1 pc = .ok (.ldc idx, 2)) (h1 : Cond.constant k.2.1 idx v ∈ zT) (h2 : zE d k (pc + 2) ls (.int v :: st) Z I J o) : zE d k pc ls st Z I J o := fun P hP => (hP.1.2.2.2.2.2.2.2.1) _ _ _ _ _ _ _ _ _ _ _ h0 h1 (h2 P hP)
theorem ex_ldcw {d} {k} {pc} {ls} {st} {Z} {I} {J} {o} {idx} {v} (h0 : decode k.1 pc = .ok (.ldc_w idx, 3)) (h1 : Cond.constant k.2.1 idx v ∈ zT) (h2 : zE d k (pc + 3) ls (.int v :: st) Z I J o) : zE d k pc ls st Z I J o := fun P hP => (hP.1.2.2.2.2.2.2.2.2.1) _ _ _ _ _ _ _ _ _ _ _ h0 h1 (h2 P hP)
theorem ex_ldc2 {d} {k} {pc} {ls} {st} {Z} {I} {J} {o} {idx} {v} (h0 : decode k.1 pc = .ok (.ldc2_w idx, 3)) (h1 : Cond.constantLong k.2.1 idx v ∈ zT) (h2 : zE d k (pc + 3) ls (.long v :: st) Z I J o) : zE d k pc ls st Z I J o := fun P hP => (hP.1.2.2.2.2.2.2.2.2.2.1) _ _ _ _ _ _ _ _ _ _ _ h0 h1 (h2 P hP)
theorem ex_less {d} {k} {pc} {ls} {ls'} {st} {Z} {I} {J} {o} (h0 : zle ls' ls) (h1 : zE d k pc ls' st Z I J o) : zE d k pc ls st Z I J o := fun P hP => (hP.1.2.2.2.2.2.2.2.2.2.2) _ _ _ _ _ _ _ _ _ _ h0 (h1 P hP)
theorem ex_geti {d} {k} {pc} {ls} {st} {Z} {I} {J} {o} {idx} {ci} {f} {a} (h0 : decode k.1 pc = .ok (.getfield idx, 3)) (h1 : zF k.2.1 idx ci f) (h2 : zis Z a 0 ci) (h3 : zrf ci f = false) (h4 : zE d k (pc + 3) ls (.int (I a f) :: st) Z I J o) : zE d k pc ls (.ref a :: st) Z I J o := fun P hP => (hP.2.1.1) _ _ _ _ _ _ _ _ _ _ _ _ _ h0 h1 h2 h3 (h4 P hP)
theorem ex_getr {d} {k} {pc} {ls} {st} {Z} {I} {J} {o} {idx} {ci} {f} {a} {b} (h0 : decode k.1 pc = .ok (.getfield idx, 3)) (h1 : zF k.2.1 idx ci f) (h2 : zis Z a 0 ci) (h3 : zrf ci f = true) (h4 : Z.2.2.2 a f = some b) (h5 : zE d k (pc + 3) ls (.ref b :: st) Z I J o) : zE d k pc ls (.ref a :: st) Z I J o := fun P hP => (hP.2.1.2.1) _ _ _ _ _ _ _ _ _ _ _ _ _ _ h0 h1 h2 h3 h4 (h5 P hP)
theorem ex_puti {d} {k} {pc} {ls} {st} {Z} {I} {J} {o} {idx} {ci} {f} {a} {x} (h0 : decode k.1 pc = .ok (.putfield idx, 3)) (h1 : zFput k.2.1 idx ci f k) (h2 : zis Z a 0 ci) (h3 : zrf ci f = false) (h4 : narrow (zcY ci f) (.int x) = .int x ∧ fits (zcY ci f) (.int x) = true) (h5 : zE d k (pc + 3) ls st Z (zu I a f x) J o) : zE d k pc ls (.int x :: .ref a :: st) Z I J o := fun P hP => (hP.2.1.2.2.1) _ _ _ _ _ _ _ _ _ _ _ _ _ _ h0 h1 h2 h3 h4 (h5 P hP)
theorem ex_putr {d} {k} {pc} {ls} {st} {Z} {I} {J} {o} {idx} {ci} {f} {a} {b} (h0 : decode k.1 pc = .ok (.putfield idx, 3)) (h1 : zFput k.2.1 idx ci f k) (h2 : zis Z a 0 ci) (h3 : zrf ci f = true) (h4 : zE d k (pc + 3) ls st (zZr Z a f b) I J o) : zE d k pc ls (.ref b :: .ref a :: st) Z I J o := fun P hP => (hP.2.1.2.2.2.1) _ _ _ _ _ _ _ _ _ _ _ _ _ _ h0 h1 h2 h3 (h4 P hP)
theorem ex_gets {d} {k} {pc} {ls} {st} {Z} {I} {J} {o} {idx} {b} (h0 : decode k.1 pc = .ok (.getstatic idx, 3)) (h1 : (b = 1000001 ∧ zgl k.2.1 idx "STEP_X" ∨ b = 1000002 ∧ zgl k.2.1 idx "STEP_Y")) (h2 : zE d k (pc + 3) ls (.ref b :: st) Z I J o) : zE d k pc ls st Z I J o := fun P hP => (hP.2.1.2.2.2.2.1) _ _ _ _ _ _ _ _ _ _ _ h0 h1 (h2 P hP)
theorem ex_iald {d} {k} {pc} {ls} {st} {Z} {I} {J} {o} {a} {n} {i} (h0 : decode k.1 pc = .ok (.iaload, 1)) (h1 : (zis Z a 1 n ∨ zro Z a n)) (h2 : vp_in i n) (h3 : zE d k (pc + 1) ls (.int (I a i.toNatClampNeg) :: st) Z I J o) : zE d k pc ls (.int i :: .ref a :: st) Z I J o := fun P hP => (hP.2.1.2.2.2.2.2.1) _ _ _ _ _ _ _ _ _ _ _ _ h0 h1 h2 (h3 P hP)
theorem ex_bald {d} {k} {pc} {ls} {st} {Z} {I} {J} {o} {a} {n} {i} (h0 : decode k.1 pc = .ok (.baload, 1)) (h1 : (zis Z a 3 n ∨ zis Z a 4 n)) (h2 : vp_in i n) (h3 : zE d k (pc + 1) ls (.int (I a i.toNatClampNeg) :: st) Z I J o) : zE d k pc ls (.int i :: .ref a :: st) Z I J o := fun P hP => (hP.2.1.2.2.2.2.2.2.1) _ _ _ _ _ _ _ _ _ _ _ _ h0 h1 h2 (h3 P hP)
theorem ex_lald {d} {k} {pc} {ls} {st} {Z} {I} {J} {o} {a} {n} {i} (h0 : decode k.1 pc = .ok (.laload, 1)) (h1 : zis Z a 2 n) (h2 : vp_in i n) (h3 : zE d k (pc + 1) ls (.long (J a i.toNatClampNeg) :: st) Z I J o) : zE d k pc ls (.int i :: .ref a :: st) Z I J o := fun P hP => (hP.2.1.2.2.2.2.2.2.2.1) _ _ _ _ _ _ _ _ _ _ _ _ h0 h1 h2 (h3 P hP)
theorem ex_aald {d} {k} {pc} {ls} {st} {Z} {I} {J} {o} {a} {n} {i} {b} (h0 : decode k.1 pc = .ok (.aaload, 1)) (h1 : zis Z a 5 n) (h2 : vp_in i n) (h3 : Z.2.2.2 a i.toNatClampNeg = some b) (h4 : zE d k (pc + 1) ls (.ref b :: st) Z I J o) : zE d k pc ls (.int i :: .ref a :: st) Z I J o := fun P hP => (hP.2.1.2.2.2.2.2.2.2.2.1) _ _ _ _ _ _ _ _ _ _ _ _ _ h0 h1 h2 h3 (h4 P hP)
theorem ex_iast {d} {k} {pc} {ls} {st} {Z} {I} {J} {o} {a} {n} {i} {x} (h0 : decode k.1 pc = .ok (.iastore, 1)) (h1 : zis Z a 1 n) (h2 : vp_in i n) (h3 : zE d k (pc + 1) ls st Z (zu I a i.toNatClampNeg x) J o) : zE d k pc ls (.int x :: .int i :: .ref a :: st) Z I J o := fun P hP => (hP.2.1.2.2.2.2.2.2.2.2.2.1) _ _ _ _ _ _ _ _ _ _ _ _ _ h0 h1 h2 (h3 P hP)
theorem ex_bast {d} {k} {pc} {ls} {st} {Z} {I} {J} {o} {a} {n} {i} {x} (h0 : decode k.1 pc = .ok (.bastore, 1)) (h1 : zis Z a 3 n) (h2 : vp_in i n) (h3 : zE d k (pc + 1) ls st Z (zu I a i.toNatClampNeg (vp_nar .byte x)) J o) : zE d k pc ls (.int x :: .int i :: .ref a :: st) Z I J o := fun P hP => (hP.2.1.2.2.2.2.2.2.2.2.2.2.1) _ _ _ _ _ _ _ _ _ _ _ _ _ h0 h1 h2 (h3 P hP)
theorem ex_zast {d} {k} {pc} {ls} {st} {Z} {I} {J} {o} {a} {n} {i} {x} (h0 : decode k.1 pc = .ok (.bastore, 1)) (h1 : zis Z a 4 n) (h2 : vp_in i n) (h3 : zE d k (pc + 1) ls st Z (zu I a i.toNatClampNeg (vp_nar .boolean x)) J o) : zE d k pc ls (.int x :: .int i :: .ref a :: st) Z I J o := fun P hP => (hP.2.1.2.2.2.2.2.2.2.2.2.2.2.1) _ _ _ _ _ _ _ _ _ _ _ _ _ h0 h1 h2 (h3 P hP)
theorem ex_last {d} {k} {pc} {ls} {st} {Z} {I} {J} {o} {a} {n} {i} {x} (h0 : decode k.1 pc = .ok (.lastore, 1)) (h1 : zis Z a 2 n) (h2 : vp_in i n) (h3 : zE d k (pc + 1) ls st Z I (zu J a i.toNatClampNeg x) o) : zE d k pc ls (.long x :: .int i :: .ref a :: st) Z I J o := fun P hP => (hP.2.1.2.2.2.2.2.2.2.2.2.2.2.2.1) _ _ _ _ _ _ _ _ _ _ _ _ _ h0 h1 h2 (h3 P hP)
theorem ex_aast {d} {k} {pc} {ls} {st} {Z} {I} {J} {o} {a} {n} {i} {b} (h0 : decode k.1 pc = .ok (.aastore, 1)) (h1 : zis Z a 5 n) (h2 : vp_in i n) (h3 : zis Z b 0 0) (h4 : zE d k (pc + 1) ls st (zZr Z a i.toNatClampNeg b) I J o) : zE d k pc ls (.ref b :: .int i :: .ref a :: st) Z I J o := fun P hP => (hP.2.1.2.2.2.2.2.2.2.2.2.2.2.2.2.1) _ _ _ _ _ _ _ _ _ _ _ _ _ h0 h1 h2 h3 (h4 P hP)
theorem ex_alen {d} {k} {pc} {ls} {st} {Z} {I} {J} {o} {a} {kd} {n} (h0 : decode k.1 pc = .ok (.arraylength, 1)) (h1 : (zis Z a kd n ∧ 1 ≤ kd ∧ kd ≤ 5 ∨ zro Z a n)) (h2 : zE d k (pc + 1) ls (.int (Int32.ofNat n) :: st) Z I J o) : zE d k pc ls (.ref a :: st) Z I J o := fun P hP => (hP.2.1.2.2.2.2.2.2.2.2.2.2.2.2.2.2) _ _ _ _ _ _ _ _ _ _ _ _ h0 h1 (h2 P hP)
theorem ex_new {d} {k} {pc} {ls} {st} {Z : zZ} {I} {J} {o} {idx} {ci} (h0 : decode k.1 pc = .ok (.new idx, 3)) (h1 : ci < 13) (h2 : Cond.classLink k.2.1 idx (zcR ci) ∈ zT) (h3 : Z.1 < 999999) (h4 : zE d k (pc + 3) ls (.ref Z.1 :: st) (zZsh Z (0, ci) (zcN ci)) (zzero I Z.1) J o) : zE d k pc ls st Z I J o := fun P hP => (hP.2.2.1.1) _ _ _ _ _ _ _ _ _ _ _ h0 h1 h2 h3 (h4 P hP)
theorem ex_newa {d} {k} {pc} {ls} {st} {Z : zZ} {I} {J} {o} {t} {n} {N} (h0 : decode k.1 pc = .ok (.newarray t, 2)) (h1 : zkind t ≤ 4) (h2 : Cond.arrayClass (newarray.typeOf t) ∈ zT) (h3 : ¬ n < 0) (h4 : n.toNatClampNeg = N) (h5 : N ≤ 100000) (h6 : Z.1 < 999999) (h7 : zE d k (pc + 2) ls (.ref Z.1 :: st) (zZsh Z (zkind t, N) N) (zzero I Z.1) (zzeroJ J Z.1) o) : zE d k pc ls (.int n :: st) Z I J o := fun P hP => (hP.2.2.1.2.1) _ _ _ _ _ _ _ _ _ _ _ _ h0 h1 h2 h3 h4 h5 h6 (h7 P hP)
theorem ex_newq {d} {k} {pc} {ls} {st} {Z : zZ} {I} {J} {o} {idx} {n} {N} (h0 : decode k.1 pc = .ok (.anewarray idx, 3)) (h1 : Cond.classLink k.2.1 idx RX0 ∈ zT) (h2 : ¬ n < 0) (h3 : n.toNatClampNeg = N) (h4 : N ≤ 100000) (h5 : Z.1 < 999999) (h6 : zE d k (pc + 3) ls (.ref Z.1 :: st) (zZsh Z (5, N) N) I J o) : zE d k pc ls (.int n :: st) Z I J o := fun P hP => (hP.2.2.1.2.2.1) _ _ _ _ _ _ _ _ _ _ _ _ h0 h1 h2 h3 h4 h5 (h6 P hP)
theorem ex_obj {d} {k} {pc} {ls} {st} {Z} {I} {J} {o} {idx} {a} (h0 : 1 ≤ d) (h1 : decode k.1 pc = .ok (.invokespecial idx, 3)) (h2 : Cond.methodLink k.2.1 idx objectInit ∈ zT) (h3 : (st.map (fun v => v.category)).sum ≤ 8) (h4 : zE d k (pc + 3) ls st Z I J o) : zE d k pc ls (.ref a :: st) Z I J o := fun P hP => (hP.2.2.1.2.2.2.1) _ _ _ _ _ _ _ _ _ _ _ h0 h1 h2 h3 (h4 P hP)
theorem ex_callS {d} {k} {pc} {ls} {st} {Z : zZ} {I} {J} {o} {idx} {y : zK} {as} {n} {v} {Z1} {I1} {J1} (h0 : decode k.1 pc = .ok (.invokestatic idx, 3)) (h1 : zM y n) (h2 : zlink k.2.1 idx y.2.2.2.2) (h3 : Cond.static y.2.2.2.2 ∈ zT) (h4 : as.length = n) (h5 : (zarg as).length ≤ y.2.2.1) (h6 : (st.map (fun v => v.category)).sum ≤ 8) (h7 : zE d y 0 (zin y.2.2.1 as) [] Z I J (v, Z1, I1, J1)) (h8 : zE (d + 1) k (pc + 3) ls (v.toList ++ st) Z1 I1 J1 o) : zE (d + 1) k pc ls (as.reverse ++ st) Z I J o := fun P hP => (hP.2.2.1.2.2.2.2.1) _ _ _ _ _ _ _ _ _ _ _ _ _ _ _ _ _ h0 h1 h2 h3 h4 h5 h6 (h7 P hP) (h8 P hP)
theorem ex_callV {d} {k} {pc} {ls} {st} {Z : zZ} {I} {J} {o} {idx} {y : zK} {as} {n} {v} {Z1} {I1} {J1} {b} {ci} (h0 : decode k.1 pc = .ok (.invokevirtual idx, 3)) (h1 : zM y n) (h2 : zlink k.2.1 idx y.2.2.2.2) (h3 : Cond.instanceMethod y.2.2.2.2 ∈ zT) (h4 : Cond.selects (zcR ci) y.2.2.2.2 y.2.2.2.2 ∈ zT) (h5 : ci < 13) (h6 : zis Z b 0 ci) (h7 : as.length = n) (h8 : (zarg (.ref b :: as)).length ≤ y.2.2.1) (h9 : (st.map (fun v => v.category)).sum ≤ 8) (h10 : zE d y 0 (zin y.2.2.1 (.ref b :: as)) [] Z I J (v, Z1, I1, J1)) (h11 : zE (d + 1) k (pc + 3) ls (v.toList ++ st) Z1 I1 J1 o) : zE (d + 1) k pc ls (as.reverse ++ .ref b :: st) Z I J o := fun P hP => (hP.2.2.1.2.2.2.2.2.1) _ _ _ _ _ _ _ _ _ _ _ _ _ _ _ _ _ _ _ h0 h1 h2 h3 h4 h5 h6 h7 h8 h9 (h10 P hP) (h11 P hP)
theorem ex_callI {d} {k} {pc} {ls} {st} {Z : zZ} {I} {J} {o} {idx} {y : zK} {as} {n} {Z1} {I1} {J1} {b} (h0 : decode k.1 pc = .ok (.invokespecial idx, 3)) (h1 : zM y n) (h2 : zlink k.2.1 idx y.2.2.2.2) (h3 : Cond.instanceMethod y.2.2.2.2 ∈ zT) (h4 : y.2.2.2.2.name = "<init>") (h5 : y.2.2.2.1 = none) (h6 : as.length = n) (h7 : (zarg (.ref b :: as)).length ≤ y.2.2.1) (h8 : (st.map (fun v => v.category)).sum ≤ 8) (h9 : zE d y 0 (zin y.2.2.1 (.ref b :: as)) [] Z I J (none, Z1, I1, J1)) (h10 : zE (d + 1) k (pc + 3) ls st Z1 I1 J1 o) : zE (d + 1) k pc ls (as.reverse ++ .ref b :: st) Z I J o := fun P hP => (hP.2.2.1.2.2.2.2.2.2.1) _ _ _ _ _ _ _ _ _ _ _ _ _ _ _ _ _ h0 h1 h2 h3 h4 h5 h6 h7 h8 (h9 P hP) (h10 P hP)
theorem ex_max {d} {k} {pc} {ls} {st} {Z} {I} {J} {o} {idx} {x} {y} (h0 : 1 ≤ d) (h1 : decode k.1 pc = .ok (.invokestatic idx, 3)) (h2 : Cond.methodLink k.2.1 idx Lib.Math.max.name ∈ zT) (h3 : (st.map (fun v => v.category)).sum ≤ 8) (h4 : zE d k (pc + 3) ls (.int (if x < y then y else x) :: st) Z I J o) : zE d k pc ls (.int y :: .int x :: st) Z I J o := fun P hP => (hP.2.2.1.2.2.2.2.2.2.2.1) _ _ _ _ _ _ _ _ _ _ _ _ h0 h1 h2 h3 (h4 P hP)
theorem ex_min {d} {k} {pc} {ls} {st} {Z} {I} {J} {o} {idx} {x} {y} (h0 : 1 ≤ d) (h1 : decode k.1 pc = .ok (.invokestatic idx, 3)) (h2 : Cond.methodLink k.2.1 idx Lib.Math.min.name ∈ zT) (h3 : (st.map (fun v => v.category)).sum ≤ 8) (h4 : zE d k (pc + 3) ls (.int (if y < x then y else x) :: st) Z I J o) : zE d k pc ls (.int y :: .int x :: st) Z I J o := fun P hP => (hP.2.2.1.2.2.2.2.2.2.2.2.1) _ _ _ _ _ _ _ _ _ _ _ _ h0 h1 h2 h3 (h4 P hP)
theorem ex_abs {d} {k} {pc} {ls} {st} {Z} {I} {J} {o} {idx} {x} (h0 : 1 ≤ d) (h1 : decode k.1 pc = .ok (.invokestatic idx, 3)) (h2 : Cond.methodLink k.2.1 idx Lib.Math.abs.name ∈ zT) (h3 : (st.map (fun v => v.category)).sum ≤ 8) (h4 : zE d k (pc + 3) ls (.int (if 0 ≤ x then x else 0 - x) :: st) Z I J o) : zE d k pc ls (.int x :: st) Z I J o := fun P hP => (hP.2.2.1.2.2.2.2.2.2.2.2.2.1) _ _ _ _ _ _ _ _ _ _ _ h0 h1 h2 h3 (h4 P hP)
theorem ex_copy {d} {k} {pc} {ls} {st} {Z} {I} {J} {o} {idx} {a0} {a} {n0} {n1} {sp} {dp} {n} (h0 : 1 ≤ d) (h1 : decode k.1 pc = .ok (.invokestatic idx, 3)) (h2 : Cond.methodLink k.2.1 idx arraycopyName ∈ zT) (h3 : zis Z a0 1 n0) (h4 : zis Z a 1 n1) (h5 : ¬ sp < 0) (h6 : ¬ dp < 0) (h7 : ¬ n < 0) (h8 : sp.toNatClampNeg + n.toNatClampNeg ≤ n0) (h9 : dp.toNatClampNeg + n.toNatClampNeg ≤ n1) (h10 : (st.map (fun v => v.category)).sum ≤ 8) (h11 : zE d k (pc + 3) ls st Z (zrow I a (zcpy (I a0) (I a) sp.toNatClampNeg dp.toNatClampNeg n.toNatClampNeg)) J o) : zE d k pc ls (.int n :: .int dp :: .ref a :: .int sp :: .ref a0 :: st) Z I J o := fun P hP => (hP.2.2.1.2.2.2.2.2.2.2.2.2.2.1) _ _ _ _ _ _ _ _ _ _ _ _ _ _ _ _ _ h0 h1 h2 h3 h4 h5 h6 h7 h8 h9 h10 (h11 P hP)
theorem ex_ret {d} {k} {pc} {ls} {Z} {I} {J} {v} (h0 : zRet k pc v) : zE d k pc ls v.toList Z I J (v, Z, I, J) := fun P hP => (hP.2.2.1.2.2.2.2.2.2.2.2.2.2.2) _ _ _ _ _ _ _ _ h0
theorem ex_ldcs {d} {k} {pc} {ls} {st} {Z} {I} {J} {o} {idx} {b} (h0 : decode k.1 pc = .ok (.ldc idx, 2)) (h1 : (k.2.1 = RX8 ∧ (idx = 28 ∧ b = 1000003 ∨ idx = 80 ∧ b = 1000004))) (h2 : zE d k (pc + 2) ls (.ref b :: st) Z I J o) : zE d k pc ls st Z I J o := fun P hP => (hP.2.2.2.1) _ _ _ _ _ _ _ _ _ _ _ h0 h1 (h2 P hP)
theorem ex_getv {d} {k} {pc} {ls} {st} {Z} {I} {J} {o} {idx} {b} (h0 : decode k.1 pc = .ok (.getfield idx, 3)) (h1 : Cond.fieldLink k.2.1 idx "java/lang/String" "value" "[B" ∈ zT) (h2 : zstr b) (h3 : zE d k (pc + 3) ls (.ref (b + 2) :: st) Z I J o) : zE d k pc ls (.ref b :: st) Z I J o := fun P hP => (hP.2.2.2.2.1) _ _ _ _ _ _ _ _ _ _ _ h0 h1 h2 (h3 P hP)
theorem ex_getc {d} {k} {pc} {ls} {st} {Z} {I} {J} {o} {idx} {b} (h0 : decode k.1 pc = .ok (.getfield idx, 3)) (h1 : Cond.fieldLink k.2.1 idx "java/lang/String" "coder" "B" ∈ zT) (h2 : zstr b) (h3 : zE d k (pc + 3) ls (.int 0 :: st) Z I J o) : zE d k pc ls (.ref b :: st) Z I J o := fun P hP => (hP.2.2.2.2.2.1) _ _ _ _ _ _ _ _ _ _ _ h0 h1 h2 (h3 P hP)
theorem ex_cmpS {d} {k} {pc} {ls} {st} {Z} {I} {J} {o} {idx} (h0 : decode k.1 pc = .ok (.getstatic idx, 3)) (h1 : Cond.fieldLink k.2.1 idx "java/lang/String" "COMPACT_STRINGS" "Z" ∈ zT) (h2 : zE d k (pc + 3) ls (.int 1 :: st) Z I J o) : zE d k pc ls st Z I J o := fun P hP => (hP.2.2.2.2.2.2.1) _ _ _ _ _ _ _ _ _ _ h0 h1 (h2 P hP)
theorem ex_fmt {d} {k} {pc} {ls} {st} {Z} {I} {J} {o} {idx} (h0 : decode k.1 pc = .ok (.getstatic idx, 3)) (h1 : Cond.fieldLink k.2.1 idx "jdk/internal/util/Preconditions" "SIOOBE_FORMATTER" "Ljava/util/function/BiFunction;" ∈ zT) (h2 : zE d k (pc + 3) ls (.ref 1000007 :: st) Z I J o) (h3 : zE d k (pc + 3) ls (.null :: st) Z I J o) : zE d k pc ls st Z I J o := fun P hP => (hP.2.2.2.2.2.2.2.1) _ _ _ _ _ _ _ _ _ _ h0 h1 (h2 P hP) (h3 P hP)
theorem ex_balr {d} {k} {pc} {ls} {st} {Z} {I} {J} {o} {a} {n} {i} (h0 : decode k.1 pc = .ok (.baload, 1)) (h1 : zrb Z a n) (h2 : vp_in i n) (h3 : zE d k (pc + 1) ls (.int (I a i.toNatClampNeg) :: st) Z I J o) : zE d k pc ls (.int i :: .ref a :: st) Z I J o := fun P hP => (hP.2.2.2.2.2.2.2.2.1) _ _ _ _ _ _ _ _ _ _ _ _ h0 h1 h2 (h3 P hP)
theorem ex_alenr {d} {k} {pc} {ls} {st} {Z} {I} {J} {o} {a} {n} (h0 : decode k.1 pc = .ok (.arraylength, 1)) (h1 : zrb Z a n) (h2 : zE d k (pc + 1) ls (.int (Int32.ofNat n) :: st) Z I J o) : zE d k pc ls (.ref a :: st) Z I J o := fun P hP => (hP.2.2.2.2.2.2.2.2.2.1) _ _ _ _ _ _ _ _ _ _ _ h0 h1 (h2 P hP)
theorem ex_callK {d} {k} {pc} {ls} {st} {Z : zZ} {I} {J} {o} {idx} {y : zK} {as} {n} {v} {Z1} {I1} {J1} {b} (h0 : decode k.1 pc = .ok (.invokevirtual idx, 3)) (h1 : zM y n) (h2 : zlink k.2.1 idx y.2.2.2.2) (h3 : Cond.instanceMethod y.2.2.2.2 ∈ zT) (h4 : Cond.selects "java/lang/String" y.2.2.2.2 y.2.2.2.2 ∈ zT) (h5 : zstr b) (h6 : as.length = n) (h7 : (zarg (.ref b :: as)).length ≤ y.2.2.1) (h8 : (st.map (fun v => v.category)).sum ≤ 8) (h9 : zE d y 0 (zin y.2.2.1 (.ref b :: as)) [] Z I J (v, Z1, I1, J1)) (h10 : zE (d + 1) k (pc + 3) ls (v.toList ++ st) Z1 I1 J1 o) : zE (d + 1) k pc ls (as.reverse ++ .ref b :: st) Z I J o := fun P hP => (hP.2.2.2.2.2.2.2.2.2.2.1) _ _ _ _ _ _ _ _ _ _ _ _ _ _ _ _ _ _ h0 h1 h2 h3 h4 h5 h6 h7 h8 (h9 P hP) (h10 P hP)
theorem ex_i2c {d} {k} {pc} {ls} {st} {Z} {I} {J} {o} {x} (h0 : decode k.1 pc = .ok (.i2c, 1)) (h1 : zE d k (pc + 1) ls (.int (x.toUInt32 % 65536).toInt32 :: st) Z I J o) : zE d k pc ls (.int x :: st) Z I J o := fun P hP => (hP.2.2.2.2.2.2.2.2.2.2.2) _ _ _ _ _ _ _ _ _ _ h0 (h1 P hP)
