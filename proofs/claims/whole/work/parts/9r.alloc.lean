/-! the constructors: cells are laid one behind the other, the newest first -/
def zAsl (s : Nat × Nat) : Nat := if s.1 = 0 then zcN s.2 else s.2
def zAsu : List (Nat × Nat) → Nat
  | [] => 0
  | s :: t => zAsu t + zAsl s
def zAlk : List (Nat × Nat × Nat) → Nat → Nat → Option Nat
  | [], _, _ => none
  | e :: t, a, k => if a = e.1 ∧ k = e.2.1 then some e.2.2 else zAlk t a k
def zAsh : List (Nat × Nat) → Nat → Option (Nat × Nat)
  | [], _ => none
  | s :: t, a => if a = t.length then some s else zAsh t a
def zML (L : Nat) (sh : List (Nat × Nat)) (rf : List (Nat × Nat × Nat)) : zZ := (sh.length, zAsu sh, fun a => (zAsh sh a).getD ((zZ0 L).2.2.1 a), zAlk rf)
/-- n cells are laid; what comes behind them is empty -/
def zAl (sh : List (Nat × Nat)) (rf : List (Nat × Nat × Nat)) (I : zI) (J : zJ) (n : Nat) : Prop := sh.length = n ∧ (∀ e ∈ rf, e.1 < n) ∧ (∀ b, n ≤ b → b < 1000000 → I b = fun _ => 0) ∧ ∀ b, n ≤ b → b < 1000000 → J b = fun _ => 0
section
variable {d L pc n a b : Nat} {k : zK} {ls : zL} {st : List Value} {sh : List (Nat × Nat)} {rf : List (Nat × Nat × Nat)} {I : zI} {J : zJ} {o : zO} {s : Nat × Nat} {idx ci f : Nat}
theorem zAsh_lt : ∀ {sh : List (Nat × Nat)} {a : Nat} {s : Nat × Nat}, zAsh sh a = some s → a < sh.length := by
  intro sh
  induction sh with
  | nil => intro a s h; cases h
  | cons x t ih =>
    intro a s h
    unfold zAsh at h
    by_cases c : a = t.length
    · simp only [List.length_cons]; omega
    · rw [if_neg c] at h
      have := ih h
      simp only [List.length_cons]; omega
theorem zAsh_c {x : Nat × Nat} (h : zAsh sh a = some s) : zAsh (x :: sh) a = some s := by
  have := zAsh_lt h
  unfold zAsh
  rw [if_neg (by omega)]; exact h
theorem zAsh_app (h : zAsh sh a = some s) : ∀ l : List (Nat × Nat), zAsh (l ++ sh) a = some s := by
  intro l
  induction l with
  | nil => exact h
  | cons x l ih => exact zAsh_c ih
theorem zAsh_n (hA : sh.length = n) : zAsh (s :: sh) n = some s := by
  unfold zAsh
  rw [if_pos hA.symm]
theorem zAlk_none : ∀ {rf : List (Nat × Nat × Nat)}, (∀ e ∈ rf, e.1 < n) → ∀ j, zAlk rf n j = none := by
  intro rf
  induction rf with
  | nil => intro _ j; rfl
  | cons e t ih =>
    intro h j
    have h1 := h e List.mem_cons_self
    unfold zAlk
    rw [if_neg (by omega)]
    exact ih (fun x hx => h x (List.mem_cons_of_mem _ hx)) j
theorem zAl.new (h : zAl sh rf I J n) : zAl (s :: sh) rf I J (n + 1) := ⟨by rw [List.length_cons, h.1], fun e he => Nat.lt_succ_of_lt (h.2.1 e he), fun b p q => h.2.2.1 b (by omega) q, fun b p q => h.2.2.2 b (by omega) q⟩
theorem zAl.put {f : Nat} (h : zAl sh rf I J n) (ha : a < n) : zAl sh ((a, f, b) :: rf) I J n := ⟨h.1, fun e he => by
  rcases List.mem_cons.mp he with rfl | he
  · exact ha
  · exact h.2.1 e he, h.2.2⟩
theorem zAl.puti {f : Nat} {x : Int32} (h : zAl sh rf I J n) (ha : a < n) : zAl sh rf (zu I a f x) J n := ⟨h.1, h.2.1, fun b p q => by
  funext j
  rw [zu_ne (by omega), h.2.2.1 b p q], h.2.2.2⟩
theorem zAl.is {kd m : Nat} (hA : zAl sh rf I J n) (hn : n ≤ 1000000) (h : zAsh sh a = some (kd, m)) : zis (zML L sh rf) a kd m := by
  have h1 := zAsh_lt h
  have h2 := hA.1
  exact ⟨h1, by omega, by show (zAsh sh a).getD _ = _; rw [h]; rfl⟩
theorem zML_new (hA : ∀ e ∈ rf, e.1 < sh.length) {m : Nat} (hm : m = zAsl s) : zZsh (zML L sh rf) s m = zML L (s :: sh) rf := by
  subst hm
  unfold zZsh zML
  refine Prod.ext rfl (Prod.ext rfl (Prod.ext ?_ ?_))
  · funext a
    show (if a = sh.length then s else (zAsh sh a).getD ((zZ0 L).2.2.1 a)) = (if a = sh.length then some s else zAsh sh a).getD ((zZ0 L).2.2.1 a)
    by_cases c : a = sh.length
    · rw [if_pos c, if_pos c]; rfl
    · rw [if_neg c, if_neg c]
  · funext a
    show (if a = sh.length then fun _ => none else zAlk rf a) = zAlk rf a
    by_cases c : a = sh.length
    · rw [if_pos c]
      funext j
      rw [c, zAlk_none hA]
    · rw [if_neg c]
theorem zzero_e (h : I n = fun _ => 0) : zzero I n = I := by
  funext a
  unfold zzero
  by_cases c : a = n
  · rw [if_pos c, c, h]
  · rw [if_neg c]
theorem zzeroJ_e (h : J n = fun _ => 0) : zzeroJ J n = J := by
  funext a
  unfold zzeroJ
  by_cases c : a = n
  · rw [if_pos c, c, h]
  · rw [if_neg c]
theorem al_new (hA : zAl sh rf I J n) (hn : n < 999999) (h0 : decode k.1 pc = .ok (.new idx, 3)) (h1 : ci < 13) (h2 : Cond.classLink k.2.1 idx (zcR ci) ∈ zT) (h : zE d k (pc + 3) ls (.ref n :: st) (zML L ((0, ci) :: sh) rf) I J o) : zE d k pc ls st (zML L sh rf) I J o := by
  obtain ⟨e1, e2, e3, e4⟩ := hA
  subst e1
  refine ex_new h0 h1 h2 hn ?_
  rw [zML_new (L := L) (s := (0, ci)) (m := zcN ci) e2 rfl, show (zML L sh rf).1 = sh.length from rfl, zzero_e (e3 _ (Nat.le_refl _) (by omega))]
  exact h
theorem al_newa {t : ArrayType} {m : Int32} {N kd : Nat} (hA : zAl sh rf I J n) (hn : n < 999999) (h0 : decode k.1 pc = .ok (.newarray t, 2)) (h1 : Cond.arrayClass (newarray.typeOf t) ∈ zT) (hk : zkind t = kd) (hk4 : kd ≤ 4 ∧ 1 ≤ kd) (h2 : ¬ m < 0) (h3 : m.toNatClampNeg = N) (h4 : N ≤ 100000) (h : zE d k (pc + 2) ls (.ref n :: st) (zML L ((kd, N) :: sh) rf) I J o) : zE d k pc ls (.int m :: st) (zML L sh rf) I J o := by
  obtain ⟨e1, e2, e3, e4⟩ := hA
  subst e1
  subst hk
  refine ex_newa h0 hk4.1 h1 h2 h3 h4 hn ?_
  rw [zML_new e2 (by unfold zAsl; rw [if_neg (by show ¬ zkind t = 0; omega)]), show (zML L sh rf).1 = sh.length from rfl, zzero_e (e3 _ (Nat.le_refl _) (by omega)), zzeroJ_e (e4 _ (Nat.le_refl _) (by omega))]
  exact h
theorem al_newq {m : Int32} {N : Nat} (hA : zAl sh rf I J n) (hn : n < 999999) (h0 : decode k.1 pc = .ok (.anewarray idx, 3)) (h1 : Cond.classLink k.2.1 idx RX0 ∈ zT) (h2 : ¬ m < 0) (h3 : m.toNatClampNeg = N) (h4 : N ≤ 100000) (h : zE d k (pc + 3) ls (.ref n :: st) (zML L ((5, N) :: sh) rf) I J o) : zE d k pc ls (.int m :: st) (zML L sh rf) I J o := by
  obtain ⟨e1, e2, e3, e4⟩ := hA
  subst e1
  refine ex_newq h0 h1 h2 h3 h4 hn ?_
  rw [zML_new (L := L) (s := (5, N)) (m := N) e2 rfl, show (zML L sh rf).1 = sh.length from rfl]
  exact h
theorem al_putr {x : Nat} (hA : zAl sh rf I J n) (hn : n ≤ 1000000) (h0 : decode k.1 pc = .ok (.putfield idx, 3)) (h1 : zFput k.2.1 idx ci f k) (h2 : zAsh sh a = some (0, ci)) (h3 : zrf ci f = true) (h4 : zE d k (pc + 3) ls st (zML L sh ((a, f, x) :: rf)) I J o) : zE d k pc ls (.ref x :: .ref a :: st) (zML L sh rf) I J o := ex_putr h0 h1 (hA.is hn h2) h3 h4
theorem al_puti {x : Int32} (hA : zAl sh rf I J n) (hn : n ≤ 1000000) (h0 : decode k.1 pc = .ok (.putfield idx, 3)) (h1 : zFput k.2.1 idx ci f k) (h2 : zAsh sh a = some (0, ci)) (h3 : zrf ci f = false) (h4 : narrow (zcY ci f) (.int x) = .int x ∧ fits (zcY ci f) (.int x) = true) (h5 : zE d k (pc + 3) ls st (zML L sh rf) (zu I a f x) J o) : zE d k pc ls (.int x :: .ref a :: st) (zML L sh rf) I J o := ex_puti h0 h1 (hA.is hn h2) h3 h4 h5
end
theorem za_int : Cond.arrayClass .int ∈ zT := z_mem (by decide +kernel) rfl
theorem za_long : Cond.arrayClass .long ∈ zT := z_mem (by decide +kernel) rfl
theorem za_byte : Cond.arrayClass .byte ∈ zT := z_mem (by decide +kernel) rfl
theorem za_boolean : Cond.arrayClass .boolean ∈ zT := z_mem (by decide +kernel) rfl
