/-! THE RULES OF THE LITTLE MACHINE HOLD OF THE BIG ONE -/
section ZS
variable {D : va_G} {cy : Nat → ClassId} {α : Nat → Nat}
variable {p : Program} {l : Launch} {e : Env} {R : Room} {s : State} {m : MethodId} {args : Array Value} {below : List Frame} {meth : Method} {c : Code} {H : Heap} {locs : List Loc} {cells slots : Nat} {Q : State → Prop} {A : Nat → Prop} {arr : Array Slot}
variable {d : Nat} {k : zK} {Z : zZ} {I : zI} {J : zJ}
theorem zcmp_if (hx : p.tables.exec = Jvm.exec) (hb : c.code = k.1) {pc pc' : Nat} {ls : Array Slot} {rest : List Value} {x : Int32} {cc : Jvm.ClassFile.Cond} {off : Int} (hd : decode k.1 pc = .ok (.ifCond cc off, 3)) (ht : (pc : Int) + off = (pc' : Int))
    (kt : zcmp cc x 0 → W p l e R s m args below meth c H locs cells slots Q (F0 m pc' ls rest)) (kf : ¬ zcmp cc x 0 → W p l e R s m args below meth c H locs cells slots Q (F0 m (pc + 3) ls rest)) : W p l e R s m args below meth c H locs cells slots Q (F0 m pc ls (.int x :: rest)) := by
  cases cc
  · exact lv_if_eq hx hb hd ht kt kf
  · exact lv_if_ne hx hb hd ht kt (fun h => kf (fun z => z h))
  · exact lv_if_lt hx hb hd ht kt kf
  · exact lv_if_ge hx hb hd ht kt kf
  · exact lv_if_gt hx hb hd ht kt kf
  · exact lv_if_le hx hb hd ht kt kf
theorem zcmp_icmp (hx : p.tables.exec = Jvm.exec) (hb : c.code = k.1) {pc pc' : Nat} {ls : Array Slot} {rest : List Value} {x y : Int32} {cc : Jvm.ClassFile.Cond} {off : Int} (hd : decode k.1 pc = .ok (.if_icmp cc off, 3)) (ht : (pc : Int) + off = (pc' : Int))
    (kt : zcmp cc x y → W p l e R s m args below meth c H locs cells slots Q (F0 m pc' ls rest)) (kf : ¬ zcmp cc x y → W p l e R s m args below meth c H locs cells slots Q (F0 m (pc + 3) ls rest)) : W p l e R s m args below meth c H locs cells slots Q (F0 m pc ls (.int y :: .int x :: rest)) := by
  cases cc
  · exact lv_icmp_eq hx hb hd ht kt kf
  · exact lv_icmp_ne hx hb hd ht kt (fun h => kf (fun z => z h))
  · exact lv_icmp_lt hx hb hd ht kt kf
  · exact lv_icmp_ge hx hb hd ht kt kf
  · exact lv_icmp_gt hx hb hd ht kt kf
  · exact lv_icmp_le hx hb hd ht kt kf
set_option maxHeartbeats 4000000 in
theorem zs_step : zr_step (zP D cy α) := by
  intro d k pc ls st Z I J o i pc' ls' st' hd hs ⟨hm, hk⟩
  refine ⟨hm, ?_⟩
  intro p l e R s m args below meth c H locs cells slots Q A arr C hS hW hl hcell hc1 hc2 hret
  have G : ∀ arr', zloc α ls' k.2.2.1 arr' → W p l e R s m args below meth c H locs cells slots Q (F0 m pc' arr' (st'.map (zval α))) := fun arr' hl' => hk p l e R s m args below meth c H locs cells slots Q A arr' C hS hW hl' hcell hc1 hc2 hret
  obtain ⟨hx, hb, hml, -⟩ := id C
  cases i
  all_goals first | (have h9 : (none : Option (Nat × zL × List Value)) = some (pc', ls', st') := hs; cases h9; done) | skip
  case iconst n => simp only [zstep] at hs; cases hs; exact lv_iconst hx hb hd rfl (G arr hl)
  case bipush n => simp only [zstep] at hs; cases hs; exact lv_bipush hx hb hd rfl (G arr hl)
  case sipush n => simp only [zstep] at hs; cases hs; exact lv_sipush hx hb hd rfl (G arr hl)
  case lconst n => simp only [zstep] at hs; cases hs; exact lv_lconst hx hb hd rfl (G arr hl)
  case aconst_null => simp only [zstep] at hs; cases hs; exact lv_null hx hb hd (G arr hl)
  case iload_n n =>
    simp only [zstep] at hs
    split at hs
    · rename_i h9; cases hs; exact lv_iload_n hx hb hd rfl (hl.2.2.1 _ _ h9) (G arr hl)
    · cases hs
  case iload n =>
    simp only [zstep] at hs
    split at hs
    · rename_i h9; cases hs; exact lv_iload hx hb hd (hl.2.2.1 _ _ h9) (G arr hl)
    · cases hs
  case lload_n n =>
    simp only [zstep] at hs
    split at hs
    · rename_i h9; cases hs; exact lv_lload_n hx hb hd rfl (hl.2.2.1 _ _ h9) (G arr hl)
    · cases hs
  case lload n =>
    simp only [zstep] at hs
    split at hs
    · rename_i h9; cases hs; exact lv_lload hx hb hd (hl.2.2.1 _ _ h9) (G arr hl)
    · cases hs
  case aload_n n =>
    simp only [zstep] at hs
    split at hs
    · rename_i h9; cases hs; exact lv_aload_n hx hb hd rfl (hl.2.2.1 _ _ h9) (G arr hl)
    · rename_i h9; cases hs; exact lv_aload_nN hx hb hd rfl (hl.2.2.1 _ _ h9) (G arr hl)
    · cases hs
  case aload n =>
    simp only [zstep] at hs
    split at hs
    · rename_i h9; cases hs; exact lv_aload hx hb hd (hl.2.2.1 _ _ h9) (G arr hl)
    · rename_i h9; cases hs; exact lv_aloadN hx hb hd (hl.2.2.1 _ _ h9) (G arr hl)
    · cases hs
  case istore_n n =>
    simp only [zstep] at hs
    split at hs
    · rename_i h9; cases hs; exact lv_istore_n hx hb hd rfl (zloc_has hl) (Nat.lt_of_lt_of_le (zok_lt h9) hl.2.2.2) rfl (fun a h => G a (zloc_put hl.2.2.2 h))
    · cases hs
  case istore n =>
    simp only [zstep] at hs
    split at hs
    · rename_i h9; cases hs; exact lv_istore hx hb hd (zloc_has hl) (Nat.lt_of_lt_of_le (zok_lt h9) hl.2.2.2) rfl (fun a h => G a (zloc_put hl.2.2.2 h))
    · cases hs
  case astore_n n =>
    simp only [zstep] at hs
    split at hs
    · rename_i h9; cases hs; exact lv_astore_n hx hb hd rfl (zloc_has hl) (Nat.lt_of_lt_of_le (zok_lt h9) hl.2.2.2) rfl (fun a h => G a (zloc_put hl.2.2.2 h))
    · rename_i h9; cases hs; exact lv_astore_nN hx hb hd rfl (zloc_has hl) (Nat.lt_of_lt_of_le (zok_lt h9) hl.2.2.2) rfl (fun a h => G a (zloc_put (v := .null) hl.2.2.2 h))
    · cases hs
  case astore n =>
    simp only [zstep] at hs
    split at hs
    · rename_i h9; cases hs; exact lv_astore hx hb hd (zloc_has hl) (Nat.lt_of_lt_of_le (zok_lt h9) hl.2.2.2) rfl (fun a h => G a (zloc_put hl.2.2.2 h))
    · rename_i h9; cases hs; exact lv_astoreN hx hb hd (zloc_has hl) (Nat.lt_of_lt_of_le (zok_lt h9) hl.2.2.2) rfl (fun a h => G a (zloc_put (v := .null) hl.2.2.2 h))
    · cases hs
  case lstore_n n =>
    simp only [zstep] at hs
    split at hs
    · rename_i h9; cases hs; exact lv_lstore_n hx hb hd rfl (zloc_has hl) (Nat.lt_of_lt_of_le (zok_lt h9) hl.2.2.2) rfl (fun a h => G a (zloc_putl hl.2.2.2 h))
    · cases hs
  case lstore n =>
    simp only [zstep] at hs
    split at hs
    · rename_i h9; cases hs; exact lv_lstore hx hb hd (zloc_has hl) (Nat.lt_of_lt_of_le (zok_lt h9) hl.2.2.2) rfl (fun a h => G a (zloc_putl hl.2.2.2 h))
    · cases hs
  case iinc n cn =>
    simp only [zstep] at hs
    split at hs
    · rename_i x h9
      cases hs
      obtain ⟨q, hq⟩ := List.getElem?_of_mem (zlv_mem (α := α) (i := 0) (q := (n, Value.int x)).mpr ⟨n, .int x, by simp [zval], h9⟩)
      exact lv_iinc hx hb hd (zloc_has hl) hq rfl (Nat.lt_of_lt_of_le (zget_len h9) hl.2.2.2) rfl (fun a h => G a (zloc_put hl.2.2.2 h))
    · cases hs
  case iadd => simp only [zstep] at hs; split at hs <;> cases hs; exact lv_iadd hx hb hd (G arr hl)
  case isub => simp only [zstep] at hs; split at hs <;> cases hs; exact lv_isub hx hb hd (G arr hl)
  case imul => simp only [zstep] at hs; split at hs <;> cases hs; exact lv_imul hx hb hd (G arr hl)
  case iand => simp only [zstep] at hs; split at hs <;> cases hs; exact lv_iand hx hb hd (G arr hl)
  case ior => simp only [zstep] at hs; split at hs <;> cases hs; exact lv_ior hx hb hd (G arr hl)
  case ixor => simp only [zstep] at hs; split at hs <;> cases hs; exact lv_ixor hx hb hd (G arr hl)
  case ineg => simp only [zstep] at hs; split at hs <;> cases hs; exact lv_ineg hx hb hd (G arr hl)
  case ishl => simp only [zstep] at hs; split at hs <;> cases hs; exact lv_ishl hx hb hd (G arr hl)
  case ishr => simp only [zstep] at hs; split at hs <;> cases hs; exact lv_ishr hx hb hd (G arr hl)
  case iushr => simp only [zstep] at hs; split at hs <;> cases hs; exact lv_iushr hx hb hd rfl (G arr hl)
  case ladd => simp only [zstep] at hs; split at hs <;> cases hs; exact lv_ladd hx hb hd (G arr hl)
  case lmul => simp only [zstep] at hs; split at hs <;> cases hs; exact lv_lmul hx hb hd (G arr hl)
  case i2l => simp only [zstep] at hs; split at hs <;> cases hs; exact lv_i2l hx hb hd rfl (G arr hl)
  case i2b => simp only [zstep] at hs; split at hs <;> cases hs; exact lv_i2b hx hb hd rfl (G arr hl)
  case lcmp => simp only [zstep] at hs; split at hs <;> cases hs; exact W.lcmp hx hb hd (G arr hl)
  case dup =>
    simp only [zstep] at hs
    split at hs
    · cases hs; exact lv_dup hx hb hd rfl (G arr hl)
    · cases hs; exact lv_dup hx hb hd rfl (G arr hl)
    · cases hs
  case dup2 => simp only [zstep] at hs; split at hs <;> cases hs; exact lv_dup2_11 hx hb hd rfl rfl (G arr hl)
  case pop =>
    simp only [zstep] at hs
    split at hs
    · cases hs; exact lv_pop hx hb hd rfl (G arr hl)
    · cases hs; exact lv_pop hx hb hd rfl (G arr hl)
    · cases hs
  case goto off =>
    simp only [zstep] at hs
    split at hs
    · rename_i h9; cases hs; exact lv_goto hx hb hd (by unfold zjmp; omega) (G arr hl)
    · cases hs
  case ifnull off =>
    simp only [zstep] at hs
    split at hs
    · cases hs; exact lv_ifnull hx hb hd (G arr hl)
    · split at hs
      · rename_i h9; cases hs; exact lv_ifnullN hx hb hd (by unfold zjmp; omega) (G arr hl)
      · cases hs
    · cases hs
  case ifnonnull off =>
    simp only [zstep] at hs
    split at hs
    · split at hs
      · rename_i h9; cases hs; exact lv_ifnonnull hx hb hd (by unfold zjmp; omega) (G arr hl)
      · cases hs
    · cases hs; exact lv_ifnonnullN hx hb hd (G arr hl)
    · cases hs
theorem zs_div : zr_div (zP D cy α) := by
  intro d k pc ls st Z I J o x y hd hne ⟨hm, hk⟩
  refine ⟨hm, ?_⟩
  intro p l e R s m args below meth c H locs cells slots Q A arr C hS hW hl hcell hc1 hc2 hret
  obtain ⟨hx, hb, -⟩ := id C
  exact lv_idiv hx hb hd hne (hk p l e R s m args below meth c H locs cells slots Q A arr C hS hW hl hcell hc1 hc2 hret)
theorem zs_rem : zr_rem (zP D cy α) := by
  intro d k pc ls st Z I J o x y hd hne ⟨hm, hk⟩
  refine ⟨hm, ?_⟩
  intro p l e R s m args below meth c H locs cells slots Q A arr C hS hW hl hcell hc1 hc2 hret
  obtain ⟨hx, hb, -⟩ := id C
  exact lv_irem hx hb hd hne (hk p l e R s m args below meth c H locs cells slots Q A arr C hS hW hl hcell hc1 hc2 hret)
theorem zs_icmp : zr_icmp (zP D cy α) := by
  intro d k pc ls st Z I J o x y cc off pc' hd ht h1 h2
  refine ⟨?_, ?_⟩
  · by_cases h : zcmp cc x y
    · exact (h1 h).1
    · exact (h2 h).1
  intro p l e R s m args below meth c H locs cells slots Q A arr C hS hW hl hcell hc1 hc2 hret
  obtain ⟨hx, hb, -⟩ := id C
  exact zcmp_icmp hx hb hd ht (fun h => (h1 h).2 p l e R s m args below meth c H locs cells slots Q A arr C hS hW hl hcell hc1 hc2 hret) (fun h => (h2 h).2 p l e R s m args below meth c H locs cells slots Q A arr C hS hW hl hcell hc1 hc2 hret)
theorem zs_if : zr_if (zP D cy α) := by
  intro d k pc ls st Z I J o x cc off pc' hd ht h1 h2
  refine ⟨?_, ?_⟩
  · by_cases h : zcmp cc x 0
    · exact (h1 h).1
    · exact (h2 h).1
  intro p l e R s m args below meth c H locs cells slots Q A arr C hS hW hl hcell hc1 hc2 hret
  obtain ⟨hx, hb, -⟩ := id C
  exact zcmp_if hx hb hd ht (fun h => (h1 h).2 p l e R s m args below meth c H locs cells slots Q A arr C hS hW hl hcell hc1 hc2 hret) (fun h => (h2 h).2 p l e R s m args below meth c H locs cells slots Q A arr C hS hW hl hcell hc1 hc2 hret)
theorem zs_tabIn : zr_tabIn (zP D cy α) := by
  intro d k pc ls st Z I J o x dflt lo hi offs len off pc' hd h1 h2 h3 ht ⟨hm, hk⟩
  refine ⟨hm, ?_⟩
  intro p l e R s m args below meth c H locs cells slots Q A arr C hS hW hl hcell hc1 hc2 hret
  obtain ⟨hx, hb, -⟩ := id C
  exact lv_tableIn hx hb hd h1 h2 h3 ht (hk p l e R s m args below meth c H locs cells slots Q A arr C hS hW hl hcell hc1 hc2 hret)
theorem zs_tabOut : zr_tabOut (zP D cy α) := by
  intro d k pc ls st Z I J o x dflt lo hi offs len pc' hd h1 ht ⟨hm, hk⟩
  refine ⟨hm, ?_⟩
  intro p l e R s m args below meth c H locs cells slots Q A arr C hS hW hl hcell hc1 hc2 hret
  obtain ⟨hx, hb, -⟩ := id C
  exact lv_tableOut hx hb hd h1 ht (hk p l e R s m args below meth c H locs cells slots Q A arr C hS hW hl hcell hc1 hc2 hret)
theorem zs_ldc : zr_ldc (zP D cy α) := by
  intro d k pc ls st Z I J o idx v hd hw ⟨hm, hk⟩
  refine ⟨hm, ?_⟩
  intro p l e R s m args below meth c H locs cells slots Q A arr C hS hW hl hcell hc1 hc2 hret
  obtain ⟨hx, hb, hml, hown, hnm, hts, -⟩ := id C
  exact lv_ldc hx hb hown (hts _ hw) hd (hk p l e R s m args below meth c H locs cells slots Q A arr C hS hW hl hcell hc1 hc2 hret)
theorem zs_ldcw : zr_ldcw (zP D cy α) := by
  intro d k pc ls st Z I J o idx v hd hw ⟨hm, hk⟩
  refine ⟨hm, ?_⟩
  intro p l e R s m args below meth c H locs cells slots Q A arr C hS hW hl hcell hc1 hc2 hret
  obtain ⟨hx, hb, hml, hown, hnm, hts, -⟩ := id C
  exact lv_ldcw hx hb hown (hts _ hw) hd (hk p l e R s m args below meth c H locs cells slots Q A arr C hS hW hl hcell hc1 hc2 hret)
theorem zs_ldc2 : zr_ldc2 (zP D cy α) := by
  intro d k pc ls st Z I J o idx v hd hw ⟨hm, hk⟩
  refine ⟨hm, ?_⟩
  intro p l e R s m args below meth c H locs cells slots Q A arr C hS hW hl hcell hc1 hc2 hret
  obtain ⟨hx, hb, hml, hown, hnm, hts, -⟩ := id C
  exact lv_ldc2 hx hb hown (hts _ hw) hd (hk p l e R s m args below meth c H locs cells slots Q A arr C hS hW hl hcell hc1 hc2 hret)
theorem zs_less : zr_less (zP D cy α) := by
  intro d k pc ls ls' st Z I J o hle ⟨hm, hk⟩
  refine ⟨hm, ?_⟩
  intro p l e R s m args below meth c H locs cells slots Q A arr C hS hW hl hcell hc1 hc2 hret
  exact hk p l e R s m args below meth c H locs cells slots Q A arr C hS hW ⟨hl.1, hl.2.1, fun i v h => hl.2.2.1 i v (zle_get hle h), Nat.le_trans (zle_len hle) hl.2.2.2⟩ hcell hc1 hc2 hret
theorem zsA : zrA (zP D cy α) := ⟨zs_step, zs_div, zs_rem, zs_icmp, zs_if, zs_tabIn, zs_tabOut, zs_ldc, zs_ldcw, zs_ldc2, zs_less⟩
end ZS
