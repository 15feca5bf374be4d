/-! what no run writes: the rows from 1000000 on -/
def zPro : zPr := fun _ _ _ _ _ _ I _ o => ∀ a, 1000000 ≤ a → o.2.2.1 a = I a
theorem zro_zu {I : zI} {a b k : Nat} {x : Int32} (h : a < 1000000) (hb : 1000000 ≤ b) : zu I a k x b = I b := zu_ne (by omega)
theorem zro_zr {I : zI} {a b : Nat} {f : Nat → Int32} (h : a < 1000000) (hb : 1000000 ≤ b) : zrow I a f b = I b := by
  unfold zrow
  rw [if_neg (by omega)]
theorem zro_zz {I : zI} {a b : Nat} (h : a < 999999) (hb : 1000000 ≤ b) : zzero I a b = I b := by
  unfold zzero
  rw [if_neg (by omega)]
theorem zro_step : zr_step zPro := fun _ _ _ _ _ _ _ _ _ _ _ _ _ h0 h1 h2 a ha => h2 a ha
theorem zro_div : zr_div zPro := fun _ _ _ _ _ _ _ _ _ _ _ h0 h1 h2 a ha => h2 a ha
theorem zro_rem : zr_rem zPro := fun _ _ _ _ _ _ _ _ _ _ _ h0 h1 h2 a ha => h2 a ha
theorem zro_icmp : zr_icmp zPro := fun _ _ _ _ _ _ _ _ _ _ _ _ _ _ h0 h1 h2 h3 a ha => Classical.byCases (fun c => h2 c a ha) (fun c => h3 c a ha)
theorem zro_if : zr_if zPro := fun _ _ _ _ _ _ _ _ _ _ _ _ _ h0 h1 h2 h3 a ha => Classical.byCases (fun c => h2 c a ha) (fun c => h3 c a ha)
theorem zro_tabIn : zr_tabIn zPro := fun _ _ _ _ _ _ _ _ _ _ _ _ _ _ _ _ _ h0 h1 h2 h3 h4 h5 a ha => h5 a ha
theorem zro_tabOut : zr_tabOut zPro := fun _ _ _ _ _ _ _ _ _ _ _ _ _ _ _ _ h0 h1 h2 h3 a ha => h3 a ha
theorem zro_ldc : zr_ldc zPro := fun _ _ _ _ _ _ _ _ _ _ _ h0 h1 h2 a ha => h2 a ha
theorem zro_ldcw : zr_ldcw zPro := fun _ _ _ _ _ _ _ _ _ _ _ h0 h1 h2 a ha => h2 a ha
theorem zro_ldc2 : zr_ldc2 zPro := fun _ _ _ _ _ _ _ _ _ _ _ h0 h1 h2 a ha => h2 a ha
theorem zro_less : zr_less zPro := fun _ _ _ _ _ _ _ _ _ _ h0 h1 a ha => h1 a ha
theorem zro_zrA : zrA zPro := ⟨zro_step, zro_div, zro_rem, zro_icmp, zro_if, zro_tabIn, zro_tabOut, zro_ldc, zro_ldcw, zro_ldc2, zro_less⟩
theorem zro_geti : zr_geti zPro := fun _ _ _ _ _ _ _ _ _ _ _ _ _ h0 h1 h2 h3 h4 a ha => h4 a ha
theorem zro_getr : zr_getr zPro := fun _ _ _ _ _ _ _ _ _ _ _ _ _ _ h0 h1 h2 h3 h4 h5 a ha => h5 a ha
theorem zro_puti : zr_puti zPro := fun _ _ _ _ _ _ _ _ _ _ _ _ _ _ h0 h1 h2 h3 h4 h5 a ha => (h5 a ha).trans (zro_zu h2.2.1 ha)
theorem zro_putr : zr_putr zPro := fun _ _ _ _ _ _ _ _ _ _ _ _ _ _ h0 h1 h2 h3 h4 a ha => h4 a ha
theorem zro_gets : zr_gets zPro := fun _ _ _ _ _ _ _ _ _ _ _ h0 h1 h2 a ha => h2 a ha
theorem zro_iald : zr_iald zPro := fun _ _ _ _ _ _ _ _ _ _ _ _ h0 h1 h2 h3 a ha => h3 a ha
theorem zro_bald : zr_bald zPro := fun _ _ _ _ _ _ _ _ _ _ _ _ h0 h1 h2 h3 a ha => h3 a ha
theorem zro_lald : zr_lald zPro := fun _ _ _ _ _ _ _ _ _ _ _ _ h0 h1 h2 h3 a ha => h3 a ha
theorem zro_aald : zr_aald zPro := fun _ _ _ _ _ _ _ _ _ _ _ _ _ h0 h1 h2 h3 h4 a ha => h4 a ha
theorem zro_iast : zr_iast zPro := fun _ _ _ _ _ _ _ _ _ _ _ _ _ h0 h1 h2 h3 a ha => (h3 a ha).trans (zro_zu h1.2.1 ha)
theorem zro_bast : zr_bast zPro := fun _ _ _ _ _ _ _ _ _ _ _ _ _ h0 h1 h2 h3 a ha => (h3 a ha).trans (zro_zu h1.2.1 ha)
theorem zro_zast : zr_zast zPro := fun _ _ _ _ _ _ _ _ _ _ _ _ _ h0 h1 h2 h3 a ha => (h3 a ha).trans (zro_zu h1.2.1 ha)
theorem zro_last : zr_last zPro := fun _ _ _ _ _ _ _ _ _ _ _ _ _ h0 h1 h2 h3 a ha => h3 a ha
theorem zro_aast : zr_aast zPro := fun _ _ _ _ _ _ _ _ _ _ _ _ _ h0 h1 h2 h3 h4 a ha => h4 a ha
theorem zro_alen : zr_alen zPro := fun _ _ _ _ _ _ _ _ _ _ _ _ h0 h1 h2 a ha => h2 a ha
theorem zro_zrB : zrB zPro := ⟨zro_geti, zro_getr, zro_puti, zro_putr, zro_gets, zro_iald, zro_bald, zro_lald, zro_aald, zro_iast, zro_bast, zro_zast, zro_last, zro_aast, zro_alen⟩
theorem zro_new : zr_new zPro := fun _ _ _ _ _ _ _ _ _ _ _ h0 h1 h2 h3 h4 a ha => (h4 a ha).trans (zro_zz h3 ha)
theorem zro_newa : zr_newa zPro := fun _ _ _ _ _ _ _ _ _ _ _ _ h0 h1 h2 h3 h4 h5 h6 h7 a ha => (h7 a ha).trans (zro_zz h6 ha)
theorem zro_newq : zr_newq zPro := fun _ _ _ _ _ _ _ _ _ _ _ _ h0 h1 h2 h3 h4 h5 h6 a ha => h6 a ha
theorem zro_obj : zr_obj zPro := fun _ _ _ _ _ _ _ _ _ _ _ h0 h1 h2 h3 h4 a ha => h4 a ha
theorem zro_callS : zr_callS zPro := fun _ _ _ _ _ _ _ _ _ _ _ _ _ _ _ _ _ h0 h1 h2 h3 h4 h5 h6 h7 h8 a ha => (h8 a ha).trans (h7 a ha)
theorem zro_callV : zr_callV zPro := fun _ _ _ _ _ _ _ _ _ _ _ _ _ _ _ _ _ _ _ h0 h1 h2 h3 h4 h5 h6 h7 h8 h9 h10 h11 a ha => (h11 a ha).trans (h10 a ha)
theorem zro_callI : zr_callI zPro := fun _ _ _ _ _ _ _ _ _ _ _ _ _ _ _ _ _ h0 h1 h2 h3 h4 h5 h6 h7 h8 h9 h10 a ha => (h10 a ha).trans (h9 a ha)
theorem zro_max : zr_max zPro := fun _ _ _ _ _ _ _ _ _ _ _ _ h0 h1 h2 h3 h4 a ha => h4 a ha
theorem zro_min : zr_min zPro := fun _ _ _ _ _ _ _ _ _ _ _ _ h0 h1 h2 h3 h4 a ha => h4 a ha
theorem zro_abs : zr_abs zPro := fun _ _ _ _ _ _ _ _ _ _ _ h0 h1 h2 h3 h4 a ha => h4 a ha
theorem zro_copy : zr_copy zPro := fun _ _ _ _ _ _ _ _ _ _ _ _ _ _ _ _ _ h0 h1 h2 h3 h4 h5 h6 h7 h8 h9 h10 h11 a ha => (h11 a ha).trans (zro_zr h4.2.1 ha)
theorem zro_ret : zr_ret zPro := fun _ _ _ _ _ _ _ _ _ a ha => rfl
theorem zro_zrC : zrC zPro := ⟨zro_new, zro_newa, zro_newq, zro_obj, zro_callS, zro_callV, zro_callI, zro_max, zro_min, zro_abs, zro_copy, zro_ret⟩
theorem zro_ldcs : zr_ldcs zPro := fun _ _ _ _ _ _ _ _ _ _ _ h0 h1 h2 a ha => h2 a ha
theorem zro_getv : zr_getv zPro := fun _ _ _ _ _ _ _ _ _ _ _ h0 h1 h2 h3 a ha => h3 a ha
theorem zro_getc : zr_getc zPro := fun _ _ _ _ _ _ _ _ _ _ _ h0 h1 h2 h3 a ha => h3 a ha
theorem zro_cmpS : zr_cmpS zPro := fun _ _ _ _ _ _ _ _ _ _ h0 h1 h2 a ha => h2 a ha
theorem zro_fmt : zr_fmt zPro := fun _ _ _ _ _ _ _ _ _ _ h0 h1 h2 h3 a ha => h2 a ha
theorem zro_balr : zr_balr zPro := fun _ _ _ _ _ _ _ _ _ _ _ _ h0 h1 h2 h3 a ha => h3 a ha
theorem zro_alenr : zr_alenr zPro := fun _ _ _ _ _ _ _ _ _ _ _ h0 h1 h2 a ha => h2 a ha
theorem zro_callK : zr_callK zPro := fun _ _ _ _ _ _ _ _ _ _ _ _ _ _ _ _ _ _ h0 h1 h2 h3 h4 h5 h6 h7 h8 h9 h10 a ha => (h10 a ha).trans (h9 a ha)
theorem zro_i2c : zr_i2c zPro := fun _ _ _ _ _ _ _ _ _ _ h0 h1 a ha => h1 a ha
theorem zro_zrD : zrD zPro := ⟨zro_ldcs, zro_getv, zro_getc, zro_cmpS, zro_fmt, zro_balr, zro_alenr, zro_callK, zro_i2c⟩
theorem zE_ro {d : Nat} {k : zK} {pc : Nat} {ls : zL} {st : List Value} {Z : zZ} {I : zI} {J : zJ} {o : zO} (h : zE d k pc ls st Z I J o) : ∀ a, 1000000 ≤ a → o.2.2.1 a = I a := h zPro ⟨zro_zrA, zro_zrB, zro_zrC, zro_zrD⟩
