/-! the law's own loop -/
theorem t_m5 {n : Nat} (h : n < 2 ^ 31) : (nI n - 5).toInt = (n : Int) - 5 := by
  by_cases e : 5 ≤ n
  · rw [show (5 : Int32) = nI 5 from rfl, pk_sub e, nI_toInt (by omega)]; omega
  · have hc : n = 0 ∨ n = 1 ∨ n = 2 ∨ n = 3 ∨ n = 4 := by omega
    rcases hc with rfl | rfl | rfl | rfl | rfl <;> decide
section Lw
variable {g : QG} {h : Hp} {K : Int32 → Hp → Prop}
abbrev wL (g : QG) (K : Int32 → Hp → Prop) (pc : Nat) (h : Hp) (k : Nat) : Prop := FW g mL_law pc [some (.ref 1000), some (.ref 0), some (.ref 44), some (.int (nI k))] [] h (q_RI K)

theorem law_0 {k : Nat} (hL : q_L g < 2 ^ 31) (hQ : StrOK g) (hk : k + 5 ≤ q_L g) (hS : Sim h) (kk : ∀ h2 : Hp, Sim h2 → wL g K 866 h2 k) : wL g K 144 h k := by
  refine QW.aload_n dL_law_144 rfl ?_
  refine QW.aload_n dL_law_145 rfl ?_
  refine QW.iload_n dL_law_146 rfl ?_
  refine QW.iconst 1 rfl dL_law_147 ?_
  refine QW.iadd dL_law_148 ?_
  rw [show nI k + (1 : Int32) = nI (k + 1) from nI_add k 1]
  refine QW.sld dL_law_149 (vp_in_nI (by omega) hL) ?_
  rw [ix_nI (by omega)]
  refine QW.i2l dL_law_150 ?_
  refine QW.bipush 32 rfl dL_law_151 ?_
  refine QW.lshl dL_law_153 ?_
  refine QW.aload_n dL_law_154 rfl ?_
  refine QW.iload_n dL_law_155 rfl ?_
  refine QW.iconst 2 rfl dL_law_156 ?_
  refine QW.iadd dL_law_157 ?_
  rw [show nI k + (2 : Int32) = nI (k + 2) from nI_add k 2]
  refine QW.sld dL_law_158 (vp_in_nI (by omega) hL) ?_
  rw [ix_nI (by omega)]
  refine QW.i2l dL_law_159 ?_
  refine QW.ldc2 dL_law_160 lkL_13 ?_
  refine QW.land dL_law_163 ?_
  refine QW.lor dL_law_164 ?_
  refine QW.aload_n dL_law_165 rfl ?_
  refine QW.iload_n dL_law_166 rfl ?_
  refine QW.iconst 3 rfl dL_law_167 ?_
  refine QW.iadd dL_law_168 ?_
  rw [show nI k + (3 : Int32) = nI (k + 3) from nI_add k 3]
  refine QW.sld dL_law_169 (vp_in_nI (by omega) hL) ?_
  rw [ix_nI (by omega)]
  refine FW.callVi [_, .int (q_x g (k + 3))] [] rfl dL_law_170 lmL_15 sC_0 rfl ⟨Nat.le_of_ble_eq_true rfl, Nat.le_of_ble_eq_true rfl⟩ ⟨rfl, rfl⟩ (Nat.le_of_ble_eq_true rfl) (FI.mono (fun x1 h1 vc => ?_) (op_write hS))
  refine QW.aload_n dL_law_173 rfl ?_
  refine QW.aload_n dL_law_174 rfl ?_
  refine QW.iload_n dL_law_175 rfl ?_
  refine QW.iconst 1 rfl dL_law_176 ?_
  refine QW.iadd dL_law_177 ?_
  rw [show nI k + (1 : Int32) = nI (k + 1) from nI_add k 1]
  refine QW.sld dL_law_178 (vp_in_nI (by omega) hL) ?_
  rw [ix_nI (by omega)]
  refine QW.i2l dL_law_179 ?_
  refine QW.bipush 32 rfl dL_law_180 ?_
  refine QW.lshl dL_law_182 ?_
  refine QW.aload_n dL_law_183 rfl ?_
  refine QW.iload_n dL_law_184 rfl ?_
  refine QW.iconst 2 rfl dL_law_185 ?_
  refine QW.iadd dL_law_186 ?_
  rw [show nI k + (2 : Int32) = nI (k + 2) from nI_add k 2]
  refine QW.sld dL_law_187 (vp_in_nI (by omega) hL) ?_
  rw [ix_nI (by omega)]
  refine QW.i2l dL_law_188 ?_
  refine QW.ldc2 dL_law_189 lkL_13 ?_
  refine QW.land dL_law_192 ?_
  refine QW.lor dL_law_193 ?_
  refine QW.aload_n dL_law_194 rfl ?_
  refine QW.iload_n dL_law_195 rfl ?_
  refine QW.iconst 3 rfl dL_law_196 ?_
  refine QW.iadd dL_law_197 ?_
  rw [show nI k + (3 : Int32) = nI (k + 3) from nI_add k 3]
  refine QW.sld dL_law_198 (vp_in_nI (by omega) hL) ?_
  rw [ix_nI (by omega)]
  refine FW.callVi [_, .int (q_x g (k + 3))] [.int x1] rfl dL_law_199 lmL_19 sC_44 rfl ⟨Nat.le_of_ble_eq_true rfl, Nat.le_of_ble_eq_true rfl⟩ ⟨rfl, rfl⟩ (Nat.le_of_ble_eq_true rfl) (FI.mono (fun x2 h2 vc => ?_) vc)
  exact QW.icmp_eq 866 dL_law_202 rfl (fun _ => kk h2 vc.2) (fun z => absurd vc.1 z)
theorem law_1 {k : Nat} (hL : q_L g < 2 ^ 31) (hQ : StrOK g) (hk : k + 5 ≤ q_L g) (hS : Sim h) (kk : ∀ h2 : Hp, Sim h2 → wL g K 866 h2 k) : wL g K 207 h k := by
  refine QW.aload_n dL_law_207 rfl ?_
  refine FW.callVi [] [] rfl dL_law_208 lmL_20 sC_0 rfl ⟨Nat.le_of_ble_eq_true rfl, Nat.le_of_ble_eq_true rfl⟩ ⟨rfl, rfl⟩ (Nat.le_of_ble_eq_true rfl) (FI.mono (fun x1 h1 vc => ?_) (op_erase hS))
  refine QW.aload_n dL_law_211 rfl ?_
  refine FW.callVi [] [.int x1] rfl dL_law_212 lmL_24 sC_44 rfl ⟨Nat.le_of_ble_eq_true rfl, Nat.le_of_ble_eq_true rfl⟩ ⟨rfl, rfl⟩ (Nat.le_of_ble_eq_true rfl) (FI.mono (fun x2 h2 vc => ?_) vc)
  exact QW.icmp_eq 866 dL_law_215 rfl (fun _ => kk h2 vc.2) (fun z => absurd vc.1 z)
theorem law_2 {k : Nat} (hL : q_L g < 2 ^ 31) (hQ : StrOK g) (hk : k + 5 ≤ q_L g) (hS : Sim h) (kk : ∀ h2 : Hp, Sim h2 → wL g K 866 h2 k) : wL g K 220 h k := by
  refine QW.aload_n dL_law_220 rfl ?_
  refine FW.callVi [] [] rfl dL_law_221 lmL_25 sC_0 rfl ⟨Nat.le_of_ble_eq_true rfl, Nat.le_of_ble_eq_true rfl⟩ ⟨rfl, rfl⟩ (Nat.le_of_ble_eq_true rfl) (FI.mono (fun x1 h1 vc => ?_) (op_fault hQ hS))
  refine QW.aload_n dL_law_224 rfl ?_
  refine FW.callVi [] [.int x1] rfl dL_law_225 lmL_28 sC_44 rfl ⟨Nat.le_of_ble_eq_true rfl, Nat.le_of_ble_eq_true rfl⟩ ⟨rfl, rfl⟩ (Nat.le_of_ble_eq_true rfl) (FI.mono (fun x2 h2 vc => ?_) vc)
  exact QW.icmp_eq 866 dL_law_228 rfl (fun _ => kk h2 vc.2) (fun z => absurd vc.1 z)
theorem law_3 {k : Nat} (hL : q_L g < 2 ^ 31) (hQ : StrOK g) (hk : k + 5 ≤ q_L g) (hS : Sim h) (kk : ∀ h2 : Hp, Sim h2 → wL g K 866 h2 k) : wL g K 233 h k := by
  refine QW.aload_n dL_law_233 rfl ?_
  refine FW.callVi [] [] rfl dL_law_234 lmL_29 sC_0 rfl ⟨Nat.le_of_ble_eq_true rfl, Nat.le_of_ble_eq_true rfl⟩ ⟨rfl, rfl⟩ (Nat.le_of_ble_eq_true rfl) (FI.mono (fun x1 h1 vc => ?_) (op_inn hQ hS))
  refine QW.aload_n dL_law_237 rfl ?_
  refine FW.callVi [] [.int x1] rfl dL_law_238 lmL_32 sC_44 rfl ⟨Nat.le_of_ble_eq_true rfl, Nat.le_of_ble_eq_true rfl⟩ ⟨rfl, rfl⟩ (Nat.le_of_ble_eq_true rfl) (FI.mono (fun x2 h2 vc => ?_) vc)
  exact QW.icmp_eq 866 dL_law_241 rfl (fun _ => kk h2 vc.2) (fun z => absurd vc.1 z)
theorem law_4 {k : Nat} (hL : q_L g < 2 ^ 31) (hQ : StrOK g) (hk : k + 5 ≤ q_L g) (hS : Sim h) (kk : ∀ h2 : Hp, Sim h2 → wL g K 866 h2 k) : wL g K 246 h k := by
  refine QW.aload_n dL_law_246 rfl ?_
  refine QW.aload_n dL_law_247 rfl ?_
  refine QW.iload_n dL_law_248 rfl ?_
  refine QW.iconst 1 rfl dL_law_249 ?_
  refine QW.iadd dL_law_250 ?_
  rw [show nI k + (1 : Int32) = nI (k + 1) from nI_add k 1]
  refine QW.sld dL_law_251 (vp_in_nI (by omega) hL) ?_
  rw [ix_nI (by omega)]
  refine QW.aload_n dL_law_252 rfl ?_
  refine QW.iload_n dL_law_253 rfl ?_
  refine QW.iconst 2 rfl dL_law_254 ?_
  refine QW.iadd dL_law_255 ?_
  rw [show nI k + (2 : Int32) = nI (k + 2) from nI_add k 2]
  refine QW.sld dL_law_256 (vp_in_nI (by omega) hL) ?_
  rw [ix_nI (by omega)]
  refine FW.callVi [.int (q_x g (k + 1)), .int (q_x g (k + 2))] [] rfl dL_law_257 lmL_33 sC_0 rfl ⟨Nat.le_of_ble_eq_true rfl, Nat.le_of_ble_eq_true rfl⟩ ⟨rfl, rfl⟩ (Nat.le_of_ble_eq_true rfl) (FI.mono (fun x1 h1 vc => ?_) (op_place hS))
  refine QW.aload_n dL_law_260 rfl ?_
  refine QW.aload_n dL_law_261 rfl ?_
  refine QW.iload_n dL_law_262 rfl ?_
  refine QW.iconst 1 rfl dL_law_263 ?_
  refine QW.iadd dL_law_264 ?_
  rw [show nI k + (1 : Int32) = nI (k + 1) from nI_add k 1]
  refine QW.sld dL_law_265 (vp_in_nI (by omega) hL) ?_
  rw [ix_nI (by omega)]
  refine QW.aload_n dL_law_266 rfl ?_
  refine QW.iload_n dL_law_267 rfl ?_
  refine QW.iconst 2 rfl dL_law_268 ?_
  refine QW.iadd dL_law_269 ?_
  rw [show nI k + (2 : Int32) = nI (k + 2) from nI_add k 2]
  refine QW.sld dL_law_270 (vp_in_nI (by omega) hL) ?_
  rw [ix_nI (by omega)]
  refine FW.callVi [.int (q_x g (k + 1)), .int (q_x g (k + 2))] [.int x1] rfl dL_law_271 lmL_37 sC_44 rfl ⟨Nat.le_of_ble_eq_true rfl, Nat.le_of_ble_eq_true rfl⟩ ⟨rfl, rfl⟩ (Nat.le_of_ble_eq_true rfl) (FI.mono (fun x2 h2 vc => ?_) vc)
  exact QW.icmp_eq 866 dL_law_274 rfl (fun _ => kk h2 vc.2) (fun z => absurd vc.1 z)
theorem law_5 {k : Nat} (hL : q_L g < 2 ^ 31) (hQ : StrOK g) (hk : k + 5 ≤ q_L g) (hS : Sim h) (kk : ∀ h2 : Hp, Sim h2 → wL g K 866 h2 k) : wL g K 279 h k := by
  refine QW.aload_n dL_law_279 rfl ?_
  refine QW.aload_n dL_law_280 rfl ?_
  refine QW.iload_n dL_law_281 rfl ?_
  refine QW.iconst 1 rfl dL_law_282 ?_
  refine QW.iadd dL_law_283 ?_
  rw [show nI k + (1 : Int32) = nI (k + 1) from nI_add k 1]
  refine QW.sld dL_law_284 (vp_in_nI (by omega) hL) ?_
  rw [ix_nI (by omega)]
  refine QW.aload_n dL_law_285 rfl ?_
  refine QW.iload_n dL_law_286 rfl ?_
  refine QW.iconst 2 rfl dL_law_287 ?_
  refine QW.iadd dL_law_288 ?_
  rw [show nI k + (2 : Int32) = nI (k + 2) from nI_add k 2]
  refine QW.sld dL_law_289 (vp_in_nI (by omega) hL) ?_
  rw [ix_nI (by omega)]
  refine FW.callVi [.int (q_x g (k + 1)), .int (q_x g (k + 2))] [] rfl dL_law_290 lmL_38 sC_0 rfl ⟨Nat.le_of_ble_eq_true rfl, Nat.le_of_ble_eq_true rfl⟩ ⟨rfl, rfl⟩ (Nat.le_of_ble_eq_true rfl) (FI.mono (fun x1 h1 vc => ?_) (op_guest hS))
  refine QW.aload_n dL_law_293 rfl ?_
  refine QW.aload_n dL_law_294 rfl ?_
  refine QW.iload_n dL_law_295 rfl ?_
  refine QW.iconst 1 rfl dL_law_296 ?_
  refine QW.iadd dL_law_297 ?_
  rw [show nI k + (1 : Int32) = nI (k + 1) from nI_add k 1]
  refine QW.sld dL_law_298 (vp_in_nI (by omega) hL) ?_
  rw [ix_nI (by omega)]
  refine QW.aload_n dL_law_299 rfl ?_
  refine QW.iload_n dL_law_300 rfl ?_
  refine QW.iconst 2 rfl dL_law_301 ?_
  refine QW.iadd dL_law_302 ?_
  rw [show nI k + (2 : Int32) = nI (k + 2) from nI_add k 2]
  refine QW.sld dL_law_303 (vp_in_nI (by omega) hL) ?_
  rw [ix_nI (by omega)]
  refine FW.callVi [.int (q_x g (k + 1)), .int (q_x g (k + 2))] [.int x1] rfl dL_law_304 lmL_41 sC_44 rfl ⟨Nat.le_of_ble_eq_true rfl, Nat.le_of_ble_eq_true rfl⟩ ⟨rfl, rfl⟩ (Nat.le_of_ble_eq_true rfl) (FI.mono (fun x2 h2 vc => ?_) vc)
  exact QW.icmp_eq 866 dL_law_307 rfl (fun _ => kk h2 vc.2) (fun z => absurd vc.1 z)
theorem law_6 {k : Nat} (hL : q_L g < 2 ^ 31) (hQ : StrOK g) (hk : k + 5 ≤ q_L g) (hS : Sim h) (kk : ∀ h2 : Hp, Sim h2 → wL g K 866 h2 k) : wL g K 312 h k := by
  refine QW.aload_n dL_law_312 rfl ?_
  refine QW.aload_n dL_law_313 rfl ?_
  refine QW.iload_n dL_law_314 rfl ?_
  refine QW.iconst 1 rfl dL_law_315 ?_
  refine QW.iadd dL_law_316 ?_
  rw [show nI k + (1 : Int32) = nI (k + 1) from nI_add k 1]
  refine QW.sld dL_law_317 (vp_in_nI (by omega) hL) ?_
  rw [ix_nI (by omega)]
  refine QW.aload_n dL_law_318 rfl ?_
  refine QW.iload_n dL_law_319 rfl ?_
  refine QW.iconst 2 rfl dL_law_320 ?_
  refine QW.iadd dL_law_321 ?_
  rw [show nI k + (2 : Int32) = nI (k + 2) from nI_add k 2]
  refine QW.sld dL_law_322 (vp_in_nI (by omega) hL) ?_
  rw [ix_nI (by omega)]
  refine FW.callVi [.int (q_x g (k + 1)), .int (q_x g (k + 2))] [] rfl dL_law_323 lmL_42 sC_0 rfl ⟨Nat.le_of_ble_eq_true rfl, Nat.le_of_ble_eq_true rfl⟩ ⟨rfl, rfl⟩ (Nat.le_of_ble_eq_true rfl) (FI.mono (fun x1 h1 vc => ?_) (op_as hS))
  refine QW.aload_n dL_law_326 rfl ?_
  refine QW.aload_n dL_law_327 rfl ?_
  refine QW.iload_n dL_law_328 rfl ?_
  refine QW.iconst 1 rfl dL_law_329 ?_
  refine QW.iadd dL_law_330 ?_
  rw [show nI k + (1 : Int32) = nI (k + 1) from nI_add k 1]
  refine QW.sld dL_law_331 (vp_in_nI (by omega) hL) ?_
  rw [ix_nI (by omega)]
  refine QW.aload_n dL_law_332 rfl ?_
  refine QW.iload_n dL_law_333 rfl ?_
  refine QW.iconst 2 rfl dL_law_334 ?_
  refine QW.iadd dL_law_335 ?_
  rw [show nI k + (2 : Int32) = nI (k + 2) from nI_add k 2]
  refine QW.sld dL_law_336 (vp_in_nI (by omega) hL) ?_
  rw [ix_nI (by omega)]
  refine FW.callVi [.int (q_x g (k + 1)), .int (q_x g (k + 2))] [.int x1] rfl dL_law_337 lmL_45 sC_44 rfl ⟨Nat.le_of_ble_eq_true rfl, Nat.le_of_ble_eq_true rfl⟩ ⟨rfl, rfl⟩ (Nat.le_of_ble_eq_true rfl) (FI.mono (fun x2 h2 vc => ?_) vc)
  exact QW.icmp_eq 866 dL_law_340 rfl (fun _ => kk h2 vc.2) (fun z => absurd vc.1 z)
theorem law_7 {k : Nat} (hL : q_L g < 2 ^ 31) (hQ : StrOK g) (hk : k + 5 ≤ q_L g) (hS : Sim h) (kk : ∀ h2 : Hp, Sim h2 → wL g K 866 h2 k) : wL g K 345 h k := by
  refine QW.aload_n dL_law_345 rfl ?_
  refine QW.aload_n dL_law_346 rfl ?_
  refine QW.iload_n dL_law_347 rfl ?_
  refine QW.iconst 1 rfl dL_law_348 ?_
  refine QW.iadd dL_law_349 ?_
  rw [show nI k + (1 : Int32) = nI (k + 1) from nI_add k 1]
  refine QW.sld dL_law_350 (vp_in_nI (by omega) hL) ?_
  rw [ix_nI (by omega)]
  refine FW.callVi [.int (q_x g (k + 1))] [] rfl dL_law_351 lmL_46 sC_0 rfl ⟨Nat.le_of_ble_eq_true rfl, Nat.le_of_ble_eq_true rfl⟩ ⟨rfl, rfl⟩ (Nat.le_of_ble_eq_true rfl) (FI.mono (fun x1 h1 vc => ?_) (op_walk hS))
  refine QW.aload_n dL_law_354 rfl ?_
  refine QW.aload_n dL_law_355 rfl ?_
  refine QW.iload_n dL_law_356 rfl ?_
  refine QW.iconst 1 rfl dL_law_357 ?_
  refine QW.iadd dL_law_358 ?_
  rw [show nI k + (1 : Int32) = nI (k + 1) from nI_add k 1]
  refine QW.sld dL_law_359 (vp_in_nI (by omega) hL) ?_
  rw [ix_nI (by omega)]
  refine FW.callVi [.int (q_x g (k + 1))] [.int x1] rfl dL_law_360 lmL_50 sC_44 rfl ⟨Nat.le_of_ble_eq_true rfl, Nat.le_of_ble_eq_true rfl⟩ ⟨rfl, rfl⟩ (Nat.le_of_ble_eq_true rfl) (FI.mono (fun x2 h2 vc => ?_) vc)
  exact QW.icmp_eq 866 dL_law_363 rfl (fun _ => kk h2 vc.2) (fun z => absurd vc.1 z)
theorem law_8 {k : Nat} (hL : q_L g < 2 ^ 31) (hQ : StrOK g) (hk : k + 5 ≤ q_L g) (hS : Sim h) (kk : ∀ h2 : Hp, Sim h2 → wL g K 866 h2 k) : wL g K 368 h k := by
  refine QW.aload_n dL_law_368 rfl ?_
  refine FW.callVi [] [] rfl dL_law_369 lmL_51 sC_0 rfl ⟨Nat.le_of_ble_eq_true rfl, Nat.le_of_ble_eq_true rfl⟩ ⟨rfl, rfl⟩ (Nat.le_of_ble_eq_true rfl) (FI.mono (fun x1 h1 vc => ?_) (op_stop hS))
  refine QW.aload_n dL_law_372 rfl ?_
  refine FW.callVi [] [.int x1] rfl dL_law_373 lmL_54 sC_44 rfl ⟨Nat.le_of_ble_eq_true rfl, Nat.le_of_ble_eq_true rfl⟩ ⟨rfl, rfl⟩ (Nat.le_of_ble_eq_true rfl) (FI.mono (fun x2 h2 vc => ?_) vc)
  exact QW.icmp_eq 866 dL_law_376 rfl (fun _ => kk h2 vc.2) (fun z => absurd vc.1 z)
theorem law_9 {k : Nat} (hL : q_L g < 2 ^ 31) (hQ : StrOK g) (hk : k + 5 ≤ q_L g) (hS : Sim h) (kk : ∀ h2 : Hp, Sim h2 → wL g K 866 h2 k) : wL g K 381 h k := by
  refine QW.aload_n dL_law_381 rfl ?_
  refine FW.callVi [] [] rfl dL_law_382 lmL_55 sC_0 rfl ⟨Nat.le_of_ble_eq_true rfl, Nat.le_of_ble_eq_true rfl⟩ ⟨rfl, rfl⟩ (Nat.le_of_ble_eq_true rfl) (FI.mono (fun x1 h1 vc => ?_) (op_play hS))
  refine QW.aload_n dL_law_385 rfl ?_
  refine FW.callVi [] [.int x1] rfl dL_law_386 lmL_58 sC_44 rfl ⟨Nat.le_of_ble_eq_true rfl, Nat.le_of_ble_eq_true rfl⟩ ⟨rfl, rfl⟩ (Nat.le_of_ble_eq_true rfl) (FI.mono (fun x2 h2 vc => ?_) vc)
  exact QW.icmp_eq 866 dL_law_389 rfl (fun _ => kk h2 vc.2) (fun z => absurd vc.1 z)
theorem law_10 {k : Nat} (hL : q_L g < 2 ^ 31) (hQ : StrOK g) (hk : k + 5 ≤ q_L g) (hS : Sim h) (kk : ∀ h2 : Hp, Sim h2 → wL g K 866 h2 k) : wL g K 394 h k := by
  refine QW.aload_n dL_law_394 rfl ?_
  refine QW.aload_n dL_law_395 rfl ?_
  refine QW.iload_n dL_law_396 rfl ?_
  refine QW.iconst 1 rfl dL_law_397 ?_
  refine QW.iadd dL_law_398 ?_
  rw [show nI k + (1 : Int32) = nI (k + 1) from nI_add k 1]
  refine QW.sld dL_law_399 (vp_in_nI (by omega) hL) ?_
  rw [ix_nI (by omega)]
  refine FW.callVi [.int (q_x g (k + 1))] [] rfl dL_law_400 lmL_59 sC_0 rfl ⟨Nat.le_of_ble_eq_true rfl, Nat.le_of_ble_eq_true rfl⟩ ⟨rfl, rfl⟩ (Nat.le_of_ble_eq_true rfl) (FI.mono (fun x1 h1 vc => ?_) (op_keep hS))
  refine QW.aload_n dL_law_403 rfl ?_
  refine QW.aload_n dL_law_404 rfl ?_
  refine QW.iload_n dL_law_405 rfl ?_
  refine QW.iconst 1 rfl dL_law_406 ?_
  refine QW.iadd dL_law_407 ?_
  rw [show nI k + (1 : Int32) = nI (k + 1) from nI_add k 1]
  refine QW.sld dL_law_408 (vp_in_nI (by omega) hL) ?_
  rw [ix_nI (by omega)]
  refine FW.callVi [.int (q_x g (k + 1))] [.int x1] rfl dL_law_409 lmL_62 sC_44 rfl ⟨Nat.le_of_ble_eq_true rfl, Nat.le_of_ble_eq_true rfl⟩ ⟨rfl, rfl⟩ (Nat.le_of_ble_eq_true rfl) (FI.mono (fun x2 h2 vc => ?_) vc)
  exact QW.icmp_eq 866 dL_law_412 rfl (fun _ => kk h2 vc.2) (fun z => absurd vc.1 z)
theorem law_11 {k : Nat} (hL : q_L g < 2 ^ 31) (hQ : StrOK g) (hk : k + 5 ≤ q_L g) (hS : Sim h) (kk : ∀ h2 : Hp, Sim h2 → wL g K 866 h2 k) : wL g K 417 h k := by
  refine QW.aload_n dL_law_417 rfl ?_
  refine QW.aload_n dL_law_418 rfl ?_
  refine QW.iload_n dL_law_419 rfl ?_
  refine QW.iconst 1 rfl dL_law_420 ?_
  refine QW.iadd dL_law_421 ?_
  rw [show nI k + (1 : Int32) = nI (k + 1) from nI_add k 1]
  refine QW.sld dL_law_422 (vp_in_nI (by omega) hL) ?_
  rw [ix_nI (by omega)]
  refine FW.callVi [.int (q_x g (k + 1))] [] rfl dL_law_423 lmL_63 sC_0 rfl ⟨Nat.le_of_ble_eq_true rfl, Nat.le_of_ble_eq_true rfl⟩ ⟨rfl, rfl⟩ (Nat.le_of_ble_eq_true rfl) (FI.mono (fun x1 h1 vc => ?_) (op_back hS))
  refine QW.aload_n dL_law_426 rfl ?_
  refine QW.aload_n dL_law_427 rfl ?_
  refine QW.iload_n dL_law_428 rfl ?_
  refine QW.iconst 1 rfl dL_law_429 ?_
  refine QW.iadd dL_law_430 ?_
  rw [show nI k + (1 : Int32) = nI (k + 1) from nI_add k 1]
  refine QW.sld dL_law_431 (vp_in_nI (by omega) hL) ?_
  rw [ix_nI (by omega)]
  refine FW.callVi [.int (q_x g (k + 1))] [.int x1] rfl dL_law_432 lmL_66 sC_44 rfl ⟨Nat.le_of_ble_eq_true rfl, Nat.le_of_ble_eq_true rfl⟩ ⟨rfl, rfl⟩ (Nat.le_of_ble_eq_true rfl) (FI.mono (fun x2 h2 vc => ?_) vc)
  exact QW.icmp_eq 866 dL_law_435 rfl (fun _ => kk h2 vc.2) (fun z => absurd vc.1 z)
theorem law_12 {k : Nat} (hL : q_L g < 2 ^ 31) (hQ : StrOK g) (hk : k + 5 ≤ q_L g) (hS : Sim h) (kk : ∀ h2 : Hp, Sim h2 → wL g K 866 h2 k) : wL g K 440 h k := by
  refine QW.aload_n dL_law_440 rfl ?_
  refine QW.aload_n dL_law_441 rfl ?_
  refine QW.iload_n dL_law_442 rfl ?_
  refine QW.iconst 1 rfl dL_law_443 ?_
  refine QW.iadd dL_law_444 ?_
  rw [show nI k + (1 : Int32) = nI (k + 1) from nI_add k 1]
  refine QW.sld dL_law_445 (vp_in_nI (by omega) hL) ?_
  rw [ix_nI (by omega)]
  refine FW.callVi [.int (q_x g (k + 1))] [] rfl dL_law_446 lmL_67 sC_0 rfl ⟨Nat.le_of_ble_eq_true rfl, Nat.le_of_ble_eq_true rfl⟩ ⟨rfl, rfl⟩ (Nat.le_of_ble_eq_true rfl) (FI.mono (fun x1 h1 vc => ?_) (op_standing hS))
  refine QW.aload_n dL_law_449 rfl ?_
  refine QW.aload_n dL_law_450 rfl ?_
  refine QW.iload_n dL_law_451 rfl ?_
  refine QW.iconst 1 rfl dL_law_452 ?_
  refine QW.iadd dL_law_453 ?_
  rw [show nI k + (1 : Int32) = nI (k + 1) from nI_add k 1]
  refine QW.sld dL_law_454 (vp_in_nI (by omega) hL) ?_
  rw [ix_nI (by omega)]
  refine FW.callVi [.int (q_x g (k + 1))] [.int x1] rfl dL_law_455 lmL_70 sC_44 rfl ⟨Nat.le_of_ble_eq_true rfl, Nat.le_of_ble_eq_true rfl⟩ ⟨rfl, rfl⟩ (Nat.le_of_ble_eq_true rfl) (FI.mono (fun x2 h2 vc => ?_) vc)
  exact QW.icmp_eq 866 dL_law_458 rfl (fun _ => kk h2 vc.2) (fun z => absurd vc.1 z)
theorem law_13 {k : Nat} (hL : q_L g < 2 ^ 31) (hQ : StrOK g) (hk : k + 5 ≤ q_L g) (hS : Sim h) (kk : ∀ h2 : Hp, Sim h2 → wL g K 866 h2 k) : wL g K 463 h k := by
  refine QW.aload_n dL_law_463 rfl ?_
  refine QW.aload_n dL_law_464 rfl ?_
  refine QW.iload_n dL_law_465 rfl ?_
  refine QW.iconst 1 rfl dL_law_466 ?_
  refine QW.iadd dL_law_467 ?_
  rw [show nI k + (1 : Int32) = nI (k + 1) from nI_add k 1]
  refine QW.sld dL_law_468 (vp_in_nI (by omega) hL) ?_
  rw [ix_nI (by omega)]
  refine QW.aload_n dL_law_469 rfl ?_
  refine QW.iload_n dL_law_470 rfl ?_
  refine QW.iconst 2 rfl dL_law_471 ?_
  refine QW.iadd dL_law_472 ?_
  rw [show nI k + (2 : Int32) = nI (k + 2) from nI_add k 2]
  refine QW.sld dL_law_473 (vp_in_nI (by omega) hL) ?_
  rw [ix_nI (by omega)]
  refine QW.aload_n dL_law_474 rfl ?_
  refine QW.iload_n dL_law_475 rfl ?_
  refine QW.iconst 3 rfl dL_law_476 ?_
  refine QW.iadd dL_law_477 ?_
  rw [show nI k + (3 : Int32) = nI (k + 3) from nI_add k 3]
  refine QW.sld dL_law_478 (vp_in_nI (by omega) hL) ?_
  rw [ix_nI (by omega)]
  refine QW.aload_n dL_law_479 rfl ?_
  refine QW.iload_n dL_law_480 rfl ?_
  refine QW.iconst 4 rfl dL_law_481 ?_
  refine QW.iadd dL_law_482 ?_
  rw [show nI k + (4 : Int32) = nI (k + 4) from nI_add k 4]
  refine QW.sld dL_law_483 (vp_in_nI (by omega) hL) ?_
  rw [ix_nI (by omega)]
  refine FW.callVi [.int (q_x g (k + 1)), .int (q_x g (k + 2)), .int (q_x g (k + 3)), .int (q_x g (k + 4))] [] rfl dL_law_484 lmL_71 sC_0 rfl ⟨Nat.le_of_ble_eq_true rfl, Nat.le_of_ble_eq_true rfl⟩ ⟨rfl, rfl⟩ (Nat.le_of_ble_eq_true rfl) (FI.mono (fun x1 h1 vc => ?_) (op_odds hS))
  refine QW.aload_n dL_law_487 rfl ?_
  refine QW.aload_n dL_law_488 rfl ?_
  refine QW.iload_n dL_law_489 rfl ?_
  refine QW.iconst 1 rfl dL_law_490 ?_
  refine QW.iadd dL_law_491 ?_
  rw [show nI k + (1 : Int32) = nI (k + 1) from nI_add k 1]
  refine QW.sld dL_law_492 (vp_in_nI (by omega) hL) ?_
  rw [ix_nI (by omega)]
  refine QW.aload_n dL_law_493 rfl ?_
  refine QW.iload_n dL_law_494 rfl ?_
  refine QW.iconst 2 rfl dL_law_495 ?_
  refine QW.iadd dL_law_496 ?_
  rw [show nI k + (2 : Int32) = nI (k + 2) from nI_add k 2]
  refine QW.sld dL_law_497 (vp_in_nI (by omega) hL) ?_
  rw [ix_nI (by omega)]
  refine QW.aload_n dL_law_498 rfl ?_
  refine QW.iload_n dL_law_499 rfl ?_
  refine QW.iconst 3 rfl dL_law_500 ?_
  refine QW.iadd dL_law_501 ?_
  rw [show nI k + (3 : Int32) = nI (k + 3) from nI_add k 3]
  refine QW.sld dL_law_502 (vp_in_nI (by omega) hL) ?_
  rw [ix_nI (by omega)]
  refine QW.aload_n dL_law_503 rfl ?_
  refine QW.iload_n dL_law_504 rfl ?_
  refine QW.iconst 4 rfl dL_law_505 ?_
  refine QW.iadd dL_law_506 ?_
  rw [show nI k + (4 : Int32) = nI (k + 4) from nI_add k 4]
  refine QW.sld dL_law_507 (vp_in_nI (by omega) hL) ?_
  rw [ix_nI (by omega)]
  refine FW.callVi [.int (q_x g (k + 1)), .int (q_x g (k + 2)), .int (q_x g (k + 3)), .int (q_x g (k + 4))] [.int x1] rfl dL_law_508 lmL_75 sC_44 rfl ⟨Nat.le_of_ble_eq_true rfl, Nat.le_of_ble_eq_true rfl⟩ ⟨rfl, rfl⟩ (Nat.le_of_ble_eq_true rfl) (FI.mono (fun x2 h2 vc => ?_) vc)
  exact QW.icmp_eq 866 dL_law_511 rfl (fun _ => kk h2 vc.2) (fun z => absurd vc.1 z)
theorem law_14 {k : Nat} (hL : q_L g < 2 ^ 31) (hQ : StrOK g) (hk : k + 5 ≤ q_L g) (hS : Sim h) (kk : ∀ h2 : Hp, Sim h2 → wL g K 866 h2 k) : wL g K 516 h k := by
  refine QW.aload_n dL_law_516 rfl ?_
  refine QW.aload_n dL_law_517 rfl ?_
  refine QW.iload_n dL_law_518 rfl ?_
  refine QW.iconst 1 rfl dL_law_519 ?_
  refine QW.iadd dL_law_520 ?_
  rw [show nI k + (1 : Int32) = nI (k + 1) from nI_add k 1]
  refine QW.sld dL_law_521 (vp_in_nI (by omega) hL) ?_
  rw [ix_nI (by omega)]
  refine QW.aload_n dL_law_522 rfl ?_
  refine QW.iload_n dL_law_523 rfl ?_
  refine QW.iconst 2 rfl dL_law_524 ?_
  refine QW.iadd dL_law_525 ?_
  rw [show nI k + (2 : Int32) = nI (k + 2) from nI_add k 2]
  refine QW.sld dL_law_526 (vp_in_nI (by omega) hL) ?_
  rw [ix_nI (by omega)]
  refine QW.aload_n dL_law_527 rfl ?_
  refine QW.iload_n dL_law_528 rfl ?_
  refine QW.iconst 3 rfl dL_law_529 ?_
  refine QW.iadd dL_law_530 ?_
  rw [show nI k + (3 : Int32) = nI (k + 3) from nI_add k 3]
  refine QW.sld dL_law_531 (vp_in_nI (by omega) hL) ?_
  rw [ix_nI (by omega)]
  refine QW.aload_n dL_law_532 rfl ?_
  refine QW.iload_n dL_law_533 rfl ?_
  refine QW.iconst 4 rfl dL_law_534 ?_
  refine QW.iadd dL_law_535 ?_
  rw [show nI k + (4 : Int32) = nI (k + 4) from nI_add k 4]
  refine QW.sld dL_law_536 (vp_in_nI (by omega) hL) ?_
  rw [ix_nI (by omega)]
  refine FW.callVi [.int (q_x g (k + 1)), .int (q_x g (k + 2)), .int (q_x g (k + 3)), .int (q_x g (k + 4))] [] rfl dL_law_537 lmL_76 sC_0 rfl ⟨Nat.le_of_ble_eq_true rfl, Nat.le_of_ble_eq_true rfl⟩ ⟨rfl, rfl⟩ (Nat.le_of_ble_eq_true rfl) (FI.mono (fun x1 h1 vc => ?_) (op_surest hS))
  refine QW.aload_n dL_law_540 rfl ?_
  refine QW.aload_n dL_law_541 rfl ?_
  refine QW.iload_n dL_law_542 rfl ?_
  refine QW.iconst 1 rfl dL_law_543 ?_
  refine QW.iadd dL_law_544 ?_
  rw [show nI k + (1 : Int32) = nI (k + 1) from nI_add k 1]
  refine QW.sld dL_law_545 (vp_in_nI (by omega) hL) ?_
  rw [ix_nI (by omega)]
  refine QW.aload_n dL_law_546 rfl ?_
  refine QW.iload_n dL_law_547 rfl ?_
  refine QW.iconst 2 rfl dL_law_548 ?_
  refine QW.iadd dL_law_549 ?_
  rw [show nI k + (2 : Int32) = nI (k + 2) from nI_add k 2]
  refine QW.sld dL_law_550 (vp_in_nI (by omega) hL) ?_
  rw [ix_nI (by omega)]
  refine QW.aload_n dL_law_551 rfl ?_
  refine QW.iload_n dL_law_552 rfl ?_
  refine QW.iconst 3 rfl dL_law_553 ?_
  refine QW.iadd dL_law_554 ?_
  rw [show nI k + (3 : Int32) = nI (k + 3) from nI_add k 3]
  refine QW.sld dL_law_555 (vp_in_nI (by omega) hL) ?_
  rw [ix_nI (by omega)]
  refine QW.aload_n dL_law_556 rfl ?_
  refine QW.iload_n dL_law_557 rfl ?_
  refine QW.iconst 4 rfl dL_law_558 ?_
  refine QW.iadd dL_law_559 ?_
  rw [show nI k + (4 : Int32) = nI (k + 4) from nI_add k 4]
  refine QW.sld dL_law_560 (vp_in_nI (by omega) hL) ?_
  rw [ix_nI (by omega)]
  refine FW.callVi [.int (q_x g (k + 1)), .int (q_x g (k + 2)), .int (q_x g (k + 3)), .int (q_x g (k + 4))] [.int x1] rfl dL_law_561 lmL_79 sC_44 rfl ⟨Nat.le_of_ble_eq_true rfl, Nat.le_of_ble_eq_true rfl⟩ ⟨rfl, rfl⟩ (Nat.le_of_ble_eq_true rfl) (FI.mono (fun x2 h2 vc => ?_) vc)
  exact QW.icmp_eq 866 dL_law_564 rfl (fun _ => kk h2 vc.2) (fun z => absurd vc.1 z)
theorem law_15 {k : Nat} (hL : q_L g < 2 ^ 31) (hQ : StrOK g) (hk : k + 5 ≤ q_L g) (hS : Sim h) (kk : ∀ h2 : Hp, Sim h2 → wL g K 866 h2 k) : wL g K 569 h k := by
  refine QW.aload_n dL_law_569 rfl ?_
  refine QW.aload_n dL_law_570 rfl ?_
  refine QW.iload_n dL_law_571 rfl ?_
  refine QW.iconst 1 rfl dL_law_572 ?_
  refine QW.iadd dL_law_573 ?_
  rw [show nI k + (1 : Int32) = nI (k + 1) from nI_add k 1]
  refine QW.sld dL_law_574 (vp_in_nI (by omega) hL) ?_
  rw [ix_nI (by omega)]
  refine QW.aload_n dL_law_575 rfl ?_
  refine QW.iload_n dL_law_576 rfl ?_
  refine QW.iconst 2 rfl dL_law_577 ?_
  refine QW.iadd dL_law_578 ?_
  rw [show nI k + (2 : Int32) = nI (k + 2) from nI_add k 2]
  refine QW.sld dL_law_579 (vp_in_nI (by omega) hL) ?_
  rw [ix_nI (by omega)]
  refine QW.aload_n dL_law_580 rfl ?_
  refine QW.iload_n dL_law_581 rfl ?_
  refine QW.iconst 3 rfl dL_law_582 ?_
  refine QW.iadd dL_law_583 ?_
  rw [show nI k + (3 : Int32) = nI (k + 3) from nI_add k 3]
  refine QW.sld dL_law_584 (vp_in_nI (by omega) hL) ?_
  rw [ix_nI (by omega)]
  refine FW.callVi [.int (q_x g (k + 1)), .int (q_x g (k + 2)), .int (q_x g (k + 3))] [] rfl dL_law_585 lmL_80 sC_0 rfl ⟨Nat.le_of_ble_eq_true rfl, Nat.le_of_ble_eq_true rfl⟩ ⟨rfl, rfl⟩ (Nat.le_of_ble_eq_true rfl) (FI.mono (fun x1 h1 vc => ?_) (op_still hS))
  refine QW.aload_n dL_law_588 rfl ?_
  refine QW.aload_n dL_law_589 rfl ?_
  refine QW.iload_n dL_law_590 rfl ?_
  refine QW.iconst 1 rfl dL_law_591 ?_
  refine QW.iadd dL_law_592 ?_
  rw [show nI k + (1 : Int32) = nI (k + 1) from nI_add k 1]
  refine QW.sld dL_law_593 (vp_in_nI (by omega) hL) ?_
  rw [ix_nI (by omega)]
  refine QW.aload_n dL_law_594 rfl ?_
  refine QW.iload_n dL_law_595 rfl ?_
  refine QW.iconst 2 rfl dL_law_596 ?_
  refine QW.iadd dL_law_597 ?_
  rw [show nI k + (2 : Int32) = nI (k + 2) from nI_add k 2]
  refine QW.sld dL_law_598 (vp_in_nI (by omega) hL) ?_
  rw [ix_nI (by omega)]
  refine QW.aload_n dL_law_599 rfl ?_
  refine QW.iload_n dL_law_600 rfl ?_
  refine QW.iconst 3 rfl dL_law_601 ?_
  refine QW.iadd dL_law_602 ?_
  rw [show nI k + (3 : Int32) = nI (k + 3) from nI_add k 3]
  refine QW.sld dL_law_603 (vp_in_nI (by omega) hL) ?_
  rw [ix_nI (by omega)]
  refine FW.callVi [.int (q_x g (k + 1)), .int (q_x g (k + 2)), .int (q_x g (k + 3))] [.int x1] rfl dL_law_604 lmL_84 sC_44 rfl ⟨Nat.le_of_ble_eq_true rfl, Nat.le_of_ble_eq_true rfl⟩ ⟨rfl, rfl⟩ (Nat.le_of_ble_eq_true rfl) (FI.mono (fun x2 h2 vc => ?_) vc)
  exact QW.icmp_eq 866 dL_law_607 rfl (fun _ => kk h2 vc.2) (fun z => absurd vc.1 z)
theorem law_16 {k : Nat} (hL : q_L g < 2 ^ 31) (hQ : StrOK g) (hk : k + 5 ≤ q_L g) (hS : Sim h) (kk : ∀ h2 : Hp, Sim h2 → wL g K 866 h2 k) : wL g K 612 h k := by
  refine QW.aload_n dL_law_612 rfl ?_
  refine QW.aload_n dL_law_613 rfl ?_
  refine QW.iload_n dL_law_614 rfl ?_
  refine QW.iconst 1 rfl dL_law_615 ?_
  refine QW.iadd dL_law_616 ?_
  rw [show nI k + (1 : Int32) = nI (k + 1) from nI_add k 1]
  refine QW.sld dL_law_617 (vp_in_nI (by omega) hL) ?_
  rw [ix_nI (by omega)]
  refine QW.aload_n dL_law_618 rfl ?_
  refine QW.iload_n dL_law_619 rfl ?_
  refine QW.iconst 2 rfl dL_law_620 ?_
  refine QW.iadd dL_law_621 ?_
  rw [show nI k + (2 : Int32) = nI (k + 2) from nI_add k 2]
  refine QW.sld dL_law_622 (vp_in_nI (by omega) hL) ?_
  rw [ix_nI (by omega)]
  refine QW.aload_n dL_law_623 rfl ?_
  refine QW.iload_n dL_law_624 rfl ?_
  refine QW.iconst 3 rfl dL_law_625 ?_
  refine QW.iadd dL_law_626 ?_
  rw [show nI k + (3 : Int32) = nI (k + 3) from nI_add k 3]
  refine QW.sld dL_law_627 (vp_in_nI (by omega) hL) ?_
  rw [ix_nI (by omega)]
  refine QW.aload_n dL_law_628 rfl ?_
  refine QW.iload_n dL_law_629 rfl ?_
  refine QW.iconst 4 rfl dL_law_630 ?_
  refine QW.iadd dL_law_631 ?_
  rw [show nI k + (4 : Int32) = nI (k + 4) from nI_add k 4]
  refine QW.sld dL_law_632 (vp_in_nI (by omega) hL) ?_
  rw [ix_nI (by omega)]
  refine FW.callVi [.int (q_x g (k + 1)), .int (q_x g (k + 2)), .int (q_x g (k + 3)), .int (q_x g (k + 4))] [] rfl dL_law_633 lmL_85 sC_0 rfl ⟨Nat.le_of_ble_eq_true rfl, Nat.le_of_ble_eq_true rfl⟩ ⟨rfl, rfl⟩ (Nat.le_of_ble_eq_true rfl) (FI.mono (fun x1 h1 vc => ?_) (op_plot hS))
  refine QW.aload_n dL_law_636 rfl ?_
  refine QW.aload_n dL_law_637 rfl ?_
  refine QW.iload_n dL_law_638 rfl ?_
  refine QW.iconst 1 rfl dL_law_639 ?_
  refine QW.iadd dL_law_640 ?_
  rw [show nI k + (1 : Int32) = nI (k + 1) from nI_add k 1]
  refine QW.sld dL_law_641 (vp_in_nI (by omega) hL) ?_
  rw [ix_nI (by omega)]
  refine QW.aload_n dL_law_642 rfl ?_
  refine QW.iload_n dL_law_643 rfl ?_
  refine QW.iconst 2 rfl dL_law_644 ?_
  refine QW.iadd dL_law_645 ?_
  rw [show nI k + (2 : Int32) = nI (k + 2) from nI_add k 2]
  refine QW.sld dL_law_646 (vp_in_nI (by omega) hL) ?_
  rw [ix_nI (by omega)]
  refine QW.aload_n dL_law_647 rfl ?_
  refine QW.iload_n dL_law_648 rfl ?_
  refine QW.iconst 3 rfl dL_law_649 ?_
  refine QW.iadd dL_law_650 ?_
  rw [show nI k + (3 : Int32) = nI (k + 3) from nI_add k 3]
  refine QW.sld dL_law_651 (vp_in_nI (by omega) hL) ?_
  rw [ix_nI (by omega)]
  refine QW.aload_n dL_law_652 rfl ?_
  refine QW.iload_n dL_law_653 rfl ?_
  refine QW.iconst 4 rfl dL_law_654 ?_
  refine QW.iadd dL_law_655 ?_
  rw [show nI k + (4 : Int32) = nI (k + 4) from nI_add k 4]
  refine QW.sld dL_law_656 (vp_in_nI (by omega) hL) ?_
  rw [ix_nI (by omega)]
  refine FW.callVi [.int (q_x g (k + 1)), .int (q_x g (k + 2)), .int (q_x g (k + 3)), .int (q_x g (k + 4))] [.int x1] rfl dL_law_657 lmL_88 sC_44 rfl ⟨Nat.le_of_ble_eq_true rfl, Nat.le_of_ble_eq_true rfl⟩ ⟨rfl, rfl⟩ (Nat.le_of_ble_eq_true rfl) (FI.mono (fun x2 h2 vc => ?_) vc)
  exact QW.icmp_eq 866 dL_law_660 rfl (fun _ => kk h2 vc.2) (fun z => absurd vc.1 z)
theorem law_17 {k : Nat} (hL : q_L g < 2 ^ 31) (hQ : StrOK g) (hk : k + 5 ≤ q_L g) (hS : Sim h) (kk : ∀ h2 : Hp, Sim h2 → wL g K 866 h2 k) : wL g K 665 h k := by
  refine QW.aload_n dL_law_665 rfl ?_
  refine QW.aload_n dL_law_666 rfl ?_
  refine QW.iload_n dL_law_667 rfl ?_
  refine QW.iconst 1 rfl dL_law_668 ?_
  refine QW.iadd dL_law_669 ?_
  rw [show nI k + (1 : Int32) = nI (k + 1) from nI_add k 1]
  refine QW.sld dL_law_670 (vp_in_nI (by omega) hL) ?_
  rw [ix_nI (by omega)]
  refine FW.callVi [.int (q_x g (k + 1))] [] rfl dL_law_671 lmL_89 sC_0 rfl ⟨Nat.le_of_ble_eq_true rfl, Nat.le_of_ble_eq_true rfl⟩ ⟨rfl, rfl⟩ (Nat.le_of_ble_eq_true rfl) (FI.mono (fun x1 h1 vc => ?_) (op_price hS))
  refine QW.aload_n dL_law_674 rfl ?_
  refine QW.aload_n dL_law_675 rfl ?_
  refine QW.iload_n dL_law_676 rfl ?_
  refine QW.iconst 1 rfl dL_law_677 ?_
  refine QW.iadd dL_law_678 ?_
  rw [show nI k + (1 : Int32) = nI (k + 1) from nI_add k 1]
  refine QW.sld dL_law_679 (vp_in_nI (by omega) hL) ?_
  rw [ix_nI (by omega)]
  refine FW.callVi [.int (q_x g (k + 1))] [.int x1] rfl dL_law_680 lmL_92 sC_44 rfl ⟨Nat.le_of_ble_eq_true rfl, Nat.le_of_ble_eq_true rfl⟩ ⟨rfl, rfl⟩ (Nat.le_of_ble_eq_true rfl) (FI.mono (fun x2 h2 vc => ?_) vc)
  exact QW.icmp_eq 866 dL_law_683 rfl (fun _ => kk h2 vc.2) (fun z => absurd vc.1 z)
theorem law_18 {k : Nat} (hL : q_L g < 2 ^ 31) (hQ : StrOK g) (hk : k + 5 ≤ q_L g) (hS : Sim h) (kk : ∀ h2 : Hp, Sim h2 → wL g K 866 h2 k) : wL g K 688 h k := by
  refine QW.aload_n dL_law_688 rfl ?_
  refine QW.aload_n dL_law_689 rfl ?_
  refine QW.iload_n dL_law_690 rfl ?_
  refine QW.iconst 1 rfl dL_law_691 ?_
  refine QW.iadd dL_law_692 ?_
  rw [show nI k + (1 : Int32) = nI (k + 1) from nI_add k 1]
  refine QW.sld dL_law_693 (vp_in_nI (by omega) hL) ?_
  rw [ix_nI (by omega)]
  refine QW.aload_n dL_law_694 rfl ?_
  refine QW.iload_n dL_law_695 rfl ?_
  refine QW.iconst 2 rfl dL_law_696 ?_
  refine QW.iadd dL_law_697 ?_
  rw [show nI k + (2 : Int32) = nI (k + 2) from nI_add k 2]
  refine QW.sld dL_law_698 (vp_in_nI (by omega) hL) ?_
  rw [ix_nI (by omega)]
  refine QW.aload_n dL_law_699 rfl ?_
  refine QW.iload_n dL_law_700 rfl ?_
  refine QW.iconst 3 rfl dL_law_701 ?_
  refine QW.iadd dL_law_702 ?_
  rw [show nI k + (3 : Int32) = nI (k + 3) from nI_add k 3]
  refine QW.sld dL_law_703 (vp_in_nI (by omega) hL) ?_
  rw [ix_nI (by omega)]
  refine QW.aload_n dL_law_704 rfl ?_
  refine QW.iload_n dL_law_705 rfl ?_
  refine QW.iconst 4 rfl dL_law_706 ?_
  refine QW.iadd dL_law_707 ?_
  rw [show nI k + (4 : Int32) = nI (k + 4) from nI_add k 4]
  refine QW.sld dL_law_708 (vp_in_nI (by omega) hL) ?_
  rw [ix_nI (by omega)]
  refine FW.callVi [.int (q_x g (k + 1)), .int (q_x g (k + 2)), .int (q_x g (k + 3)), .int (q_x g (k + 4))] [] rfl dL_law_709 lmL_93 sC_0 rfl ⟨Nat.le_of_ble_eq_true rfl, Nat.le_of_ble_eq_true rfl⟩ ⟨rfl, rfl⟩ (Nat.le_of_ble_eq_true rfl) (FI.mono (fun x1 h1 vc => ?_) (op_laid hS))
  refine QW.aload_n dL_law_712 rfl ?_
  refine QW.aload_n dL_law_713 rfl ?_
  refine QW.iload_n dL_law_714 rfl ?_
  refine QW.iconst 1 rfl dL_law_715 ?_
  refine QW.iadd dL_law_716 ?_
  rw [show nI k + (1 : Int32) = nI (k + 1) from nI_add k 1]
  refine QW.sld dL_law_717 (vp_in_nI (by omega) hL) ?_
  rw [ix_nI (by omega)]
  refine QW.aload_n dL_law_718 rfl ?_
  refine QW.iload_n dL_law_719 rfl ?_
  refine QW.iconst 2 rfl dL_law_720 ?_
  refine QW.iadd dL_law_721 ?_
  rw [show nI k + (2 : Int32) = nI (k + 2) from nI_add k 2]
  refine QW.sld dL_law_722 (vp_in_nI (by omega) hL) ?_
  rw [ix_nI (by omega)]
  refine QW.aload_n dL_law_723 rfl ?_
  refine QW.iload_n dL_law_724 rfl ?_
  refine QW.iconst 3 rfl dL_law_725 ?_
  refine QW.iadd dL_law_726 ?_
  rw [show nI k + (3 : Int32) = nI (k + 3) from nI_add k 3]
  refine QW.sld dL_law_727 (vp_in_nI (by omega) hL) ?_
  rw [ix_nI (by omega)]
  refine QW.aload_n dL_law_728 rfl ?_
  refine QW.iload_n dL_law_729 rfl ?_
  refine QW.iconst 4 rfl dL_law_730 ?_
  refine QW.iadd dL_law_731 ?_
  rw [show nI k + (4 : Int32) = nI (k + 4) from nI_add k 4]
  refine QW.sld dL_law_732 (vp_in_nI (by omega) hL) ?_
  rw [ix_nI (by omega)]
  refine FW.callVi [.int (q_x g (k + 1)), .int (q_x g (k + 2)), .int (q_x g (k + 3)), .int (q_x g (k + 4))] [.int x1] rfl dL_law_733 lmL_96 sC_44 rfl ⟨Nat.le_of_ble_eq_true rfl, Nat.le_of_ble_eq_true rfl⟩ ⟨rfl, rfl⟩ (Nat.le_of_ble_eq_true rfl) (FI.mono (fun x2 h2 vc => ?_) vc)
  exact QW.icmp_eq 866 dL_law_736 rfl (fun _ => kk h2 vc.2) (fun z => absurd vc.1 z)
theorem law_19 {k : Nat} (hL : q_L g < 2 ^ 31) (hQ : StrOK g) (hk : k + 5 ≤ q_L g) (hS : Sim h) (kk : ∀ h2 : Hp, Sim h2 → wL g K 866 h2 k) : wL g K 741 h k := by
  refine QW.aload_n dL_law_741 rfl ?_
  refine QW.aload_n dL_law_742 rfl ?_
  refine QW.iload_n dL_law_743 rfl ?_
  refine QW.iconst 1 rfl dL_law_744 ?_
  refine QW.iadd dL_law_745 ?_
  rw [show nI k + (1 : Int32) = nI (k + 1) from nI_add k 1]
  refine QW.sld dL_law_746 (vp_in_nI (by omega) hL) ?_
  rw [ix_nI (by omega)]
  refine QW.aload_n dL_law_747 rfl ?_
  refine QW.iload_n dL_law_748 rfl ?_
  refine QW.iconst 2 rfl dL_law_749 ?_
  refine QW.iadd dL_law_750 ?_
  rw [show nI k + (2 : Int32) = nI (k + 2) from nI_add k 2]
  refine QW.sld dL_law_751 (vp_in_nI (by omega) hL) ?_
  rw [ix_nI (by omega)]
  refine FW.callVi [.int (q_x g (k + 1)), .int (q_x g (k + 2))] [] rfl dL_law_752 lmL_97 sC_0 rfl ⟨Nat.le_of_ble_eq_true rfl, Nat.le_of_ble_eq_true rfl⟩ ⟨rfl, rfl⟩ (Nat.le_of_ble_eq_true rfl) (FI.mono (fun x1 h1 vc => ?_) (op_left hS))
  refine QW.aload_n dL_law_755 rfl ?_
  refine QW.aload_n dL_law_756 rfl ?_
  refine QW.iload_n dL_law_757 rfl ?_
  refine QW.iconst 1 rfl dL_law_758 ?_
  refine QW.iadd dL_law_759 ?_
  rw [show nI k + (1 : Int32) = nI (k + 1) from nI_add k 1]
  refine QW.sld dL_law_760 (vp_in_nI (by omega) hL) ?_
  rw [ix_nI (by omega)]
  refine QW.aload_n dL_law_761 rfl ?_
  refine QW.iload_n dL_law_762 rfl ?_
  refine QW.iconst 2 rfl dL_law_763 ?_
  refine QW.iadd dL_law_764 ?_
  rw [show nI k + (2 : Int32) = nI (k + 2) from nI_add k 2]
  refine QW.sld dL_law_765 (vp_in_nI (by omega) hL) ?_
  rw [ix_nI (by omega)]
  refine FW.callVi [.int (q_x g (k + 1)), .int (q_x g (k + 2))] [.int x1] rfl dL_law_766 lmL_100 sC_44 rfl ⟨Nat.le_of_ble_eq_true rfl, Nat.le_of_ble_eq_true rfl⟩ ⟨rfl, rfl⟩ (Nat.le_of_ble_eq_true rfl) (FI.mono (fun x2 h2 vc => ?_) vc)
  exact QW.icmp_eq 866 dL_law_769 rfl (fun _ => kk h2 vc.2) (fun z => absurd vc.1 z)
theorem law_20 {k : Nat} (hL : q_L g < 2 ^ 31) (hQ : StrOK g) (hk : k + 5 ≤ q_L g) (hS : Sim h) (kk : ∀ h2 : Hp, Sim h2 → wL g K 866 h2 k) : wL g K 774 h k := by
  refine QW.aload_n dL_law_774 rfl ?_
  refine QW.aload_n dL_law_775 rfl ?_
  refine QW.iload_n dL_law_776 rfl ?_
  refine QW.iconst 1 rfl dL_law_777 ?_
  refine QW.iadd dL_law_778 ?_
  rw [show nI k + (1 : Int32) = nI (k + 1) from nI_add k 1]
  refine QW.sld dL_law_779 (vp_in_nI (by omega) hL) ?_
  rw [ix_nI (by omega)]
  refine QW.aload_n dL_law_780 rfl ?_
  refine QW.iload_n dL_law_781 rfl ?_
  refine QW.iconst 2 rfl dL_law_782 ?_
  refine QW.iadd dL_law_783 ?_
  rw [show nI k + (2 : Int32) = nI (k + 2) from nI_add k 2]
  refine QW.sld dL_law_784 (vp_in_nI (by omega) hL) ?_
  rw [ix_nI (by omega)]
  refine FW.callVi [.int (q_x g (k + 1)), .int (q_x g (k + 2))] [] rfl dL_law_785 lmL_101 sC_0 rfl ⟨Nat.le_of_ble_eq_true rfl, Nat.le_of_ble_eq_true rfl⟩ ⟨rfl, rfl⟩ (Nat.le_of_ble_eq_true rfl) (FI.mono (fun x1 h1 vc => ?_) (op_seen hS))
  refine QW.aload_n dL_law_788 rfl ?_
  refine QW.aload_n dL_law_789 rfl ?_
  refine QW.iload_n dL_law_790 rfl ?_
  refine QW.iconst 1 rfl dL_law_791 ?_
  refine QW.iadd dL_law_792 ?_
  rw [show nI k + (1 : Int32) = nI (k + 1) from nI_add k 1]
  refine QW.sld dL_law_793 (vp_in_nI (by omega) hL) ?_
  rw [ix_nI (by omega)]
  refine QW.aload_n dL_law_794 rfl ?_
  refine QW.iload_n dL_law_795 rfl ?_
  refine QW.iconst 2 rfl dL_law_796 ?_
  refine QW.iadd dL_law_797 ?_
  rw [show nI k + (2 : Int32) = nI (k + 2) from nI_add k 2]
  refine QW.sld dL_law_798 (vp_in_nI (by omega) hL) ?_
  rw [ix_nI (by omega)]
  refine FW.callVi [.int (q_x g (k + 1)), .int (q_x g (k + 2))] [.int x1] rfl dL_law_799 lmL_104 sC_44 rfl ⟨Nat.le_of_ble_eq_true rfl, Nat.le_of_ble_eq_true rfl⟩ ⟨rfl, rfl⟩ (Nat.le_of_ble_eq_true rfl) (FI.mono (fun x2 h2 vc => ?_) vc)
  exact QW.icmp_eq 866 dL_law_802 rfl (fun _ => kk h2 vc.2) (fun z => absurd vc.1 z)
theorem law_21 {k : Nat} (hL : q_L g < 2 ^ 31) (hQ : StrOK g) (hk : k + 5 ≤ q_L g) (hS : Sim h) (kk : ∀ h2 : Hp, Sim h2 → wL g K 866 h2 k) : wL g K 807 h k := by
  refine QW.aload_n dL_law_807 rfl ?_
  refine FW.callVi [] [] rfl dL_law_808 lmL_105 sC_0 rfl ⟨Nat.le_of_ble_eq_true rfl, Nat.le_of_ble_eq_true rfl⟩ ⟨rfl, rfl⟩ (Nat.le_of_ble_eq_true rfl) (FI.mono (fun x1 h1 vc => ?_) (op_forget hS))
  refine QW.aload_n dL_law_811 rfl ?_
  refine FW.callVi [] [.int x1] rfl dL_law_812 lmL_108 sC_44 rfl ⟨Nat.le_of_ble_eq_true rfl, Nat.le_of_ble_eq_true rfl⟩ ⟨rfl, rfl⟩ (Nat.le_of_ble_eq_true rfl) (FI.mono (fun x2 h2 vc => ?_) vc)
  exact QW.icmp_eq 866 dL_law_815 rfl (fun _ => kk h2 vc.2) (fun z => absurd vc.1 z)
theorem law_22 {k : Nat} (hL : q_L g < 2 ^ 31) (hQ : StrOK g) (hk : k + 5 ≤ q_L g) (hS : Sim h) (kk : ∀ h2 : Hp, Sim h2 → wL g K 866 h2 k) : wL g K 820 h k := by
  refine QW.aload_n dL_law_820 rfl ?_
  refine QW.aload_n dL_law_821 rfl ?_
  refine QW.iload_n dL_law_822 rfl ?_
  refine QW.iconst 1 rfl dL_law_823 ?_
  refine QW.iadd dL_law_824 ?_
  rw [show nI k + (1 : Int32) = nI (k + 1) from nI_add k 1]
  refine QW.sld dL_law_825 (vp_in_nI (by omega) hL) ?_
  rw [ix_nI (by omega)]
  refine FW.callVi [.int (q_x g (k + 1))] [] rfl dL_law_826 lmL_109 sC_0 rfl ⟨Nat.le_of_ble_eq_true rfl, Nat.le_of_ble_eq_true rfl⟩ ⟨rfl, rfl⟩ (Nat.le_of_ble_eq_true rfl) (FI.mono (fun x1 h1 vc => ?_) (op_fits hS))
  refine QW.aload_n dL_law_829 rfl ?_
  refine QW.aload_n dL_law_830 rfl ?_
  refine QW.iload_n dL_law_831 rfl ?_
  refine QW.iconst 1 rfl dL_law_832 ?_
  refine QW.iadd dL_law_833 ?_
  rw [show nI k + (1 : Int32) = nI (k + 1) from nI_add k 1]
  refine QW.sld dL_law_834 (vp_in_nI (by omega) hL) ?_
  rw [ix_nI (by omega)]
  refine FW.callVi [.int (q_x g (k + 1))] [.int x1] rfl dL_law_835 lmL_112 sC_44 rfl ⟨Nat.le_of_ble_eq_true rfl, Nat.le_of_ble_eq_true rfl⟩ ⟨rfl, rfl⟩ (Nat.le_of_ble_eq_true rfl) (FI.mono (fun x2 h2 vc => ?_) vc)
  exact QW.icmp_eq 866 dL_law_838 rfl (fun _ => kk h2 vc.2) (fun z => absurd vc.1 z)
theorem law_23 {k : Nat} (hL : q_L g < 2 ^ 31) (hQ : StrOK g) (hk : k + 5 ≤ q_L g) (hS : Sim h) (kk : ∀ h2 : Hp, Sim h2 → wL g K 866 h2 k) : wL g K 843 h k := by
  refine QW.aload_n dL_law_843 rfl ?_
  refine QW.aload_n dL_law_844 rfl ?_
  refine QW.iload_n dL_law_845 rfl ?_
  refine QW.iconst 1 rfl dL_law_846 ?_
  refine QW.iadd dL_law_847 ?_
  rw [show nI k + (1 : Int32) = nI (k + 1) from nI_add k 1]
  refine QW.sld dL_law_848 (vp_in_nI (by omega) hL) ?_
  rw [ix_nI (by omega)]
  refine FW.callVi [.int (q_x g (k + 1))] [] rfl dL_law_849 lmL_113 sC_0 rfl ⟨Nat.le_of_ble_eq_true rfl, Nat.le_of_ble_eq_true rfl⟩ ⟨rfl, rfl⟩ (Nat.le_of_ble_eq_true rfl) (FI.mono (fun x1 h1 vc => ?_) (op_count hS))
  refine QW.aload_n dL_law_852 rfl ?_
  refine QW.aload_n dL_law_853 rfl ?_
  refine QW.iload_n dL_law_854 rfl ?_
  refine QW.iconst 1 rfl dL_law_855 ?_
  refine QW.iadd dL_law_856 ?_
  rw [show nI k + (1 : Int32) = nI (k + 1) from nI_add k 1]
  refine QW.sld dL_law_857 (vp_in_nI (by omega) hL) ?_
  rw [ix_nI (by omega)]
  refine FW.callVi [.int (q_x g (k + 1))] [.int x1] rfl dL_law_858 lmL_116 sC_44 rfl ⟨Nat.le_of_ble_eq_true rfl, Nat.le_of_ble_eq_true rfl⟩ ⟨rfl, rfl⟩ (Nat.le_of_ble_eq_true rfl) (FI.mono (fun x2 h2 vc => ?_) vc)
  exact QW.icmp_eq 866 dL_law_861 rfl (fun _ => kk h2 vc.2) (fun z => absurd vc.1 z)
theorem law_loop (hL : q_L g < 2 ^ 31) (hQ : StrOK g) (kk : ∀ h2 : Hp, K 1 h2) : ∀ (d k : Nat) (h : Hp), q_L g ≤ k + d → k < 2 ^ 31 → Sim h → wL g K 18 h k := by
  intro d
  induction d with
  | zero =>
    intro k h hd hk hS
    refine QW.iload_n dL_law_18 rfl (QW.aload_n dL_law_19 rfl (QW.slen dL_law_20 (QW.iconst 5 rfl dL_law_21 (QW.isub dL_law_22 ?_))))
    refine QW.icmp_gt 872 dL_law_23 rfl (fun _ => QW.iconst 1 rfl dL_law_872 (FW.retZ (Or.inr rfl) dL_law_873 rfl (kk h))) (fun z => absurd ?_ z)
    show nI (q_L g) - 5 < nI k
    rw [i_lt, t_m5 hL, nI_toInt hk]
    omega
  | succ d ih =>
    intro k h hd hk hS
    refine QW.iload_n dL_law_18 rfl (QW.aload_n dL_law_19 rfl (QW.slen dL_law_20 (QW.iconst 5 rfl dL_law_21 (QW.isub dL_law_22 ?_))))
    refine QW.icmp_gt 872 dL_law_23 rfl (fun _ => QW.iconst 1 rfl dL_law_872 (FW.retZ (Or.inr rfl) dL_law_873 rfl (kk h))) (fun z => ?_)
    have h5 : k + 5 ≤ q_L g := by
      have z : ¬ nI (q_L g) - 5 < nI k := z
      rw [i_lt, t_m5 hL, nI_toInt hk] at z
      omega
    have nx : ∀ h2 : Hp, Sim h2 → wL g K 866 h2 k := fun h2 hS2 => by
      refine QW.iinc (nI (k + 5)) [some (.ref 1000), some (.ref 0), some (.ref 44), some (.int (nI (k + 5)))] dL_law_866 rfl (nI_add k 5) (by decide) rfl rfl ?_
      exact QW.goto 18 dL_law_869 rfl (ih (k + 5) h2 (by omega) (by omega) hS2)
    refine QW.aload_n dL_law_26 rfl (QW.iload_n dL_law_27 rfl (QW.sld dL_law_28 (vp_in_nI (by omega) hL) ?_))
    refine QW.bipush 31 rfl dL_law_29 (QW.iand dL_law_31 ?_)
    generalize hx : q_x g (nI k).toNatClampNeg &&& 31 = x
    have hr := i_rng x
    by_cases c0 : x.toInt = 0
    · refine QW.tabIn 144 dL_law_32 (by rw [c0]; decide) (by rw [c0]; decide) (by rw [c0]; rfl) rfl ?_
      exact law_0 hL hQ h5 hS nx
    by_cases c1 : x.toInt = 1
    · refine QW.tabIn 207 dL_law_32 (by rw [c1]; decide) (by rw [c1]; decide) (by rw [c1]; rfl) rfl ?_
      exact law_1 hL hQ h5 hS nx
    by_cases c2 : x.toInt = 2
    · refine QW.tabIn 220 dL_law_32 (by rw [c2]; decide) (by rw [c2]; decide) (by rw [c2]; rfl) rfl ?_
      exact law_2 hL hQ h5 hS nx
    by_cases c3 : x.toInt = 3
    · refine QW.tabIn 233 dL_law_32 (by rw [c3]; decide) (by rw [c3]; decide) (by rw [c3]; rfl) rfl ?_
      exact law_3 hL hQ h5 hS nx
    by_cases c4 : x.toInt = 4
    · refine QW.tabIn 246 dL_law_32 (by rw [c4]; decide) (by rw [c4]; decide) (by rw [c4]; rfl) rfl ?_
      exact law_4 hL hQ h5 hS nx
    by_cases c5 : x.toInt = 5
    · refine QW.tabIn 279 dL_law_32 (by rw [c5]; decide) (by rw [c5]; decide) (by rw [c5]; rfl) rfl ?_
      exact law_5 hL hQ h5 hS nx
    by_cases c6 : x.toInt = 6
    · refine QW.tabIn 312 dL_law_32 (by rw [c6]; decide) (by rw [c6]; decide) (by rw [c6]; rfl) rfl ?_
      exact law_6 hL hQ h5 hS nx
    by_cases c7 : x.toInt = 7
    · refine QW.tabIn 345 dL_law_32 (by rw [c7]; decide) (by rw [c7]; decide) (by rw [c7]; rfl) rfl ?_
      exact law_7 hL hQ h5 hS nx
    by_cases c8 : x.toInt = 8
    · refine QW.tabIn 368 dL_law_32 (by rw [c8]; decide) (by rw [c8]; decide) (by rw [c8]; rfl) rfl ?_
      exact law_8 hL hQ h5 hS nx
    by_cases c9 : x.toInt = 9
    · refine QW.tabIn 381 dL_law_32 (by rw [c9]; decide) (by rw [c9]; decide) (by rw [c9]; rfl) rfl ?_
      exact law_9 hL hQ h5 hS nx
    by_cases c10 : x.toInt = 10
    · refine QW.tabIn 394 dL_law_32 (by rw [c10]; decide) (by rw [c10]; decide) (by rw [c10]; rfl) rfl ?_
      exact law_10 hL hQ h5 hS nx
    by_cases c11 : x.toInt = 11
    · refine QW.tabIn 417 dL_law_32 (by rw [c11]; decide) (by rw [c11]; decide) (by rw [c11]; rfl) rfl ?_
      exact law_11 hL hQ h5 hS nx
    by_cases c12 : x.toInt = 12
    · refine QW.tabIn 440 dL_law_32 (by rw [c12]; decide) (by rw [c12]; decide) (by rw [c12]; rfl) rfl ?_
      exact law_12 hL hQ h5 hS nx
    by_cases c13 : x.toInt = 13
    · refine QW.tabIn 463 dL_law_32 (by rw [c13]; decide) (by rw [c13]; decide) (by rw [c13]; rfl) rfl ?_
      exact law_13 hL hQ h5 hS nx
    by_cases c14 : x.toInt = 14
    · refine QW.tabIn 516 dL_law_32 (by rw [c14]; decide) (by rw [c14]; decide) (by rw [c14]; rfl) rfl ?_
      exact law_14 hL hQ h5 hS nx
    by_cases c15 : x.toInt = 15
    · refine QW.tabIn 569 dL_law_32 (by rw [c15]; decide) (by rw [c15]; decide) (by rw [c15]; rfl) rfl ?_
      exact law_15 hL hQ h5 hS nx
    by_cases c16 : x.toInt = 16
    · refine QW.tabIn 612 dL_law_32 (by rw [c16]; decide) (by rw [c16]; decide) (by rw [c16]; rfl) rfl ?_
      exact law_16 hL hQ h5 hS nx
    by_cases c17 : x.toInt = 17
    · refine QW.tabIn 665 dL_law_32 (by rw [c17]; decide) (by rw [c17]; decide) (by rw [c17]; rfl) rfl ?_
      exact law_17 hL hQ h5 hS nx
    by_cases c18 : x.toInt = 18
    · refine QW.tabIn 688 dL_law_32 (by rw [c18]; decide) (by rw [c18]; decide) (by rw [c18]; rfl) rfl ?_
      exact law_18 hL hQ h5 hS nx
    by_cases c19 : x.toInt = 19
    · refine QW.tabIn 741 dL_law_32 (by rw [c19]; decide) (by rw [c19]; decide) (by rw [c19]; rfl) rfl ?_
      exact law_19 hL hQ h5 hS nx
    by_cases c20 : x.toInt = 20
    · refine QW.tabIn 774 dL_law_32 (by rw [c20]; decide) (by rw [c20]; decide) (by rw [c20]; rfl) rfl ?_
      exact law_20 hL hQ h5 hS nx
    by_cases c21 : x.toInt = 21
    · refine QW.tabIn 807 dL_law_32 (by rw [c21]; decide) (by rw [c21]; decide) (by rw [c21]; rfl) rfl ?_
      exact law_21 hL hQ h5 hS nx
    by_cases c22 : x.toInt = 22
    · refine QW.tabIn 820 dL_law_32 (by rw [c22]; decide) (by rw [c22]; decide) (by rw [c22]; rfl) rfl ?_
      exact law_22 hL hQ h5 hS nx
    by_cases c23 : x.toInt = 23
    · refine QW.tabIn 843 dL_law_32 (by rw [c23]; decide) (by rw [c23]; decide) (by rw [c23]; rfl) rfl ?_
      exact law_23 hL hQ h5 hS nx
    refine QW.tabOut 866 dL_law_32 ?_ rfl (nx h hS)
    rcases Int.lt_or_le x.toInt 0 with q | q
    · exact Or.inl q
    · exact Or.inr (by show (23 : Int) < _; omega)
end Lw
