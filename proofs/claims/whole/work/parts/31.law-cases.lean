/-! The law, case by case; laid by wip/whole/gen_law.py. -/
set_option maxHeartbeats 4000000 in
set_option maxRecDepth 100000 in
theorem law_kind {p : Program} {l : Launch} {e : Env} {s : State} {m : MethodId} {below : List Frame} {meth : Method} {c : Code} {b L : Nat} {xs : Nat → Int32} {D : va_G} {o a1 a2 a3 q b1 : Nat} {k1 k2 k3 k4 : ClassId} {i : Nat} (C0 : lw_At p s m meth c b L xs) (hK : va_K D vwCl (xt k1 k2 k3 ++ mt k4) s) (hDa : ∀ ws : va_W, ws.map Prod.fst = [o, a1, a2, a3, q, b1] → va_D (fun q9 : Nat => s.heap.size ≤ q9) ws) (hLb : L ≤ 5120) (hiL : i + 10 ≤ L) (kk : lwG p l e s m below meth c b D o a1 a2 a3 q b1 k1 k2 k3 k4 i 703) : lwG p l e s m below meth c b D o a1 a2 a3 q b1 k1 k2 k3 k4 i 100 := by
  obtain ⟨hx, hb, hr, hml, hown, hts, hX, hbl, hlocks, hgv⟩ := C0
  have hown : s.vm.findClass RL = some m.cls := hown
  have hts := fun w h => hts w (wsL_law_in w h)
  have hA : ∀ q9 : Nat, s.heap.size ≤ q9 → (fun q9 : Nat => s.heap.size ≤ q9) q9 := fun _ h => h
  have hbA : ¬ (fun q9 : Nat => s.heap.size ≤ q9) b := Nat.not_le.mpr hbl
  intro row dv sl by8 B nb wd po tp fi la bi bo hR H locs hP hS ls hl
  have hn := hR.1
  have hw1 := hR.2.1
  have hw := hR.2.2.1
  have hD : va_D (fun q9 : Nat => s.heap.size ≤ q9) ((xw o a1 a2 a3 k1 k2 k3 row dv sl nb wd po tp fi la bi bo) ++ (mw q b1 k4 by8 wd po fi la bi bo nb)) := hDa _ rfl
  rcases du_kw (xs (nI i + 1).toNatClampNeg) with hno | ⟨v, hv1, hv, ev⟩
  ·
    refine lv_aload_n hx hb dL_law_100 rfl (lv_at hl 1 rfl) ?_
    refine lv_aload_n hx hb dL_law_101 rfl (lv_at hl 0 rfl) ?_
    refine lv_iload_n hx hb dL_law_102 rfl (lv_at hl 3 rfl) ?_
    refine lv_iconst (v := 1) hx hb dL_law_103 (by decide) ?_
    refine lv_iadd hx hb dL_law_104 ?_
    refine va_sld hx hb hX hbl hbA hS (i := (nI i) + 1) (du_sb hiL hLb 1 (by decide)) dL_law_105 ?_
    refine lv_aload_n hx hb dL_law_106 rfl (lv_at hl 0 rfl) ?_
    refine lv_iload_n hx hb dL_law_107 rfl (lv_at hl 3 rfl) ?_
    refine lv_iconst (v := 2) hx hb dL_law_108 (by decide) ?_
    refine lv_iadd hx hb dL_law_109 ?_
    refine va_sld hx hb hX hbl hbA hS (i := (nI i) + 2) (du_sb hiL hLb 2 (by decide)) dL_law_110 ?_
    refine lv_i2l (v := (xs ((nI i) + 2).toNatClampNeg).toInt64) hx hb dL_law_111 rfl ?_
    refine lv_bipush (v := 32) hx hb dL_law_112 (by decide) ?_
    refine lv_lshl (v := jshl ((xs ((nI i) + 2).toNatClampNeg).toInt64) 32) hx hb dL_law_114 rfl ?_
    refine lv_aload_n hx hb dL_law_115 rfl (lv_at hl 0 rfl) ?_
    refine lv_iload_n hx hb dL_law_116 rfl (lv_at hl 3 rfl) ?_
    refine lv_iconst (v := 3) hx hb dL_law_117 (by decide) ?_
    refine lv_iadd hx hb dL_law_118 ?_
    refine va_sld hx hb hX hbl hbA hS (i := (nI i) + 3) (du_sb hiL hLb 3 (by decide)) dL_law_119 ?_
    refine lv_i2l (v := (xs ((nI i) + 3).toNatClampNeg).toInt64) hx hb dL_law_120 rfl ?_
    refine lv_ldc2 hx hb hown (hts (.constantLong RL 13 4294967295) (by decide +kernel)) dL_law_121 ?_
    refine lv_land hx hb dL_law_124 ?_
    refine lv_lor hx hb dL_law_125 ?_
    refine lv_aload_n hx hb dL_law_126 rfl (lv_at hl 0 rfl) ?_
    refine lv_iload_n hx hb dL_law_127 rfl (lv_at hl 3 rfl) ?_
    refine lv_iconst (v := 4) hx hb dL_law_128 (by decide) ?_
    refine lv_iadd hx hb dL_law_129 ?_
    refine va_sld hx hb hX hbl hbA hS (i := (nI i) + 4) (du_sb hiL hLb 4 (by decide)) dL_law_130 ?_
    refine lv_i2l (v := (xs ((nI i) + 4).toNatClampNeg).toInt64) hx hb dL_law_131 rfl ?_
    refine lv_bipush (v := 32) hx hb dL_law_132 (by decide) ?_
    refine lv_lshl (v := jshl ((xs ((nI i) + 4).toNatClampNeg).toInt64) 32) hx hb dL_law_134 rfl ?_
    refine lv_aload_n hx hb dL_law_135 rfl (lv_at hl 0 rfl) ?_
    refine lv_iload_n hx hb dL_law_136 rfl (lv_at hl 3 rfl) ?_
    refine lv_iconst (v := 5) hx hb dL_law_137 (by decide) ?_
    refine lv_iadd hx hb dL_law_138 ?_
    refine va_sld hx hb hX hbl hbA hS (i := (nI i) + 5) (du_sb hiL hLb 5 (by decide)) dL_law_139 ?_
    refine lv_i2l (v := (xs ((nI i) + 5).toNatClampNeg).toInt64) hx hb dL_law_140 rfl ?_
    refine lv_ldc2 hx hb hown (hts (.constantLong RL 13 4294967295) (by decide +kernel)) dL_law_141 ?_
    refine lv_land hx hb dL_law_144 ?_
    refine lv_lor hx hb dL_law_145 ?_
    refine lv_aload_n hx hb dL_law_146 rfl (lv_at hl 0 rfl) ?_
    refine lv_iload_n hx hb dL_law_147 rfl (lv_at hl 3 rfl) ?_
    refine lv_bipush (v := 6) hx hb dL_law_148 (by decide) ?_
    refine lv_iadd hx hb dL_law_150 ?_
    refine va_sld hx hb hX hbl hbA hS (i := (nI i) + 6) (du_sb hiL hLb 6 (by decide)) dL_law_151 ?_
    refine du_tern (t0 := 159) (tj := 160) hx hb dL_law_152 dL_law_155 dL_law_156 dL_law_159 (by decide) (by decide) rfl ?_
    refine lv_aload_n hx hb dL_law_160 rfl (lv_at hl 0 rfl) ?_
    refine lv_iload_n hx hb dL_law_161 rfl (lv_at hl 3 rfl) ?_
    refine lv_bipush (v := 7) hx hb dL_law_162 (by decide) ?_
    refine lv_iadd hx hb dL_law_164 ?_
    refine va_sld hx hb hX hbl hbA hS (i := (nI i) + 7) (du_sb hiL hLb 7 (by decide)) dL_law_165 ?_
    refine du_tern (t0 := 173) (tj := 174) hx hb dL_law_166 dL_law_169 dL_law_170 dL_law_173 (by decide) (by decide) rfl ?_
    refine lv_aload_n hx hb dL_law_174 rfl (lv_at hl 0 rfl) ?_
    refine lv_iload_n hx hb dL_law_175 rfl (lv_at hl 3 rfl) ?_
    refine lv_bipush (v := 8) hx hb dL_law_176 (by decide) ?_
    refine lv_iadd hx hb dL_law_178 ?_
    refine va_sld hx hb hX hbl hbA hS (i := (nI i) + 8) (du_sb hiL hLb 8 (by decide)) dL_law_179 ?_
    refine lv_i2l (v := (xs ((nI i) + 8).toNatClampNeg).toInt64) hx hb dL_law_180 rfl ?_
    refine lv_bipush (v := 32) hx hb dL_law_181 (by decide) ?_
    refine lv_lshl (v := jshl ((xs ((nI i) + 8).toNatClampNeg).toInt64) 32) hx hb dL_law_183 rfl ?_
    refine lv_aload_n hx hb dL_law_184 rfl (lv_at hl 0 rfl) ?_
    refine lv_iload_n hx hb dL_law_185 rfl (lv_at hl 3 rfl) ?_
    refine lv_bipush (v := 9) hx hb dL_law_186 (by decide) ?_
    refine lv_iadd hx hb dL_law_188 ?_
    refine va_sld hx hb hX hbl hbA hS (i := (nI i) + 9) (du_sb hiL hLb 9 (by decide)) dL_law_189 ?_
    refine lv_i2l (v := (xs ((nI i) + 9).toNatClampNeg).toInt64) hx hb dL_law_190 rfl ?_
    refine lv_ldc2 hx hb hown (hts (.constantLong RL 13 4294967295) (by decide +kernel)) dL_law_191 ?_
    refine lv_land hx hb dL_law_194 ?_
    refine lv_lor hx hb dL_law_195 ?_
    refine ro_i (va_runV (As := [.int (xs ((nI i) + 1).toNatClampNeg), .long ((jshl ((xs ((nI i) + 2).toNatClampNeg).toInt64) 32) ||| (((xs ((nI i) + 3).toNatClampNeg).toInt64) &&& 4294967295)), .long ((jshl ((xs ((nI i) + 4).toNatClampNeg).toInt64) 32) ||| (((xs ((nI i) + 5).toNatClampNeg).toInt64) &&& 4294967295)), .int (iz (xs ((nI i) + 6).toNatClampNeg)), .int (iz (xs ((nI i) + 7).toNatClampNeg)), .long ((jshl ((xs ((nI i) + 8).toNatClampNeg).toInt64) 32) ||| (((xs ((nI i) + 9).toNatClampNeg).toInt64) &&& 4294967295))]) (rest := []) ⟨hx, hb, hml, hown, hts⟩ (c_kind_no (sz := H.size) (xs ((nI i) + 1).toNatClampNeg) ((jshl ((xs ((nI i) + 2).toNatClampNeg).toInt64) 32) ||| (((xs ((nI i) + 3).toNatClampNeg).toInt64) &&& 4294967295)) ((jshl ((xs ((nI i) + 4).toNatClampNeg).toInt64) 32) ||| (((xs ((nI i) + 5).toNatClampNeg).toInt64) &&& 4294967295)) (iz (xs ((nI i) + 6).toNatClampNeg)) (iz (xs ((nI i) + 7).toNatClampNeg)) ((jshl ((xs ((nI i) + 8).toNatClampNeg).toInt64) 32) ||| (((xs ((nI i) + 9).toNatClampNeg).toInt64) &&& 4294967295)) (hno)) (cwV 6 hts gL_law_X0_kind rfl rfl rfl (by decide +kernel) ⟨Nat.le_of_ble_eq_true rfl, Nat.le_of_ble_eq_true rfl⟩) (preV_RO (hP.sub (ws' := (xw o a1 a2 a3 k1 k2 k3 row dv sl nb wd po tp fi la bi bo)) [0, 1, 2, 3] rfl) (hK.sub (tys' := xt k1 k2 k3) [0, 1, 2] rfl) 0 (ci := 0) rfl rfl) rfl rfl hl.1 rfl (lv_room (Nat.le_of_ble_eq_true rfl)) dL_law_196 ⟨Nat.le_of_ble_eq_true rfl, Nat.le_of_ble_eq_true rfl⟩) hS hA hP (fun H locs hP hS => ?_)
    refine lv_aload_n hx hb dL_law_199 rfl (lv_at hl 2 rfl) ?_
    refine lv_aload_n hx hb dL_law_200 rfl (lv_at hl 0 rfl) ?_
    refine lv_iload_n hx hb dL_law_201 rfl (lv_at hl 3 rfl) ?_
    refine lv_iconst (v := 1) hx hb dL_law_202 (by decide) ?_
    refine lv_iadd hx hb dL_law_203 ?_
    refine va_sld hx hb hX hbl hbA hS (i := (nI i) + 1) (du_sb hiL hLb 1 (by decide)) dL_law_204 ?_
    refine lv_aload_n hx hb dL_law_205 rfl (lv_at hl 0 rfl) ?_
    refine lv_iload_n hx hb dL_law_206 rfl (lv_at hl 3 rfl) ?_
    refine lv_iconst (v := 2) hx hb dL_law_207 (by decide) ?_
    refine lv_iadd hx hb dL_law_208 ?_
    refine va_sld hx hb hX hbl hbA hS (i := (nI i) + 2) (du_sb hiL hLb 2 (by decide)) dL_law_209 ?_
    refine lv_i2l (v := (xs ((nI i) + 2).toNatClampNeg).toInt64) hx hb dL_law_210 rfl ?_
    refine lv_bipush (v := 32) hx hb dL_law_211 (by decide) ?_
    refine lv_lshl (v := jshl ((xs ((nI i) + 2).toNatClampNeg).toInt64) 32) hx hb dL_law_213 rfl ?_
    refine lv_aload_n hx hb dL_law_214 rfl (lv_at hl 0 rfl) ?_
    refine lv_iload_n hx hb dL_law_215 rfl (lv_at hl 3 rfl) ?_
    refine lv_iconst (v := 3) hx hb dL_law_216 (by decide) ?_
    refine lv_iadd hx hb dL_law_217 ?_
    refine va_sld hx hb hX hbl hbA hS (i := (nI i) + 3) (du_sb hiL hLb 3 (by decide)) dL_law_218 ?_
    refine lv_i2l (v := (xs ((nI i) + 3).toNatClampNeg).toInt64) hx hb dL_law_219 rfl ?_
    refine lv_ldc2 hx hb hown (hts (.constantLong RL 13 4294967295) (by decide +kernel)) dL_law_220 ?_
    refine lv_land hx hb dL_law_223 ?_
    refine lv_lor hx hb dL_law_224 ?_
    refine lv_aload_n hx hb dL_law_225 rfl (lv_at hl 0 rfl) ?_
    refine lv_iload_n hx hb dL_law_226 rfl (lv_at hl 3 rfl) ?_
    refine lv_iconst (v := 4) hx hb dL_law_227 (by decide) ?_
    refine lv_iadd hx hb dL_law_228 ?_
    refine va_sld hx hb hX hbl hbA hS (i := (nI i) + 4) (du_sb hiL hLb 4 (by decide)) dL_law_229 ?_
    refine lv_i2l (v := (xs ((nI i) + 4).toNatClampNeg).toInt64) hx hb dL_law_230 rfl ?_
    refine lv_bipush (v := 32) hx hb dL_law_231 (by decide) ?_
    refine lv_lshl (v := jshl ((xs ((nI i) + 4).toNatClampNeg).toInt64) 32) hx hb dL_law_233 rfl ?_
    refine lv_aload_n hx hb dL_law_234 rfl (lv_at hl 0 rfl) ?_
    refine lv_iload_n hx hb dL_law_235 rfl (lv_at hl 3 rfl) ?_
    refine lv_iconst (v := 5) hx hb dL_law_236 (by decide) ?_
    refine lv_iadd hx hb dL_law_237 ?_
    refine va_sld hx hb hX hbl hbA hS (i := (nI i) + 5) (du_sb hiL hLb 5 (by decide)) dL_law_238 ?_
    refine lv_i2l (v := (xs ((nI i) + 5).toNatClampNeg).toInt64) hx hb dL_law_239 rfl ?_
    refine lv_ldc2 hx hb hown (hts (.constantLong RL 13 4294967295) (by decide +kernel)) dL_law_240 ?_
    refine lv_land hx hb dL_law_243 ?_
    refine lv_lor hx hb dL_law_244 ?_
    refine lv_aload_n hx hb dL_law_245 rfl (lv_at hl 0 rfl) ?_
    refine lv_iload_n hx hb dL_law_246 rfl (lv_at hl 3 rfl) ?_
    refine lv_bipush (v := 6) hx hb dL_law_247 (by decide) ?_
    refine lv_iadd hx hb dL_law_249 ?_
    refine va_sld hx hb hX hbl hbA hS (i := (nI i) + 6) (du_sb hiL hLb 6 (by decide)) dL_law_250 ?_
    refine du_tern (t0 := 258) (tj := 259) hx hb dL_law_251 dL_law_254 dL_law_255 dL_law_258 (by decide) (by decide) rfl ?_
    refine lv_aload_n hx hb dL_law_259 rfl (lv_at hl 0 rfl) ?_
    refine lv_iload_n hx hb dL_law_260 rfl (lv_at hl 3 rfl) ?_
    refine lv_bipush (v := 7) hx hb dL_law_261 (by decide) ?_
    refine lv_iadd hx hb dL_law_263 ?_
    refine va_sld hx hb hX hbl hbA hS (i := (nI i) + 7) (du_sb hiL hLb 7 (by decide)) dL_law_264 ?_
    refine du_tern (t0 := 272) (tj := 273) hx hb dL_law_265 dL_law_268 dL_law_269 dL_law_272 (by decide) (by decide) rfl ?_
    refine lv_aload_n hx hb dL_law_273 rfl (lv_at hl 0 rfl) ?_
    refine lv_iload_n hx hb dL_law_274 rfl (lv_at hl 3 rfl) ?_
    refine lv_bipush (v := 8) hx hb dL_law_275 (by decide) ?_
    refine lv_iadd hx hb dL_law_277 ?_
    refine va_sld hx hb hX hbl hbA hS (i := (nI i) + 8) (du_sb hiL hLb 8 (by decide)) dL_law_278 ?_
    refine lv_i2l (v := (xs ((nI i) + 8).toNatClampNeg).toInt64) hx hb dL_law_279 rfl ?_
    refine lv_bipush (v := 32) hx hb dL_law_280 (by decide) ?_
    refine lv_lshl (v := jshl ((xs ((nI i) + 8).toNatClampNeg).toInt64) 32) hx hb dL_law_282 rfl ?_
    refine lv_aload_n hx hb dL_law_283 rfl (lv_at hl 0 rfl) ?_
    refine lv_iload_n hx hb dL_law_284 rfl (lv_at hl 3 rfl) ?_
    refine lv_bipush (v := 9) hx hb dL_law_285 (by decide) ?_
    refine lv_iadd hx hb dL_law_287 ?_
    refine va_sld hx hb hX hbl hbA hS (i := (nI i) + 9) (du_sb hiL hLb 9 (by decide)) dL_law_288 ?_
    refine lv_i2l (v := (xs ((nI i) + 9).toNatClampNeg).toInt64) hx hb dL_law_289 rfl ?_
    refine lv_ldc2 hx hb hown (hts (.constantLong RL 13 4294967295) (by decide +kernel)) dL_law_290 ?_
    refine lv_land hx hb dL_law_293 ?_
    refine lv_lor hx hb dL_law_294 ?_
    refine ro_i (va_runV (As := [.int (xs ((nI i) + 1).toNatClampNeg), .long ((jshl ((xs ((nI i) + 2).toNatClampNeg).toInt64) 32) ||| (((xs ((nI i) + 3).toNatClampNeg).toInt64) &&& 4294967295)), .long ((jshl ((xs ((nI i) + 4).toNatClampNeg).toInt64) 32) ||| (((xs ((nI i) + 5).toNatClampNeg).toInt64) &&& 4294967295)), .int (iz (xs ((nI i) + 6).toNatClampNeg)), .int (iz (xs ((nI i) + 7).toNatClampNeg)), .long ((jshl ((xs ((nI i) + 8).toNatClampNeg).toInt64) 32) ||| (((xs ((nI i) + 9).toNatClampNeg).toInt64) &&& 4294967295))]) (rest := [.int 0]) ⟨hx, hb, hml, hown, hts⟩ (r_kind_no (sz := H.size) (xs ((nI i) + 1).toNatClampNeg) ((jshl ((xs ((nI i) + 2).toNatClampNeg).toInt64) 32) ||| (((xs ((nI i) + 3).toNatClampNeg).toInt64) &&& 4294967295)) ((jshl ((xs ((nI i) + 4).toNatClampNeg).toInt64) 32) ||| (((xs ((nI i) + 5).toNatClampNeg).toInt64) &&& 4294967295)) (iz (xs ((nI i) + 6).toNatClampNeg)) (iz (xs ((nI i) + 7).toNatClampNeg)) ((jshl ((xs ((nI i) + 8).toNatClampNeg).toInt64) 32) ||| (((xs ((nI i) + 9).toNatClampNeg).toInt64) &&& 4294967295)) (hno)) (cwV 6 hts gL_law_X1_kind rfl rfl rfl (by decide +kernel) ⟨Nat.le_of_ble_eq_true rfl, Nat.le_of_ble_eq_true rfl⟩) (preV_RO (hP.sub (ws' := (mw q b1 k4 by8 wd po fi la bi bo nb)) [4, 5] rfl) (hK.sub (tys' := mt k4) [3] rfl) 0 (ci := 1) rfl rfl) rfl rfl hl.1 rfl (lv_room (Nat.le_of_ble_eq_true rfl)) dL_law_295 ⟨Nat.le_of_ble_eq_true rfl, Nat.le_of_ble_eq_true rfl⟩) hS hA hP (fun H locs hP hS => ?_)
    refine lv_icmp_eq (tgt := 703) hx hb dL_law_298 (by decide) (fun c_298 => ?_) (fun c_298 => ?_)
    ·
      exact kk row dv sl by8 B nb wd po tp fi la bi bo (hR) H locs hP hS ls (lv_sub hl [0, 1, 2, 3] rfl)
    ·
      exact absurd (rfl) c_298
  ·
    refine lv_aload_n hx hb dL_law_100 rfl (lv_at hl 1 rfl) ?_
    refine lv_aload_n hx hb dL_law_101 rfl (lv_at hl 0 rfl) ?_
    refine lv_iload_n hx hb dL_law_102 rfl (lv_at hl 3 rfl) ?_
    refine lv_iconst (v := 1) hx hb dL_law_103 (by decide) ?_
    refine lv_iadd hx hb dL_law_104 ?_
    refine va_sld hx hb hX hbl hbA hS (i := (nI i) + 1) (du_sb hiL hLb 1 (by decide)) dL_law_105 ?_
    refine du_rwi (y := nI v) (ev) ?_
    refine lv_aload_n hx hb dL_law_106 rfl (lv_at hl 0 rfl) ?_
    refine lv_iload_n hx hb dL_law_107 rfl (lv_at hl 3 rfl) ?_
    refine lv_iconst (v := 2) hx hb dL_law_108 (by decide) ?_
    refine lv_iadd hx hb dL_law_109 ?_
    refine va_sld hx hb hX hbl hbA hS (i := (nI i) + 2) (du_sb hiL hLb 2 (by decide)) dL_law_110 ?_
    refine lv_i2l (v := (xs ((nI i) + 2).toNatClampNeg).toInt64) hx hb dL_law_111 rfl ?_
    refine lv_bipush (v := 32) hx hb dL_law_112 (by decide) ?_
    refine lv_lshl (v := jshl ((xs ((nI i) + 2).toNatClampNeg).toInt64) 32) hx hb dL_law_114 rfl ?_
    refine lv_aload_n hx hb dL_law_115 rfl (lv_at hl 0 rfl) ?_
    refine lv_iload_n hx hb dL_law_116 rfl (lv_at hl 3 rfl) ?_
    refine lv_iconst (v := 3) hx hb dL_law_117 (by decide) ?_
    refine lv_iadd hx hb dL_law_118 ?_
    refine va_sld hx hb hX hbl hbA hS (i := (nI i) + 3) (du_sb hiL hLb 3 (by decide)) dL_law_119 ?_
    refine lv_i2l (v := (xs ((nI i) + 3).toNatClampNeg).toInt64) hx hb dL_law_120 rfl ?_
    refine lv_ldc2 hx hb hown (hts (.constantLong RL 13 4294967295) (by decide +kernel)) dL_law_121 ?_
    refine lv_land hx hb dL_law_124 ?_
    refine lv_lor hx hb dL_law_125 ?_
    refine lv_aload_n hx hb dL_law_126 rfl (lv_at hl 0 rfl) ?_
    refine lv_iload_n hx hb dL_law_127 rfl (lv_at hl 3 rfl) ?_
    refine lv_iconst (v := 4) hx hb dL_law_128 (by decide) ?_
    refine lv_iadd hx hb dL_law_129 ?_
    refine va_sld hx hb hX hbl hbA hS (i := (nI i) + 4) (du_sb hiL hLb 4 (by decide)) dL_law_130 ?_
    refine lv_i2l (v := (xs ((nI i) + 4).toNatClampNeg).toInt64) hx hb dL_law_131 rfl ?_
    refine lv_bipush (v := 32) hx hb dL_law_132 (by decide) ?_
    refine lv_lshl (v := jshl ((xs ((nI i) + 4).toNatClampNeg).toInt64) 32) hx hb dL_law_134 rfl ?_
    refine lv_aload_n hx hb dL_law_135 rfl (lv_at hl 0 rfl) ?_
    refine lv_iload_n hx hb dL_law_136 rfl (lv_at hl 3 rfl) ?_
    refine lv_iconst (v := 5) hx hb dL_law_137 (by decide) ?_
    refine lv_iadd hx hb dL_law_138 ?_
    refine va_sld hx hb hX hbl hbA hS (i := (nI i) + 5) (du_sb hiL hLb 5 (by decide)) dL_law_139 ?_
    refine lv_i2l (v := (xs ((nI i) + 5).toNatClampNeg).toInt64) hx hb dL_law_140 rfl ?_
    refine lv_ldc2 hx hb hown (hts (.constantLong RL 13 4294967295) (by decide +kernel)) dL_law_141 ?_
    refine lv_land hx hb dL_law_144 ?_
    refine lv_lor hx hb dL_law_145 ?_
    refine lv_aload_n hx hb dL_law_146 rfl (lv_at hl 0 rfl) ?_
    refine lv_iload_n hx hb dL_law_147 rfl (lv_at hl 3 rfl) ?_
    refine lv_bipush (v := 6) hx hb dL_law_148 (by decide) ?_
    refine lv_iadd hx hb dL_law_150 ?_
    refine va_sld hx hb hX hbl hbA hS (i := (nI i) + 6) (du_sb hiL hLb 6 (by decide)) dL_law_151 ?_
    refine du_tern (t0 := 159) (tj := 160) hx hb dL_law_152 dL_law_155 dL_law_156 dL_law_159 (by decide) (by decide) rfl ?_
    refine lv_aload_n hx hb dL_law_160 rfl (lv_at hl 0 rfl) ?_
    refine lv_iload_n hx hb dL_law_161 rfl (lv_at hl 3 rfl) ?_
    refine lv_bipush (v := 7) hx hb dL_law_162 (by decide) ?_
    refine lv_iadd hx hb dL_law_164 ?_
    refine va_sld hx hb hX hbl hbA hS (i := (nI i) + 7) (du_sb hiL hLb 7 (by decide)) dL_law_165 ?_
    refine du_tern (t0 := 173) (tj := 174) hx hb dL_law_166 dL_law_169 dL_law_170 dL_law_173 (by decide) (by decide) rfl ?_
    refine lv_aload_n hx hb dL_law_174 rfl (lv_at hl 0 rfl) ?_
    refine lv_iload_n hx hb dL_law_175 rfl (lv_at hl 3 rfl) ?_
    refine lv_bipush (v := 8) hx hb dL_law_176 (by decide) ?_
    refine lv_iadd hx hb dL_law_178 ?_
    refine va_sld hx hb hX hbl hbA hS (i := (nI i) + 8) (du_sb hiL hLb 8 (by decide)) dL_law_179 ?_
    refine lv_i2l (v := (xs ((nI i) + 8).toNatClampNeg).toInt64) hx hb dL_law_180 rfl ?_
    refine lv_bipush (v := 32) hx hb dL_law_181 (by decide) ?_
    refine lv_lshl (v := jshl ((xs ((nI i) + 8).toNatClampNeg).toInt64) 32) hx hb dL_law_183 rfl ?_
    refine lv_aload_n hx hb dL_law_184 rfl (lv_at hl 0 rfl) ?_
    refine lv_iload_n hx hb dL_law_185 rfl (lv_at hl 3 rfl) ?_
    refine lv_bipush (v := 9) hx hb dL_law_186 (by decide) ?_
    refine lv_iadd hx hb dL_law_188 ?_
    refine va_sld hx hb hX hbl hbA hS (i := (nI i) + 9) (du_sb hiL hLb 9 (by decide)) dL_law_189 ?_
    refine lv_i2l (v := (xs ((nI i) + 9).toNatClampNeg).toInt64) hx hb dL_law_190 rfl ?_
    refine lv_ldc2 hx hb hown (hts (.constantLong RL 13 4294967295) (by decide +kernel)) dL_law_191 ?_
    refine lv_land hx hb dL_law_194 ?_
    refine lv_lor hx hb dL_law_195 ?_
    refine mu_i (ws := (xw o a1 a2 a3 k1 k2 k3 row dv sl nb wd po tp fi la bi bo)) (ws' := (xw o a1 a2 a3 k1 k2 k3 (if bi = (iz (xs ((nI i) + 6).toNatClampNeg)) then row else mTrN row ((nb + 7) / 8)) dv (mFill (mTop (nI v) ((jshl ((xs ((nI i) + 2).toNatClampNeg).toInt64) 32) ||| (((xs ((nI i) + 3).toNatClampNeg).toInt64) &&& 4294967295))) sl) nb v (mLow (nI v) ((jshl ((xs ((nI i) + 2).toNatClampNeg).toInt64) 32) ||| (((xs ((nI i) + 3).toNatClampNeg).toInt64) &&& 4294967295))) (mTop (nI v) ((jshl ((xs ((nI i) + 2).toNatClampNeg).toInt64) 32) ||| (((xs ((nI i) + 3).toNatClampNeg).toInt64) &&& 4294967295))) (mLow (nI v) ((jshl ((xs ((nI i) + 4).toNatClampNeg).toInt64) 32) ||| (((xs ((nI i) + 5).toNatClampNeg).toInt64) &&& 4294967295))) (mLow (nI v) ((jshl ((xs ((nI i) + 8).toNatClampNeg).toInt64) 32) ||| (((xs ((nI i) + 9).toNatClampNeg).toInt64) &&& 4294967295))) (iz (xs ((nI i) + 6).toNatClampNeg)) (iz (xs ((nI i) + 7).toNatClampNeg)))) (wr := (mw q b1 k4 by8 wd po fi la bi bo nb)) (va_runV (As := [.int (nI v), .long ((jshl ((xs ((nI i) + 2).toNatClampNeg).toInt64) 32) ||| (((xs ((nI i) + 3).toNatClampNeg).toInt64) &&& 4294967295)), .long ((jshl ((xs ((nI i) + 4).toNatClampNeg).toInt64) 32) ||| (((xs ((nI i) + 5).toNatClampNeg).toInt64) &&& 4294967295)), .int (iz (xs ((nI i) + 6).toNatClampNeg)), .int (iz (xs ((nI i) + 7).toNatClampNeg)), .long ((jshl ((xs ((nI i) + 8).toNatClampNeg).toInt64) 32) ||| (((xs ((nI i) + 9).toNatClampNeg).toInt64) &&& 4294967295))]) (rest := []) ⟨hx, hb, hml, hown, hts⟩ (c_kind (sz := H.size) v ((jshl ((xs ((nI i) + 2).toNatClampNeg).toInt64) 32) ||| (((xs ((nI i) + 3).toNatClampNeg).toInt64) &&& 4294967295)) ((jshl ((xs ((nI i) + 4).toNatClampNeg).toInt64) 32) ||| (((xs ((nI i) + 5).toNatClampNeg).toInt64) &&& 4294967295)) (iz (xs ((nI i) + 6).toNatClampNeg)) (iz (xs ((nI i) + 7).toNatClampNeg)) ((jshl ((xs ((nI i) + 8).toNatClampNeg).toInt64) 32) ||| (((xs ((nI i) + 9).toNatClampNeg).toInt64) &&& 4294967295)) (hv1) (hv) (hn) (iz_01 _) (iz_01 _)) (cwV 6 hts gL_law_X0_kind rfl rfl rfl (by decide +kernel) ⟨Nat.le_of_ble_eq_true rfl, Nat.le_of_ble_eq_true rfl⟩) (preV_MU (hP.sub (ws' := (xw o a1 a2 a3 k1 k2 k3 row dv sl nb wd po tp fi la bi bo)) [0, 1, 2, 3] rfl) (hK.sub (tys' := xt k1 k2 k3) [0, 1, 2] rfl) (hD.sub (ws' := (xw o a1 a2 a3 k1 k2 k3 row dv sl nb wd po tp fi la bi bo)) [0, 1, 2, 3] (by decide) rfl) 0 (ci := 0) rfl rfl) rfl rfl hl.1 rfl (lv_room (Nat.le_of_ble_eq_true rfl)) dL_law_196 ⟨Nat.le_of_ble_eq_true rfl, Nat.le_of_ble_eq_true rfl⟩) hS hA hP hD rfl (fun H locs hP hD hS => ?_)
    refine lv_aload_n hx hb dL_law_199 rfl (lv_at hl 2 rfl) ?_
    refine lv_aload_n hx hb dL_law_200 rfl (lv_at hl 0 rfl) ?_
    refine lv_iload_n hx hb dL_law_201 rfl (lv_at hl 3 rfl) ?_
    refine lv_iconst (v := 1) hx hb dL_law_202 (by decide) ?_
    refine lv_iadd hx hb dL_law_203 ?_
    refine va_sld hx hb hX hbl hbA hS (i := (nI i) + 1) (du_sb hiL hLb 1 (by decide)) dL_law_204 ?_
    refine du_rwi (y := nI v) (ev) ?_
    refine lv_aload_n hx hb dL_law_205 rfl (lv_at hl 0 rfl) ?_
    refine lv_iload_n hx hb dL_law_206 rfl (lv_at hl 3 rfl) ?_
    refine lv_iconst (v := 2) hx hb dL_law_207 (by decide) ?_
    refine lv_iadd hx hb dL_law_208 ?_
    refine va_sld hx hb hX hbl hbA hS (i := (nI i) + 2) (du_sb hiL hLb 2 (by decide)) dL_law_209 ?_
    refine lv_i2l (v := (xs ((nI i) + 2).toNatClampNeg).toInt64) hx hb dL_law_210 rfl ?_
    refine lv_bipush (v := 32) hx hb dL_law_211 (by decide) ?_
    refine lv_lshl (v := jshl ((xs ((nI i) + 2).toNatClampNeg).toInt64) 32) hx hb dL_law_213 rfl ?_
    refine lv_aload_n hx hb dL_law_214 rfl (lv_at hl 0 rfl) ?_
    refine lv_iload_n hx hb dL_law_215 rfl (lv_at hl 3 rfl) ?_
    refine lv_iconst (v := 3) hx hb dL_law_216 (by decide) ?_
    refine lv_iadd hx hb dL_law_217 ?_
    refine va_sld hx hb hX hbl hbA hS (i := (nI i) + 3) (du_sb hiL hLb 3 (by decide)) dL_law_218 ?_
    refine lv_i2l (v := (xs ((nI i) + 3).toNatClampNeg).toInt64) hx hb dL_law_219 rfl ?_
    refine lv_ldc2 hx hb hown (hts (.constantLong RL 13 4294967295) (by decide +kernel)) dL_law_220 ?_
    refine lv_land hx hb dL_law_223 ?_
    refine lv_lor hx hb dL_law_224 ?_
    refine lv_aload_n hx hb dL_law_225 rfl (lv_at hl 0 rfl) ?_
    refine lv_iload_n hx hb dL_law_226 rfl (lv_at hl 3 rfl) ?_
    refine lv_iconst (v := 4) hx hb dL_law_227 (by decide) ?_
    refine lv_iadd hx hb dL_law_228 ?_
    refine va_sld hx hb hX hbl hbA hS (i := (nI i) + 4) (du_sb hiL hLb 4 (by decide)) dL_law_229 ?_
    refine lv_i2l (v := (xs ((nI i) + 4).toNatClampNeg).toInt64) hx hb dL_law_230 rfl ?_
    refine lv_bipush (v := 32) hx hb dL_law_231 (by decide) ?_
    refine lv_lshl (v := jshl ((xs ((nI i) + 4).toNatClampNeg).toInt64) 32) hx hb dL_law_233 rfl ?_
    refine lv_aload_n hx hb dL_law_234 rfl (lv_at hl 0 rfl) ?_
    refine lv_iload_n hx hb dL_law_235 rfl (lv_at hl 3 rfl) ?_
    refine lv_iconst (v := 5) hx hb dL_law_236 (by decide) ?_
    refine lv_iadd hx hb dL_law_237 ?_
    refine va_sld hx hb hX hbl hbA hS (i := (nI i) + 5) (du_sb hiL hLb 5 (by decide)) dL_law_238 ?_
    refine lv_i2l (v := (xs ((nI i) + 5).toNatClampNeg).toInt64) hx hb dL_law_239 rfl ?_
    refine lv_ldc2 hx hb hown (hts (.constantLong RL 13 4294967295) (by decide +kernel)) dL_law_240 ?_
    refine lv_land hx hb dL_law_243 ?_
    refine lv_lor hx hb dL_law_244 ?_
    refine lv_aload_n hx hb dL_law_245 rfl (lv_at hl 0 rfl) ?_
    refine lv_iload_n hx hb dL_law_246 rfl (lv_at hl 3 rfl) ?_
    refine lv_bipush (v := 6) hx hb dL_law_247 (by decide) ?_
    refine lv_iadd hx hb dL_law_249 ?_
    refine va_sld hx hb hX hbl hbA hS (i := (nI i) + 6) (du_sb hiL hLb 6 (by decide)) dL_law_250 ?_
    refine du_tern (t0 := 258) (tj := 259) hx hb dL_law_251 dL_law_254 dL_law_255 dL_law_258 (by decide) (by decide) rfl ?_
    refine lv_aload_n hx hb dL_law_259 rfl (lv_at hl 0 rfl) ?_
    refine lv_iload_n hx hb dL_law_260 rfl (lv_at hl 3 rfl) ?_
    refine lv_bipush (v := 7) hx hb dL_law_261 (by decide) ?_
    refine lv_iadd hx hb dL_law_263 ?_
    refine va_sld hx hb hX hbl hbA hS (i := (nI i) + 7) (du_sb hiL hLb 7 (by decide)) dL_law_264 ?_
    refine du_tern (t0 := 272) (tj := 273) hx hb dL_law_265 dL_law_268 dL_law_269 dL_law_272 (by decide) (by decide) rfl ?_
    refine lv_aload_n hx hb dL_law_273 rfl (lv_at hl 0 rfl) ?_
    refine lv_iload_n hx hb dL_law_274 rfl (lv_at hl 3 rfl) ?_
    refine lv_bipush (v := 8) hx hb dL_law_275 (by decide) ?_
    refine lv_iadd hx hb dL_law_277 ?_
    refine va_sld hx hb hX hbl hbA hS (i := (nI i) + 8) (du_sb hiL hLb 8 (by decide)) dL_law_278 ?_
    refine lv_i2l (v := (xs ((nI i) + 8).toNatClampNeg).toInt64) hx hb dL_law_279 rfl ?_
    refine lv_bipush (v := 32) hx hb dL_law_280 (by decide) ?_
    refine lv_lshl (v := jshl ((xs ((nI i) + 8).toNatClampNeg).toInt64) 32) hx hb dL_law_282 rfl ?_
    refine lv_aload_n hx hb dL_law_283 rfl (lv_at hl 0 rfl) ?_
    refine lv_iload_n hx hb dL_law_284 rfl (lv_at hl 3 rfl) ?_
    refine lv_bipush (v := 9) hx hb dL_law_285 (by decide) ?_
    refine lv_iadd hx hb dL_law_287 ?_
    refine va_sld hx hb hX hbl hbA hS (i := (nI i) + 9) (du_sb hiL hLb 9 (by decide)) dL_law_288 ?_
    refine lv_i2l (v := (xs ((nI i) + 9).toNatClampNeg).toInt64) hx hb dL_law_289 rfl ?_
    refine lv_ldc2 hx hb hown (hts (.constantLong RL 13 4294967295) (by decide +kernel)) dL_law_290 ?_
    refine lv_land hx hb dL_law_293 ?_
    refine lv_lor hx hb dL_law_294 ?_
    refine mu_i (ws := (mw q b1 k4 by8 wd po fi la bi bo nb)) (ws' := (mw q b1 k4 by8 v (rLow ((jshl ((xs ((nI i) + 2).toNatClampNeg).toInt64) 32) ||| (((xs ((nI i) + 3).toNatClampNeg).toInt64) &&& 4294967295)) (nI v)) (rLow ((jshl ((xs ((nI i) + 4).toNatClampNeg).toInt64) 32) ||| (((xs ((nI i) + 5).toNatClampNeg).toInt64) &&& 4294967295)) (nI v)) (rLow ((jshl ((xs ((nI i) + 8).toNatClampNeg).toInt64) 32) ||| (((xs ((nI i) + 9).toNatClampNeg).toInt64) &&& 4294967295)) (nI v)) (iz (xs ((nI i) + 6).toNatClampNeg)) (iz (xs ((nI i) + 7).toNatClampNeg)) nb)) (wr := (xw o a1 a2 a3 k1 k2 k3 (if bi = (iz (xs ((nI i) + 6).toNatClampNeg)) then row else mTrN row ((nb + 7) / 8)) dv (mFill (mTop (nI v) ((jshl ((xs ((nI i) + 2).toNatClampNeg).toInt64) 32) ||| (((xs ((nI i) + 3).toNatClampNeg).toInt64) &&& 4294967295))) sl) nb v (mLow (nI v) ((jshl ((xs ((nI i) + 2).toNatClampNeg).toInt64) 32) ||| (((xs ((nI i) + 3).toNatClampNeg).toInt64) &&& 4294967295))) (mTop (nI v) ((jshl ((xs ((nI i) + 2).toNatClampNeg).toInt64) 32) ||| (((xs ((nI i) + 3).toNatClampNeg).toInt64) &&& 4294967295))) (mLow (nI v) ((jshl ((xs ((nI i) + 4).toNatClampNeg).toInt64) 32) ||| (((xs ((nI i) + 5).toNatClampNeg).toInt64) &&& 4294967295))) (mLow (nI v) ((jshl ((xs ((nI i) + 8).toNatClampNeg).toInt64) 32) ||| (((xs ((nI i) + 9).toNatClampNeg).toInt64) &&& 4294967295))) (iz (xs ((nI i) + 6).toNatClampNeg)) (iz (xs ((nI i) + 7).toNatClampNeg)))) (va_runV (As := [.int (nI v), .long ((jshl ((xs ((nI i) + 2).toNatClampNeg).toInt64) 32) ||| (((xs ((nI i) + 3).toNatClampNeg).toInt64) &&& 4294967295)), .long ((jshl ((xs ((nI i) + 4).toNatClampNeg).toInt64) 32) ||| (((xs ((nI i) + 5).toNatClampNeg).toInt64) &&& 4294967295)), .int (iz (xs ((nI i) + 6).toNatClampNeg)), .int (iz (xs ((nI i) + 7).toNatClampNeg)), .long ((jshl ((xs ((nI i) + 8).toNatClampNeg).toInt64) 32) ||| (((xs ((nI i) + 9).toNatClampNeg).toInt64) &&& 4294967295))]) (rest := [.int 1]) ⟨hx, hb, hml, hown, hts⟩ (r_kind (sz := H.size) v ((jshl ((xs ((nI i) + 2).toNatClampNeg).toInt64) 32) ||| (((xs ((nI i) + 3).toNatClampNeg).toInt64) &&& 4294967295)) ((jshl ((xs ((nI i) + 4).toNatClampNeg).toInt64) 32) ||| (((xs ((nI i) + 5).toNatClampNeg).toInt64) &&& 4294967295)) (iz (xs ((nI i) + 6).toNatClampNeg)) (iz (xs ((nI i) + 7).toNatClampNeg)) ((jshl ((xs ((nI i) + 8).toNatClampNeg).toInt64) 32) ||| (((xs ((nI i) + 9).toNatClampNeg).toInt64) &&& 4294967295)) (hv1) (hv) (iz_01 _) (iz_01 _)) (cwV 6 hts gL_law_X1_kind rfl rfl rfl (by decide +kernel) ⟨Nat.le_of_ble_eq_true rfl, Nat.le_of_ble_eq_true rfl⟩) (preV_MU (hP.sub (ws' := (mw q b1 k4 by8 wd po fi la bi bo nb)) [4, 5] rfl) (hK.sub (tys' := mt k4) [3] rfl) (hD.sub (ws' := (mw q b1 k4 by8 wd po fi la bi bo nb)) [4, 5] (by decide) rfl) 0 (ci := 1) rfl rfl) rfl rfl hl.1 rfl (lv_room (Nat.le_of_ble_eq_true rfl)) dL_law_295 ⟨Nat.le_of_ble_eq_true rfl, Nat.le_of_ble_eq_true rfl⟩) hS hA (hP.sub [4, 5, 0, 1, 2, 3] rfl) (hD.sub [4, 5, 0, 1, 2, 3] (by decide) rfl) rfl (fun H locs hP hD hS => ?_)
    have hP : va_P D vwCl ((xw o a1 a2 a3 k1 k2 k3 (if bi = (iz (xs ((nI i) + 6).toNatClampNeg)) then row else mTrN row ((nb + 7) / 8)) dv (mFill (mTop (nI v) ((jshl ((xs ((nI i) + 2).toNatClampNeg).toInt64) 32) ||| (((xs ((nI i) + 3).toNatClampNeg).toInt64) &&& 4294967295))) sl) nb v (mLow (nI v) ((jshl ((xs ((nI i) + 2).toNatClampNeg).toInt64) 32) ||| (((xs ((nI i) + 3).toNatClampNeg).toInt64) &&& 4294967295))) (mTop (nI v) ((jshl ((xs ((nI i) + 2).toNatClampNeg).toInt64) 32) ||| (((xs ((nI i) + 3).toNatClampNeg).toInt64) &&& 4294967295))) (mLow (nI v) ((jshl ((xs ((nI i) + 4).toNatClampNeg).toInt64) 32) ||| (((xs ((nI i) + 5).toNatClampNeg).toInt64) &&& 4294967295))) (mLow (nI v) ((jshl ((xs ((nI i) + 8).toNatClampNeg).toInt64) 32) ||| (((xs ((nI i) + 9).toNatClampNeg).toInt64) &&& 4294967295))) (iz (xs ((nI i) + 6).toNatClampNeg)) (iz (xs ((nI i) + 7).toNatClampNeg))) ++ (mw q b1 k4 by8 v (rLow ((jshl ((xs ((nI i) + 2).toNatClampNeg).toInt64) 32) ||| (((xs ((nI i) + 3).toNatClampNeg).toInt64) &&& 4294967295)) (nI v)) (rLow ((jshl ((xs ((nI i) + 4).toNatClampNeg).toInt64) 32) ||| (((xs ((nI i) + 5).toNatClampNeg).toInt64) &&& 4294967295)) (nI v)) (rLow ((jshl ((xs ((nI i) + 8).toNatClampNeg).toInt64) 32) ||| (((xs ((nI i) + 9).toNatClampNeg).toInt64) &&& 4294967295)) (nI v)) (iz (xs ((nI i) + 6).toNatClampNeg)) (iz (xs ((nI i) + 7).toNatClampNeg)) nb)) H := hP.sub [2, 3, 4, 5, 0, 1] rfl
    have hD : va_D (fun q9 : Nat => s.heap.size ≤ q9) ((xw o a1 a2 a3 k1 k2 k3 (if bi = (iz (xs ((nI i) + 6).toNatClampNeg)) then row else mTrN row ((nb + 7) / 8)) dv (mFill (mTop (nI v) ((jshl ((xs ((nI i) + 2).toNatClampNeg).toInt64) 32) ||| (((xs ((nI i) + 3).toNatClampNeg).toInt64) &&& 4294967295))) sl) nb v (mLow (nI v) ((jshl ((xs ((nI i) + 2).toNatClampNeg).toInt64) 32) ||| (((xs ((nI i) + 3).toNatClampNeg).toInt64) &&& 4294967295))) (mTop (nI v) ((jshl ((xs ((nI i) + 2).toNatClampNeg).toInt64) 32) ||| (((xs ((nI i) + 3).toNatClampNeg).toInt64) &&& 4294967295))) (mLow (nI v) ((jshl ((xs ((nI i) + 4).toNatClampNeg).toInt64) 32) ||| (((xs ((nI i) + 5).toNatClampNeg).toInt64) &&& 4294967295))) (mLow (nI v) ((jshl ((xs ((nI i) + 8).toNatClampNeg).toInt64) 32) ||| (((xs ((nI i) + 9).toNatClampNeg).toInt64) &&& 4294967295))) (iz (xs ((nI i) + 6).toNatClampNeg)) (iz (xs ((nI i) + 7).toNatClampNeg))) ++ (mw q b1 k4 by8 v (rLow ((jshl ((xs ((nI i) + 2).toNatClampNeg).toInt64) 32) ||| (((xs ((nI i) + 3).toNatClampNeg).toInt64) &&& 4294967295)) (nI v)) (rLow ((jshl ((xs ((nI i) + 4).toNatClampNeg).toInt64) 32) ||| (((xs ((nI i) + 5).toNatClampNeg).toInt64) &&& 4294967295)) (nI v)) (rLow ((jshl ((xs ((nI i) + 8).toNatClampNeg).toInt64) 32) ||| (((xs ((nI i) + 9).toNatClampNeg).toInt64) &&& 4294967295)) (nI v)) (iz (xs ((nI i) + 6).toNatClampNeg)) (iz (xs ((nI i) + 7).toNatClampNeg)) nb)) := hD.sub [2, 3, 4, 5, 0, 1] (by decide) rfl
    refine lv_icmp_eq (tgt := 703) hx hb dL_law_298 (by decide) (fun c_298 => ?_) (fun c_298 => ?_)
    ·
      rw [← mLow_eq hv1 hv, ← mLow_eq hv1 hv, ← mLow_eq hv1 hv] at hP
      exact kk _ _ _ _ _ _ _ _ _ _ _ _ _ (rel_kind hR hv1 hv (iz_01 _) (iz_01 _)) H locs hP hS ls (lv_sub hl [0, 1, 2, 3] rfl)
    ·
      exact absurd (rfl) c_298
set_option maxHeartbeats 4000000 in
set_option maxRecDepth 100000 in
theorem law_feed {p : Program} {l : Launch} {e : Env} {s : State} {m : MethodId} {below : List Frame} {meth : Method} {c : Code} {b L : Nat} {xs : Nat → Int32} {D : va_G} {o a1 a2 a3 q b1 : Nat} {k1 k2 k3 k4 : ClassId} {i : Nat} (C0 : lw_At p s m meth c b L xs) (hK : va_K D vwCl (xt k1 k2 k3 ++ mt k4) s) (hDa : ∀ ws : va_W, ws.map Prod.fst = [o, a1, a2, a3, q, b1] → va_D (fun q9 : Nat => s.heap.size ≤ q9) ws) (hLb : L ≤ 5120) (hiL : i + 10 ≤ L) (kk : lwG p l e s m below meth c b D o a1 a2 a3 q b1 k1 k2 k3 k4 i 703) : lwG p l e s m below meth c b D o a1 a2 a3 q b1 k1 k2 k3 k4 i 303 := by
  obtain ⟨hx, hb, hr, hml, hown, hts, hX, hbl, hlocks, hgv⟩ := C0
  have hown : s.vm.findClass RL = some m.cls := hown
  have hts := fun w h => hts w (wsL_law_in w h)
  have hA : ∀ q9 : Nat, s.heap.size ≤ q9 → (fun q9 : Nat => s.heap.size ≤ q9) q9 := fun _ h => h
  have hbA : ¬ (fun q9 : Nat => s.heap.size ≤ q9) b := Nat.not_le.mpr hbl
  intro row dv sl by8 B nb wd po tp fi la bi bo hR H locs hP hS ls hl
  have hn := hR.1
  have hw1 := hR.2.1
  have hw := hR.2.2.1
  have hD : va_D (fun q9 : Nat => s.heap.size ≤ q9) ((xw o a1 a2 a3 k1 k2 k3 row dv sl nb wd po tp fi la bi bo) ++ (mw q b1 k4 by8 wd po fi la bi bo nb)) := hDa _ rfl
  rcases du_fd hn (xs (nI i + 1).toNatClampNeg) (xs (nI i + 2).toNatClampNeg) with hno | ⟨β, τ, hβ, hτ1, hτ, eβ, eτ⟩
  ·
    refine lv_aload_n hx hb dL_law_303 rfl (lv_at hl 1 rfl) ?_
    refine lv_aload_n hx hb dL_law_304 rfl (lv_at hl 0 rfl) ?_
    refine lv_iload_n hx hb dL_law_305 rfl (lv_at hl 3 rfl) ?_
    refine lv_iconst (v := 1) hx hb dL_law_306 (by decide) ?_
    refine lv_iadd hx hb dL_law_307 ?_
    refine va_sld hx hb hX hbl hbA hS (i := (nI i) + 1) (du_sb hiL hLb 1 (by decide)) dL_law_308 ?_
    refine lv_aload_n hx hb dL_law_309 rfl (lv_at hl 0 rfl) ?_
    refine lv_iload_n hx hb dL_law_310 rfl (lv_at hl 3 rfl) ?_
    refine lv_iconst (v := 2) hx hb dL_law_311 (by decide) ?_
    refine lv_iadd hx hb dL_law_312 ?_
    refine va_sld hx hb hX hbl hbA hS (i := (nI i) + 2) (du_sb hiL hLb 2 (by decide)) dL_law_313 ?_
    refine ro_i (va_runV (As := [.int (xs ((nI i) + 1).toNatClampNeg), .int (xs ((nI i) + 2).toNatClampNeg)]) (rest := []) ⟨hx, hb, hml, hown, hts⟩ (c_feed_no (sz := H.size) (xs ((nI i) + 1).toNatClampNeg) (xs ((nI i) + 2).toNatClampNeg) (hn) (hno)) (cwV 2 hts gL_law_X0_feed rfl rfl rfl (by decide +kernel) ⟨Nat.le_of_ble_eq_true rfl, Nat.le_of_ble_eq_true rfl⟩) (preV_RO (hP.sub (ws' := (xw o a1 a2 a3 k1 k2 k3 row dv sl nb wd po tp fi la bi bo)) [0, 1, 2, 3] rfl) (hK.sub (tys' := xt k1 k2 k3) [0, 1, 2] rfl) 0 (ci := 0) rfl rfl) rfl rfl hl.1 rfl (lv_room (Nat.le_of_ble_eq_true rfl)) dL_law_314 ⟨Nat.le_of_ble_eq_true rfl, Nat.le_of_ble_eq_true rfl⟩) hS hA hP (fun H locs hP hS => ?_)
    refine lv_aload_n hx hb dL_law_317 rfl (lv_at hl 2 rfl) ?_
    refine lv_aload_n hx hb dL_law_318 rfl (lv_at hl 0 rfl) ?_
    refine lv_iload_n hx hb dL_law_319 rfl (lv_at hl 3 rfl) ?_
    refine lv_iconst (v := 1) hx hb dL_law_320 (by decide) ?_
    refine lv_iadd hx hb dL_law_321 ?_
    refine va_sld hx hb hX hbl hbA hS (i := (nI i) + 1) (du_sb hiL hLb 1 (by decide)) dL_law_322 ?_
    refine lv_aload_n hx hb dL_law_323 rfl (lv_at hl 0 rfl) ?_
    refine lv_iload_n hx hb dL_law_324 rfl (lv_at hl 3 rfl) ?_
    refine lv_iconst (v := 2) hx hb dL_law_325 (by decide) ?_
    refine lv_iadd hx hb dL_law_326 ?_
    refine va_sld hx hb hX hbl hbA hS (i := (nI i) + 2) (du_sb hiL hLb 2 (by decide)) dL_law_327 ?_
    refine ro_i (va_runV (As := [.int (xs ((nI i) + 1).toNatClampNeg), .int (xs ((nI i) + 2).toNatClampNeg)]) (rest := [.int 0]) ⟨hx, hb, hml, hown, hts⟩ (r_feed_no (sz := H.size) (xs ((nI i) + 1).toNatClampNeg) (xs ((nI i) + 2).toNatClampNeg) (hn) (hno)) (cwV 2 hts gL_law_X1_feed rfl rfl rfl (by decide +kernel) ⟨Nat.le_of_ble_eq_true rfl, Nat.le_of_ble_eq_true rfl⟩) (preV_RO (hP.sub (ws' := (mw q b1 k4 by8 wd po fi la bi bo nb)) [4, 5] rfl) (hK.sub (tys' := mt k4) [3] rfl) 0 (ci := 1) rfl rfl) rfl rfl hl.1 rfl (lv_room (Nat.le_of_ble_eq_true rfl)) dL_law_328 ⟨Nat.le_of_ble_eq_true rfl, Nat.le_of_ble_eq_true rfl⟩) hS hA hP (fun H locs hP hS => ?_)
    refine lv_icmp_eq (tgt := 703) hx hb dL_law_331 (by decide) (fun c_331 => ?_) (fun c_331 => ?_)
    ·
      exact kk row dv sl by8 B nb wd po tp fi la bi bo (hR) H locs hP hS ls (lv_sub hl [0, 1, 2, 3] rfl)
    ·
      exact absurd (rfl) c_331
  ·
    refine lv_aload_n hx hb dL_law_303 rfl (lv_at hl 1 rfl) ?_
    refine lv_aload_n hx hb dL_law_304 rfl (lv_at hl 0 rfl) ?_
    refine lv_iload_n hx hb dL_law_305 rfl (lv_at hl 3 rfl) ?_
    refine lv_iconst (v := 1) hx hb dL_law_306 (by decide) ?_
    refine lv_iadd hx hb dL_law_307 ?_
    refine va_sld hx hb hX hbl hbA hS (i := (nI i) + 1) (du_sb hiL hLb 1 (by decide)) dL_law_308 ?_
    refine du_rwi (y := nI β) (eβ) ?_
    refine lv_aload_n hx hb dL_law_309 rfl (lv_at hl 0 rfl) ?_
    refine lv_iload_n hx hb dL_law_310 rfl (lv_at hl 3 rfl) ?_
    refine lv_iconst (v := 2) hx hb dL_law_311 (by decide) ?_
    refine lv_iadd hx hb dL_law_312 ?_
    refine va_sld hx hb hX hbl hbA hS (i := (nI i) + 2) (du_sb hiL hLb 2 (by decide)) dL_law_313 ?_
    refine du_rwi (y := nI τ) (eτ) ?_
    refine mu_i (ws := (xw o a1 a2 a3 k1 k2 k3 row dv sl nb wd po tp fi la bi bo)) (ws' := (xw o a1 a2 a3 k1 k2 k3 (mFeN row (mCome bi (nI β)) nb τ) dv sl (nb + τ) wd po tp fi la bi bo)) (wr := (mw q b1 k4 by8 wd po fi la bi bo nb)) (va_runV (As := [.int (nI β), .int (nI τ)]) (rest := []) ⟨hx, hb, hml, hown, hts⟩ (c_feed (sz := H.size) β τ (hn) (hβ) (hτ1) (hτ)) (cwV 2 hts gL_law_X0_feed rfl rfl rfl (by decide +kernel) ⟨Nat.le_of_ble_eq_true rfl, Nat.le_of_ble_eq_true rfl⟩) (preV_MU (hP.sub (ws' := (xw o a1 a2 a3 k1 k2 k3 row dv sl nb wd po tp fi la bi bo)) [0, 1, 2, 3] rfl) (hK.sub (tys' := xt k1 k2 k3) [0, 1, 2] rfl) (hD.sub (ws' := (xw o a1 a2 a3 k1 k2 k3 row dv sl nb wd po tp fi la bi bo)) [0, 1, 2, 3] (by decide) rfl) 0 (ci := 0) rfl rfl) rfl rfl hl.1 rfl (lv_room (Nat.le_of_ble_eq_true rfl)) dL_law_314 ⟨Nat.le_of_ble_eq_true rfl, Nat.le_of_ble_eq_true rfl⟩) hS hA hP hD rfl (fun H locs hP hD hS => ?_)
    refine lv_aload_n hx hb dL_law_317 rfl (lv_at hl 2 rfl) ?_
    refine lv_aload_n hx hb dL_law_318 rfl (lv_at hl 0 rfl) ?_
    refine lv_iload_n hx hb dL_law_319 rfl (lv_at hl 3 rfl) ?_
    refine lv_iconst (v := 1) hx hb dL_law_320 (by decide) ?_
    refine lv_iadd hx hb dL_law_321 ?_
    refine va_sld hx hb hX hbl hbA hS (i := (nI i) + 1) (du_sb hiL hLb 1 (by decide)) dL_law_322 ?_
    refine du_rwi (y := nI β) (eβ) ?_
    refine lv_aload_n hx hb dL_law_323 rfl (lv_at hl 0 rfl) ?_
    refine lv_iload_n hx hb dL_law_324 rfl (lv_at hl 3 rfl) ?_
    refine lv_iconst (v := 2) hx hb dL_law_325 (by decide) ?_
    refine lv_iadd hx hb dL_law_326 ?_
    refine va_sld hx hb hX hbl hbA hS (i := (nI i) + 2) (du_sb hiL hLb 2 (by decide)) dL_law_327 ?_
    refine du_rwi (y := nI τ) (eτ) ?_
    refine mu_i (ws := (mw q b1 k4 by8 wd po fi la bi bo nb)) (ws' := (mw q b1 k4 (rFeN by8 (nI β) nb τ) wd po fi la bi bo (nb + τ))) (wr := (xw o a1 a2 a3 k1 k2 k3 (mFeN row (mCome bi (nI β)) nb τ) dv sl (nb + τ) wd po tp fi la bi bo)) (va_runV (As := [.int (nI β), .int (nI τ)]) (rest := [.int 1]) ⟨hx, hb, hml, hown, hts⟩ (r_feed (sz := H.size) β τ (hn) (hβ) (hτ1) (hτ)) (cwV 2 hts gL_law_X1_feed rfl rfl rfl (by decide +kernel) ⟨Nat.le_of_ble_eq_true rfl, Nat.le_of_ble_eq_true rfl⟩) (preV_MU (hP.sub (ws' := (mw q b1 k4 by8 wd po fi la bi bo nb)) [4, 5] rfl) (hK.sub (tys' := mt k4) [3] rfl) (hD.sub (ws' := (mw q b1 k4 by8 wd po fi la bi bo nb)) [4, 5] (by decide) rfl) 0 (ci := 1) rfl rfl) rfl rfl hl.1 rfl (lv_room (Nat.le_of_ble_eq_true rfl)) dL_law_328 ⟨Nat.le_of_ble_eq_true rfl, Nat.le_of_ble_eq_true rfl⟩) hS hA (hP.sub [4, 5, 0, 1, 2, 3] rfl) (hD.sub [4, 5, 0, 1, 2, 3] (by decide) rfl) rfl (fun H locs hP hD hS => ?_)
    have hP : va_P D vwCl ((xw o a1 a2 a3 k1 k2 k3 (mFeN row (mCome bi (nI β)) nb τ) dv sl (nb + τ) wd po tp fi la bi bo) ++ (mw q b1 k4 (rFeN by8 (nI β) nb τ) wd po fi la bi bo (nb + τ))) H := hP.sub [2, 3, 4, 5, 0, 1] rfl
    have hD : va_D (fun q9 : Nat => s.heap.size ≤ q9) ((xw o a1 a2 a3 k1 k2 k3 (mFeN row (mCome bi (nI β)) nb τ) dv sl (nb + τ) wd po tp fi la bi bo) ++ (mw q b1 k4 (rFeN by8 (nI β) nb τ) wd po fi la bi bo (nb + τ))) := hD.sub [2, 3, 4, 5, 0, 1] (by decide) rfl
    refine lv_icmp_eq (tgt := 703) hx hb dL_law_331 (by decide) (fun c_331 => ?_) (fun c_331 => ?_)
    ·
      exact kk _ _ _ _ _ _ _ _ _ _ _ _ _ (rel_feed hR hβ hτ) H locs hP hS ls (lv_sub hl [0, 1, 2, 3] rfl)
    ·
      exact absurd (rfl) c_331
set_option maxHeartbeats 4000000 in
set_option maxRecDepth 100000 in
theorem law_clear {p : Program} {l : Launch} {e : Env} {s : State} {m : MethodId} {below : List Frame} {meth : Method} {c : Code} {b L : Nat} {xs : Nat → Int32} {D : va_G} {o a1 a2 a3 q b1 : Nat} {k1 k2 k3 k4 : ClassId} {i : Nat} (C0 : lw_At p s m meth c b L xs) (hK : va_K D vwCl (xt k1 k2 k3 ++ mt k4) s) (hDa : ∀ ws : va_W, ws.map Prod.fst = [o, a1, a2, a3, q, b1] → va_D (fun q9 : Nat => s.heap.size ≤ q9) ws) (hLb : L ≤ 5120) (hiL : i + 10 ≤ L) (kk : lwG p l e s m below meth c b D o a1 a2 a3 q b1 k1 k2 k3 k4 i 703) : lwG p l e s m below meth c b D o a1 a2 a3 q b1 k1 k2 k3 k4 i 336 := by
  obtain ⟨hx, hb, hr, hml, hown, hts, hX, hbl, hlocks, hgv⟩ := C0
  have hown : s.vm.findClass RL = some m.cls := hown
  have hts := fun w h => hts w (wsL_law_in w h)
  have hA : ∀ q9 : Nat, s.heap.size ≤ q9 → (fun q9 : Nat => s.heap.size ≤ q9) q9 := fun _ h => h
  have hbA : ¬ (fun q9 : Nat => s.heap.size ≤ q9) b := Nat.not_le.mpr hbl
  intro row dv sl by8 B nb wd po tp fi la bi bo hR H locs hP hS ls hl
  have hn := hR.1
  have hw1 := hR.2.1
  have hw := hR.2.2.1
  have hD : va_D (fun q9 : Nat => s.heap.size ≤ q9) ((xw o a1 a2 a3 k1 k2 k3 row dv sl nb wd po tp fi la bi bo) ++ (mw q b1 k4 by8 wd po fi la bi bo nb)) := hDa _ rfl
  refine lv_aload_n hx hb dL_law_336 rfl (lv_at hl 1 rfl) ?_
  refine mu_v (ws := (xw o a1 a2 a3 k1 k2 k3 row dv sl nb wd po tp fi la bi bo)) (ws' := (xw o a1 a2 a3 k1 k2 k3 (mAFN row 0 625) dv sl 0 wd po tp fi la bi bo)) (wr := (mw q b1 k4 by8 wd po fi la bi bo nb)) (va_runV (As := []) (rest := []) ⟨hx, hb, hml, hown, hts⟩ (c_clear (sz := H.size) ) (cwV 0 hts gL_law_X0_clear rfl rfl rfl (by decide +kernel) ⟨Nat.le_of_ble_eq_true rfl, Nat.le_of_ble_eq_true rfl⟩) (preV_MU (hP.sub (ws' := (xw o a1 a2 a3 k1 k2 k3 row dv sl nb wd po tp fi la bi bo)) [0, 1, 2, 3] rfl) (hK.sub (tys' := xt k1 k2 k3) [0, 1, 2] rfl) (hD.sub (ws' := (xw o a1 a2 a3 k1 k2 k3 row dv sl nb wd po tp fi la bi bo)) [0, 1, 2, 3] (by decide) rfl) 0 (ci := 0) rfl rfl) rfl rfl hl.1 rfl (lv_room (Nat.le_of_ble_eq_true rfl)) dL_law_337 ⟨Nat.le_of_ble_eq_true rfl, Nat.le_of_ble_eq_true rfl⟩) hS hA hP hD rfl (fun H locs hP hD hS => ?_)
  refine lv_aload_n hx hb dL_law_340 rfl (lv_at hl 2 rfl) ?_
  refine mu_v (ws := (mw q b1 k4 by8 wd po fi la bi bo nb)) (ws' := (mw q b1 k4 by8 wd po fi la bi bo 0)) (wr := (xw o a1 a2 a3 k1 k2 k3 (mAFN row 0 625) dv sl 0 wd po tp fi la bi bo)) (va_runV (As := []) (rest := []) ⟨hx, hb, hml, hown, hts⟩ (r_clear (sz := H.size) ) (cwV 0 hts gL_law_X1_clear rfl rfl rfl (by decide +kernel) ⟨Nat.le_of_ble_eq_true rfl, Nat.le_of_ble_eq_true rfl⟩) (preV_MU (hP.sub (ws' := (mw q b1 k4 by8 wd po fi la bi bo nb)) [4, 5] rfl) (hK.sub (tys' := mt k4) [3] rfl) (hD.sub (ws' := (mw q b1 k4 by8 wd po fi la bi bo nb)) [4, 5] (by decide) rfl) 0 (ci := 1) rfl rfl) rfl rfl hl.1 rfl (lv_room (Nat.le_of_ble_eq_true rfl)) dL_law_341 ⟨Nat.le_of_ble_eq_true rfl, Nat.le_of_ble_eq_true rfl⟩) hS hA (hP.sub [4, 5, 0, 1, 2, 3] rfl) (hD.sub [4, 5, 0, 1, 2, 3] (by decide) rfl) rfl (fun H locs hP hD hS => ?_)
  have hP : va_P D vwCl ((xw o a1 a2 a3 k1 k2 k3 (mAFN row 0 625) dv sl 0 wd po tp fi la bi bo) ++ (mw q b1 k4 by8 wd po fi la bi bo 0)) H := hP.sub [2, 3, 4, 5, 0, 1] rfl
  have hD : va_D (fun q9 : Nat => s.heap.size ≤ q9) ((xw o a1 a2 a3 k1 k2 k3 (mAFN row 0 625) dv sl 0 wd po tp fi la bi bo) ++ (mw q b1 k4 by8 wd po fi la bi bo 0)) := hD.sub [2, 3, 4, 5, 0, 1] (by decide) rfl
  refine lv_goto (tgt := 703) hx hb dL_law_344 (by decide) ?_
  exact kk _ _ _ _ _ _ _ _ _ _ _ _ _ (rel_clear hR) H locs hP hS ls (lv_sub hl [0, 1, 2, 3] rfl)
set_option maxHeartbeats 4000000 in
set_option maxRecDepth 100000 in
theorem law_flip {p : Program} {l : Launch} {e : Env} {s : State} {m : MethodId} {below : List Frame} {meth : Method} {c : Code} {b L : Nat} {xs : Nat → Int32} {D : va_G} {o a1 a2 a3 q b1 : Nat} {k1 k2 k3 k4 : ClassId} {i : Nat} (C0 : lw_At p s m meth c b L xs) (hK : va_K D vwCl (xt k1 k2 k3 ++ mt k4) s) (hDa : ∀ ws : va_W, ws.map Prod.fst = [o, a1, a2, a3, q, b1] → va_D (fun q9 : Nat => s.heap.size ≤ q9) ws) (hLb : L ≤ 5120) (hiL : i + 10 ≤ L) (kk : lwG p l e s m below meth c b D o a1 a2 a3 q b1 k1 k2 k3 k4 i 703) : lwG p l e s m below meth c b D o a1 a2 a3 q b1 k1 k2 k3 k4 i 347 := by
  obtain ⟨hx, hb, hr, hml, hown, hts, hX, hbl, hlocks, hgv⟩ := C0
  have hown : s.vm.findClass RL = some m.cls := hown
  have hts := fun w h => hts w (wsL_law_in w h)
  have hA : ∀ q9 : Nat, s.heap.size ≤ q9 → (fun q9 : Nat => s.heap.size ≤ q9) q9 := fun _ h => h
  have hbA : ¬ (fun q9 : Nat => s.heap.size ≤ q9) b := Nat.not_le.mpr hbl
  intro row dv sl by8 B nb wd po tp fi la bi bo hR H locs hP hS ls hl
  have hn := hR.1
  have hw1 := hR.2.1
  have hw := hR.2.2.1
  have hD : va_D (fun q9 : Nat => s.heap.size ≤ q9) ((xw o a1 a2 a3 k1 k2 k3 row dv sl nb wd po tp fi la bi bo) ++ (mw q b1 k4 by8 wd po fi la bi bo nb)) := hDa _ rfl
  rcases du_fl nb hn (xs (nI i + 1).toNatClampNeg) with hno | ⟨j, hj, ej⟩
  ·
    refine lv_aload_n hx hb dL_law_347 rfl (lv_at hl 1 rfl) ?_
    refine lv_aload_n hx hb dL_law_348 rfl (lv_at hl 0 rfl) ?_
    refine lv_iload_n hx hb dL_law_349 rfl (lv_at hl 3 rfl) ?_
    refine lv_iconst (v := 1) hx hb dL_law_350 (by decide) ?_
    refine lv_iadd hx hb dL_law_351 ?_
    refine va_sld hx hb hX hbl hbA hS (i := (nI i) + 1) (du_sb hiL hLb 1 (by decide)) dL_law_352 ?_
    refine ro_i (va_runV (As := [.int (xs ((nI i) + 1).toNatClampNeg)]) (rest := []) ⟨hx, hb, hml, hown, hts⟩ (c_flip_no (sz := H.size) (xs ((nI i) + 1).toNatClampNeg) (hno)) (cwV 1 hts gL_law_X0_flip rfl rfl rfl (by decide +kernel) ⟨Nat.le_of_ble_eq_true rfl, Nat.le_of_ble_eq_true rfl⟩) (preV_RO (hP.sub (ws' := (xw o a1 a2 a3 k1 k2 k3 row dv sl nb wd po tp fi la bi bo)) [0, 1, 2, 3] rfl) (hK.sub (tys' := xt k1 k2 k3) [0, 1, 2] rfl) 0 (ci := 0) rfl rfl) rfl rfl hl.1 rfl (lv_room (Nat.le_of_ble_eq_true rfl)) dL_law_353 ⟨Nat.le_of_ble_eq_true rfl, Nat.le_of_ble_eq_true rfl⟩) hS hA hP (fun H locs hP hS => ?_)
    refine lv_aload_n hx hb dL_law_356 rfl (lv_at hl 2 rfl) ?_
    refine lv_aload_n hx hb dL_law_357 rfl (lv_at hl 0 rfl) ?_
    refine lv_iload_n hx hb dL_law_358 rfl (lv_at hl 3 rfl) ?_
    refine lv_iconst (v := 1) hx hb dL_law_359 (by decide) ?_
    refine lv_iadd hx hb dL_law_360 ?_
    refine va_sld hx hb hX hbl hbA hS (i := (nI i) + 1) (du_sb hiL hLb 1 (by decide)) dL_law_361 ?_
    refine ro_i (va_runV (As := [.int (xs ((nI i) + 1).toNatClampNeg)]) (rest := [.int 0]) ⟨hx, hb, hml, hown, hts⟩ (r_flip_no (sz := H.size) (xs ((nI i) + 1).toNatClampNeg) (by rw [Nat.mul_comm]; exact hno)) (cwV 1 hts gL_law_X1_flip rfl rfl rfl (by decide +kernel) ⟨Nat.le_of_ble_eq_true rfl, Nat.le_of_ble_eq_true rfl⟩) (preV_RO (hP.sub (ws' := (mw q b1 k4 by8 wd po fi la bi bo nb)) [4, 5] rfl) (hK.sub (tys' := mt k4) [3] rfl) 0 (ci := 1) rfl rfl) rfl rfl hl.1 rfl (lv_room (Nat.le_of_ble_eq_true rfl)) dL_law_362 ⟨Nat.le_of_ble_eq_true rfl, Nat.le_of_ble_eq_true rfl⟩) hS hA hP (fun H locs hP hS => ?_)
    refine lv_icmp_eq (tgt := 703) hx hb dL_law_365 (by decide) (fun c_365 => ?_) (fun c_365 => ?_)
    ·
      exact kk row dv sl by8 B nb wd po tp fi la bi bo (hR) H locs hP hS ls (lv_sub hl [0, 1, 2, 3] rfl)
    ·
      exact absurd (rfl) c_365
  ·
    refine lv_aload_n hx hb dL_law_347 rfl (lv_at hl 1 rfl) ?_
    refine lv_aload_n hx hb dL_law_348 rfl (lv_at hl 0 rfl) ?_
    refine lv_iload_n hx hb dL_law_349 rfl (lv_at hl 3 rfl) ?_
    refine lv_iconst (v := 1) hx hb dL_law_350 (by decide) ?_
    refine lv_iadd hx hb dL_law_351 ?_
    refine va_sld hx hb hX hbl hbA hS (i := (nI i) + 1) (du_sb hiL hLb 1 (by decide)) dL_law_352 ?_
    refine du_rwi (y := nI j) (ej) ?_
    refine mu_i (ws := (xw o a1 a2 a3 k1 k2 k3 row dv sl nb wd po tp fi la bi bo)) (ws' := (xw o a1 a2 a3 k1 k2 k3 (mFlip row j) dv sl nb wd po tp fi la bi bo)) (wr := (mw q b1 k4 by8 wd po fi la bi bo nb)) (va_runV (As := [.int (nI j)]) (rest := []) ⟨hx, hb, hml, hown, hts⟩ (c_flip (sz := H.size) j (hn) (hj)) (cwV 1 hts gL_law_X0_flip rfl rfl rfl (by decide +kernel) ⟨Nat.le_of_ble_eq_true rfl, Nat.le_of_ble_eq_true rfl⟩) (preV_MU (hP.sub (ws' := (xw o a1 a2 a3 k1 k2 k3 row dv sl nb wd po tp fi la bi bo)) [0, 1, 2, 3] rfl) (hK.sub (tys' := xt k1 k2 k3) [0, 1, 2] rfl) (hD.sub (ws' := (xw o a1 a2 a3 k1 k2 k3 row dv sl nb wd po tp fi la bi bo)) [0, 1, 2, 3] (by decide) rfl) 0 (ci := 0) rfl rfl) rfl rfl hl.1 rfl (lv_room (Nat.le_of_ble_eq_true rfl)) dL_law_353 ⟨Nat.le_of_ble_eq_true rfl, Nat.le_of_ble_eq_true rfl⟩) hS hA hP hD rfl (fun H locs hP hD hS => ?_)
    refine lv_aload_n hx hb dL_law_356 rfl (lv_at hl 2 rfl) ?_
    refine lv_aload_n hx hb dL_law_357 rfl (lv_at hl 0 rfl) ?_
    refine lv_iload_n hx hb dL_law_358 rfl (lv_at hl 3 rfl) ?_
    refine lv_iconst (v := 1) hx hb dL_law_359 (by decide) ?_
    refine lv_iadd hx hb dL_law_360 ?_
    refine va_sld hx hb hX hbl hbA hS (i := (nI i) + 1) (du_sb hiL hLb 1 (by decide)) dL_law_361 ?_
    refine du_rwi (y := nI j) (ej) ?_
    refine mu_i (ws := (mw q b1 k4 by8 wd po fi la bi bo nb)) (ws' := (mw q b1 k4 (rFlip by8 bi j) wd po fi la bi bo nb)) (wr := (xw o a1 a2 a3 k1 k2 k3 (mFlip row j) dv sl nb wd po tp fi la bi bo)) (va_runV (As := [.int (nI j)]) (rest := [.int 1]) ⟨hx, hb, hml, hown, hts⟩ (r_flip (sz := H.size) j (hn) (by omega)) (cwV 1 hts gL_law_X1_flip rfl rfl rfl (by decide +kernel) ⟨Nat.le_of_ble_eq_true rfl, Nat.le_of_ble_eq_true rfl⟩) (preV_MU (hP.sub (ws' := (mw q b1 k4 by8 wd po fi la bi bo nb)) [4, 5] rfl) (hK.sub (tys' := mt k4) [3] rfl) (hD.sub (ws' := (mw q b1 k4 by8 wd po fi la bi bo nb)) [4, 5] (by decide) rfl) 0 (ci := 1) rfl rfl) rfl rfl hl.1 rfl (lv_room (Nat.le_of_ble_eq_true rfl)) dL_law_362 ⟨Nat.le_of_ble_eq_true rfl, Nat.le_of_ble_eq_true rfl⟩) hS hA (hP.sub [4, 5, 0, 1, 2, 3] rfl) (hD.sub [4, 5, 0, 1, 2, 3] (by decide) rfl) rfl (fun H locs hP hD hS => ?_)
    have hP : va_P D vwCl ((xw o a1 a2 a3 k1 k2 k3 (mFlip row j) dv sl nb wd po tp fi la bi bo) ++ (mw q b1 k4 (rFlip by8 bi j) wd po fi la bi bo nb)) H := hP.sub [2, 3, 4, 5, 0, 1] rfl
    have hD : va_D (fun q9 : Nat => s.heap.size ≤ q9) ((xw o a1 a2 a3 k1 k2 k3 (mFlip row j) dv sl nb wd po tp fi la bi bo) ++ (mw q b1 k4 (rFlip by8 bi j) wd po fi la bi bo nb)) := hD.sub [2, 3, 4, 5, 0, 1] (by decide) rfl
    refine lv_icmp_eq (tgt := 703) hx hb dL_law_365 (by decide) (fun c_365 => ?_) (fun c_365 => ?_)
    ·
      exact kk _ _ _ _ _ _ _ _ _ _ _ _ _ (rel_flip hR hj) H locs hP hS ls (lv_sub hl [0, 1, 2, 3] rfl)
    ·
      exact absurd (rfl) c_365
set_option maxHeartbeats 4000000 in
set_option maxRecDepth 100000 in
theorem law_check {p : Program} {l : Launch} {e : Env} {s : State} {m : MethodId} {below : List Frame} {meth : Method} {c : Code} {b L : Nat} {xs : Nat → Int32} {D : va_G} {o a1 a2 a3 q b1 : Nat} {k1 k2 k3 k4 : ClassId} {i : Nat} (C0 : lw_At p s m meth c b L xs) (hK : va_K D vwCl (xt k1 k2 k3 ++ mt k4) s) (hDa : ∀ ws : va_W, ws.map Prod.fst = [o, a1, a2, a3, q, b1] → va_D (fun q9 : Nat => s.heap.size ≤ q9) ws) (hLb : L ≤ 5120) (hiL : i + 10 ≤ L) (kk : lwG p l e s m below meth c b D o a1 a2 a3 q b1 k1 k2 k3 k4 i 703) : lwG p l e s m below meth c b D o a1 a2 a3 q b1 k1 k2 k3 k4 i 370 := by
  obtain ⟨hx, hb, hr, hml, hown, hts, hX, hbl, hlocks, hgv⟩ := C0
  have hown : s.vm.findClass RL = some m.cls := hown
  have hts := fun w h => hts w (wsL_law_in w h)
  have hA : ∀ q9 : Nat, s.heap.size ≤ q9 → (fun q9 : Nat => s.heap.size ≤ q9) q9 := fun _ h => h
  have hbA : ¬ (fun q9 : Nat => s.heap.size ≤ q9) b := Nat.not_le.mpr hbl
  intro row dv sl by8 B nb wd po tp fi la bi bo hR H locs hP hS ls hl
  have hn := hR.1
  have hw1 := hR.2.1
  have hw := hR.2.2.1
  have hD : va_D (fun q9 : Nat => s.heap.size ≤ q9) ((xw o a1 a2 a3 k1 k2 k3 row dv sl nb wd po tp fi la bi bo) ++ (mw q b1 k4 by8 wd po fi la bi bo nb)) := hDa _ rfl
  rcases du_sw (xs (nI i + 1).toNatClampNeg) 3 with hy | hy
  ·
    refine lv_aload_n hx hb dL_law_370 rfl (lv_at hl 1 rfl) ?_
    refine lv_aload_n hx hb dL_law_371 rfl (lv_at hl 0 rfl) ?_
    refine lv_iload_n hx hb dL_law_372 rfl (lv_at hl 3 rfl) ?_
    refine lv_iconst (v := 1) hx hb dL_law_373 (by decide) ?_
    refine lv_iadd hx hb dL_law_374 ?_
    refine va_sld hx hb hX hbl hbA hS (i := (nI i) + 1) (du_sb hiL hLb 1 (by decide)) dL_law_375 ?_
    refine mu_l (ws := (xw o a1 a2 a3 k1 k2 k3 row dv sl nb wd po tp fi la bi bo)) (ws' := (xw o a1 a2 a3 k1 k2 k3 row (mDvN row dv (mTop (nI wd) fi) tp (nb * 8)) sl nb wd po tp fi la bi bo)) (wr := (mw q b1 k4 by8 wd po fi la bi bo nb)) (va_runV (As := [.int (xs ((nI i) + 1).toNatClampNeg)]) (rest := []) ⟨hx, hb, hml, hown, hts⟩ (c_check3 (sz := H.size) (xs ((nI i) + 1).toNatClampNeg) (hn) (hy)) (cwV 1 hts gL_law_X0_check rfl rfl rfl (by decide +kernel) ⟨Nat.le_of_ble_eq_true rfl, Nat.le_of_ble_eq_true rfl⟩) (preV_MU (hP.sub (ws' := (xw o a1 a2 a3 k1 k2 k3 row dv sl nb wd po tp fi la bi bo)) [0, 1, 2, 3] rfl) (hK.sub (tys' := xt k1 k2 k3) [0, 1, 2] rfl) (hD.sub (ws' := (xw o a1 a2 a3 k1 k2 k3 row dv sl nb wd po tp fi la bi bo)) [0, 1, 2, 3] (by decide) rfl) 0 (ci := 0) rfl rfl) rfl rfl hl.1 rfl (lv_room (Nat.le_of_ble_eq_true rfl)) dL_law_376 ⟨Nat.le_of_ble_eq_true rfl, Nat.le_of_ble_eq_true rfl⟩) hS hA hP hD rfl (fun H locs hP hD hS => ?_)
    refine lv_aload_n hx hb dL_law_379 rfl (lv_at hl 2 rfl) ?_
    refine lv_aload_n hx hb dL_law_380 rfl (lv_at hl 0 rfl) ?_
    refine lv_iload_n hx hb dL_law_381 rfl (lv_at hl 3 rfl) ?_
    refine lv_iconst (v := 1) hx hb dL_law_382 (by decide) ?_
    refine lv_iadd hx hb dL_law_383 ?_
    refine va_sld hx hb hX hbl hbA hS (i := (nI i) + 1) (du_sb hiL hLb 1 (by decide)) dL_law_384 ?_
    refine ro_l (va_runV (As := [.int (xs ((nI i) + 1).toNatClampNeg)]) (rest := [.long (mChk3 row dv nb (nI wd) bo tp fi la)]) ⟨hx, hb, hml, hown, hts⟩ (r_check (sz := H.size) (xs ((nI i) + 1).toNatClampNeg) (hw) (hn)) (cwV 1 hts gL_law_X1_check rfl rfl rfl (by decide +kernel) ⟨Nat.le_of_ble_eq_true rfl, Nat.le_of_ble_eq_true rfl⟩) (preV_RO (hP.sub (ws' := (mw q b1 k4 by8 wd po fi la bi bo nb)) [4, 5] rfl) (hK.sub (tys' := mt k4) [3] rfl) 0 (ci := 1) rfl rfl) rfl rfl hl.1 rfl (lv_room (Nat.le_of_ble_eq_true rfl)) dL_law_385 ⟨Nat.le_of_ble_eq_true rfl, Nat.le_of_ble_eq_true rfl⟩) hS hA hP (fun H locs hP hS => ?_)
    refine W.lcmp hx hb dL_law_388 ?_
    refine lv_if_eq (tgt := 703) hx hb dL_law_389 (by decide) (fun c_389 => ?_) (fun c_389 => ?_)
    ·
      exact kk row _ sl by8 B nb wd po tp fi la bi bo (hR) H locs hP hS ls (lv_sub hl [0, 1, 2, 3] rfl)
    ·
      exact absurd ((lg_cmp_eq _ _).mpr (by rw [hy]; exact eq_chk3 hR)) c_389
  ·
    refine lv_aload_n hx hb dL_law_370 rfl (lv_at hl 1 rfl) ?_
    refine lv_aload_n hx hb dL_law_371 rfl (lv_at hl 0 rfl) ?_
    refine lv_iload_n hx hb dL_law_372 rfl (lv_at hl 3 rfl) ?_
    refine lv_iconst (v := 1) hx hb dL_law_373 (by decide) ?_
    refine lv_iadd hx hb dL_law_374 ?_
    refine va_sld hx hb hX hbl hbA hS (i := (nI i) + 1) (du_sb hiL hLb 1 (by decide)) dL_law_375 ?_
    refine ro_l (va_runV (As := [.int (xs ((nI i) + 1).toNatClampNeg)]) (rest := []) ⟨hx, hb, hml, hown, hts⟩ (c_check (sz := H.size) (xs ((nI i) + 1).toNatClampNeg) (hn) (hy)) (cwV 1 hts gL_law_X0_check rfl rfl rfl (by decide +kernel) ⟨Nat.le_of_ble_eq_true rfl, Nat.le_of_ble_eq_true rfl⟩) (preV_RO (hP.sub (ws' := (xw o a1 a2 a3 k1 k2 k3 row dv sl nb wd po tp fi la bi bo)) [0, 1, 2, 3] rfl) (hK.sub (tys' := xt k1 k2 k3) [0, 1, 2] rfl) 0 (ci := 0) rfl rfl) rfl rfl hl.1 rfl (lv_room (Nat.le_of_ble_eq_true rfl)) dL_law_376 ⟨Nat.le_of_ble_eq_true rfl, Nat.le_of_ble_eq_true rfl⟩) hS hA hP (fun H locs hP hS => ?_)
    refine lv_aload_n hx hb dL_law_379 rfl (lv_at hl 2 rfl) ?_
    refine lv_aload_n hx hb dL_law_380 rfl (lv_at hl 0 rfl) ?_
    refine lv_iload_n hx hb dL_law_381 rfl (lv_at hl 3 rfl) ?_
    refine lv_iconst (v := 1) hx hb dL_law_382 (by decide) ?_
    refine lv_iadd hx hb dL_law_383 ?_
    refine va_sld hx hb hX hbl hbA hS (i := (nI i) + 1) (du_sb hiL hLb 1 (by decide)) dL_law_384 ?_
    refine ro_l (va_runV (As := [.int (xs ((nI i) + 1).toNatClampNeg)]) (rest := [.long (mChk row sl nb (nI wd) bo tp fi la (xs ((nI i) + 1).toNatClampNeg))]) ⟨hx, hb, hml, hown, hts⟩ (r_check (sz := H.size) (xs ((nI i) + 1).toNatClampNeg) (hw) (hn)) (cwV 1 hts gL_law_X1_check rfl rfl rfl (by decide +kernel) ⟨Nat.le_of_ble_eq_true rfl, Nat.le_of_ble_eq_true rfl⟩) (preV_RO (hP.sub (ws' := (mw q b1 k4 by8 wd po fi la bi bo nb)) [4, 5] rfl) (hK.sub (tys' := mt k4) [3] rfl) 0 (ci := 1) rfl rfl) rfl rfl hl.1 rfl (lv_room (Nat.le_of_ble_eq_true rfl)) dL_law_385 ⟨Nat.le_of_ble_eq_true rfl, Nat.le_of_ble_eq_true rfl⟩) hS hA hP (fun H locs hP hS => ?_)
    refine W.lcmp hx hb dL_law_388 ?_
    refine lv_if_eq (tgt := 703) hx hb dL_law_389 (by decide) (fun c_389 => ?_) (fun c_389 => ?_)
    ·
      exact kk row dv sl by8 B nb wd po tp fi la bi bo (hR) H locs hP hS ls (lv_sub hl [0, 1, 2, 3] rfl)
    ·
      exact absurd ((lg_cmp_eq _ _).mpr (eq_chk hR hy)) c_389
set_option maxHeartbeats 4000000 in
set_option maxRecDepth 100000 in
theorem law_part {p : Program} {l : Launch} {e : Env} {s : State} {m : MethodId} {below : List Frame} {meth : Method} {c : Code} {b L : Nat} {xs : Nat → Int32} {D : va_G} {o a1 a2 a3 q b1 : Nat} {k1 k2 k3 k4 : ClassId} {i : Nat} (C0 : lw_At p s m meth c b L xs) (hK : va_K D vwCl (xt k1 k2 k3 ++ mt k4) s) (hDa : ∀ ws : va_W, ws.map Prod.fst = [o, a1, a2, a3, q, b1] → va_D (fun q9 : Nat => s.heap.size ≤ q9) ws) (hLb : L ≤ 5120) (hiL : i + 10 ≤ L) (kk : lwG p l e s m below meth c b D o a1 a2 a3 q b1 k1 k2 k3 k4 i 703) : lwG p l e s m below meth c b D o a1 a2 a3 q b1 k1 k2 k3 k4 i 394 := by
  obtain ⟨hx, hb, hr, hml, hown, hts, hX, hbl, hlocks, hgv⟩ := C0
  have hown : s.vm.findClass RL = some m.cls := hown
  have hts := fun w h => hts w (wsL_law_in w h)
  have hA : ∀ q9 : Nat, s.heap.size ≤ q9 → (fun q9 : Nat => s.heap.size ≤ q9) q9 := fun _ h => h
  have hbA : ¬ (fun q9 : Nat => s.heap.size ≤ q9) b := Nat.not_le.mpr hbl
  intro row dv sl by8 B nb wd po tp fi la bi bo hR H locs hP hS ls hl
  have hn := hR.1
  have hw1 := hR.2.1
  have hw := hR.2.2.1
  have hD : va_D (fun q9 : Nat => s.heap.size ≤ q9) ((xw o a1 a2 a3 k1 k2 k3 row dv sl nb wd po tp fi la bi bo) ++ (mw q b1 k4 by8 wd po fi la bi bo nb)) := hDa _ rfl
  refine lv_aload_n hx hb dL_law_394 rfl (lv_at hl 1 rfl) ?_
  refine lv_aload_n hx hb dL_law_395 rfl (lv_at hl 0 rfl) ?_
  refine lv_iload_n hx hb dL_law_396 rfl (lv_at hl 3 rfl) ?_
  refine lv_iconst (v := 1) hx hb dL_law_397 (by decide) ?_
  refine lv_iadd hx hb dL_law_398 ?_
  refine va_sld hx hb hX hbl hbA hS (i := (nI i) + 1) (du_sb hiL hLb 1 (by decide)) dL_law_399 ?_
  refine lv_aload_n hx hb dL_law_400 rfl (lv_at hl 0 rfl) ?_
  refine lv_iload_n hx hb dL_law_401 rfl (lv_at hl 3 rfl) ?_
  refine lv_iconst (v := 2) hx hb dL_law_402 (by decide) ?_
  refine lv_iadd hx hb dL_law_403 ?_
  refine va_sld hx hb hX hbl hbA hS (i := (nI i) + 2) (du_sb hiL hLb 2 (by decide)) dL_law_404 ?_
  refine ro_l (va_runV (As := [.int (xs ((nI i) + 1).toNatClampNeg), .int (xs ((nI i) + 2).toNatClampNeg)]) (rest := []) ⟨hx, hb, hml, hown, hts⟩ (c_part (sz := H.size) (xs ((nI i) + 1).toNatClampNeg) (xs ((nI i) + 2).toNatClampNeg) (hn)) (cwV 2 hts gL_law_X0_part rfl rfl rfl (by decide +kernel) ⟨Nat.le_of_ble_eq_true rfl, Nat.le_of_ble_eq_true rfl⟩) (preV_RO (hP.sub (ws' := (xw o a1 a2 a3 k1 k2 k3 row dv sl nb wd po tp fi la bi bo)) [0, 1, 2, 3] rfl) (hK.sub (tys' := xt k1 k2 k3) [0, 1, 2] rfl) 0 (ci := 0) rfl rfl) rfl rfl hl.1 rfl (lv_room (Nat.le_of_ble_eq_true rfl)) dL_law_405 ⟨Nat.le_of_ble_eq_true rfl, Nat.le_of_ble_eq_true rfl⟩) hS hA hP (fun H locs hP hS => ?_)
  refine lv_aload_n hx hb dL_law_408 rfl (lv_at hl 2 rfl) ?_
  refine lv_aload_n hx hb dL_law_409 rfl (lv_at hl 0 rfl) ?_
  refine lv_iload_n hx hb dL_law_410 rfl (lv_at hl 3 rfl) ?_
  refine lv_iconst (v := 1) hx hb dL_law_411 (by decide) ?_
  refine lv_iadd hx hb dL_law_412 ?_
  refine va_sld hx hb hX hbl hbA hS (i := (nI i) + 1) (du_sb hiL hLb 1 (by decide)) dL_law_413 ?_
  refine lv_aload_n hx hb dL_law_414 rfl (lv_at hl 0 rfl) ?_
  refine lv_iload_n hx hb dL_law_415 rfl (lv_at hl 3 rfl) ?_
  refine lv_iconst (v := 2) hx hb dL_law_416 (by decide) ?_
  refine lv_iadd hx hb dL_law_417 ?_
  refine va_sld hx hb hX hbl hbA hS (i := (nI i) + 2) (du_sb hiL hLb 2 (by decide)) dL_law_418 ?_
  refine ro_l (va_runV (As := [.int (xs ((nI i) + 1).toNatClampNeg), .int (xs ((nI i) + 2).toNatClampNeg)]) (rest := [.long (mPart row sl nb (nI wd) bo fi la (xs ((nI i) + 1).toNatClampNeg) (xs ((nI i) + 2).toNatClampNeg))]) ⟨hx, hb, hml, hown, hts⟩ (r_part (sz := H.size) (xs ((nI i) + 1).toNatClampNeg) (xs ((nI i) + 2).toNatClampNeg) (hw) (hn)) (cwV 2 hts gL_law_X1_part rfl rfl rfl (by decide +kernel) ⟨Nat.le_of_ble_eq_true rfl, Nat.le_of_ble_eq_true rfl⟩) (preV_RO (hP.sub (ws' := (mw q b1 k4 by8 wd po fi la bi bo nb)) [4, 5] rfl) (hK.sub (tys' := mt k4) [3] rfl) 0 (ci := 1) rfl rfl) rfl rfl hl.1 rfl (lv_room (Nat.le_of_ble_eq_true rfl)) dL_law_419 ⟨Nat.le_of_ble_eq_true rfl, Nat.le_of_ble_eq_true rfl⟩) hS hA hP (fun H locs hP hS => ?_)
  refine W.lcmp hx hb dL_law_422 ?_
  refine lv_if_eq (tgt := 703) hx hb dL_law_423 (by decide) (fun c_423 => ?_) (fun c_423 => ?_)
  ·
    exact kk row dv sl by8 B nb wd po tp fi la bi bo (hR) H locs hP hS ls (lv_sub hl [0, 1, 2, 3] rfl)
  ·
    exact absurd ((lg_cmp_eq _ _).mpr (eq_part hR _ _)) c_423
set_option maxHeartbeats 4000000 in
set_option maxRecDepth 100000 in
theorem law_joined {p : Program} {l : Launch} {e : Env} {s : State} {m : MethodId} {below : List Frame} {meth : Method} {c : Code} {b L : Nat} {xs : Nat → Int32} {D : va_G} {o a1 a2 a3 q b1 : Nat} {k1 k2 k3 k4 : ClassId} {i : Nat} (C0 : lw_At p s m meth c b L xs) (hK : va_K D vwCl (xt k1 k2 k3 ++ mt k4) s) (hDa : ∀ ws : va_W, ws.map Prod.fst = [o, a1, a2, a3, q, b1] → va_D (fun q9 : Nat => s.heap.size ≤ q9) ws) (hLb : L ≤ 5120) (hiL : i + 10 ≤ L) (kk : lwG p l e s m below meth c b D o a1 a2 a3 q b1 k1 k2 k3 k4 i 703) : lwG p l e s m below meth c b D o a1 a2 a3 q b1 k1 k2 k3 k4 i 428 := by
  obtain ⟨hx, hb, hr, hml, hown, hts, hX, hbl, hlocks, hgv⟩ := C0
  have hown : s.vm.findClass RL = some m.cls := hown
  have hts := fun w h => hts w (wsL_law_in w h)
  have hA : ∀ q9 : Nat, s.heap.size ≤ q9 → (fun q9 : Nat => s.heap.size ≤ q9) q9 := fun _ h => h
  have hbA : ¬ (fun q9 : Nat => s.heap.size ≤ q9) b := Nat.not_le.mpr hbl
  intro row dv sl by8 B nb wd po tp fi la bi bo hR H locs hP hS ls hl
  have hn := hR.1
  have hw1 := hR.2.1
  have hw := hR.2.2.1
  have hD : va_D (fun q9 : Nat => s.heap.size ≤ q9) ((xw o a1 a2 a3 k1 k2 k3 row dv sl nb wd po tp fi la bi bo) ++ (mw q b1 k4 by8 wd po fi la bi bo nb)) := hDa _ rfl
  refine lv_aload_n hx hb dL_law_428 rfl (lv_at hl 1 rfl) ?_
  refine lv_aload_n hx hb dL_law_429 rfl (lv_at hl 0 rfl) ?_
  refine lv_iload_n hx hb dL_law_430 rfl (lv_at hl 3 rfl) ?_
  refine lv_iconst (v := 1) hx hb dL_law_431 (by decide) ?_
  refine lv_iadd hx hb dL_law_432 ?_
  refine va_sld hx hb hX hbl hbA hS (i := (nI i) + 1) (du_sb hiL hLb 1 (by decide)) dL_law_433 ?_
  refine lv_i2l (v := (xs ((nI i) + 1).toNatClampNeg).toInt64) hx hb dL_law_434 rfl ?_
  refine lv_bipush (v := 32) hx hb dL_law_435 (by decide) ?_
  refine lv_lshl (v := jshl ((xs ((nI i) + 1).toNatClampNeg).toInt64) 32) hx hb dL_law_437 rfl ?_
  refine lv_aload_n hx hb dL_law_438 rfl (lv_at hl 0 rfl) ?_
  refine lv_iload_n hx hb dL_law_439 rfl (lv_at hl 3 rfl) ?_
  refine lv_iconst (v := 2) hx hb dL_law_440 (by decide) ?_
  refine lv_iadd hx hb dL_law_441 ?_
  refine va_sld hx hb hX hbl hbA hS (i := (nI i) + 2) (du_sb hiL hLb 2 (by decide)) dL_law_442 ?_
  refine lv_i2l (v := (xs ((nI i) + 2).toNatClampNeg).toInt64) hx hb dL_law_443 rfl ?_
  refine lv_ldc2 hx hb hown (hts (.constantLong RL 13 4294967295) (by decide +kernel)) dL_law_444 ?_
  refine lv_land hx hb dL_law_447 ?_
  refine lv_lor hx hb dL_law_448 ?_
  refine lv_aload_n hx hb dL_law_449 rfl (lv_at hl 0 rfl) ?_
  refine lv_iload_n hx hb dL_law_450 rfl (lv_at hl 3 rfl) ?_
  refine lv_iconst (v := 3) hx hb dL_law_451 (by decide) ?_
  refine lv_iadd hx hb dL_law_452 ?_
  refine va_sld hx hb hX hbl hbA hS (i := (nI i) + 3) (du_sb hiL hLb 3 (by decide)) dL_law_453 ?_
  refine lv_i2l (v := (xs ((nI i) + 3).toNatClampNeg).toInt64) hx hb dL_law_454 rfl ?_
  refine lv_bipush (v := 32) hx hb dL_law_455 (by decide) ?_
  refine lv_lshl (v := jshl ((xs ((nI i) + 3).toNatClampNeg).toInt64) 32) hx hb dL_law_457 rfl ?_
  refine lv_aload_n hx hb dL_law_458 rfl (lv_at hl 0 rfl) ?_
  refine lv_iload_n hx hb dL_law_459 rfl (lv_at hl 3 rfl) ?_
  refine lv_iconst (v := 4) hx hb dL_law_460 (by decide) ?_
  refine lv_iadd hx hb dL_law_461 ?_
  refine va_sld hx hb hX hbl hbA hS (i := (nI i) + 4) (du_sb hiL hLb 4 (by decide)) dL_law_462 ?_
  refine lv_i2l (v := (xs ((nI i) + 4).toNatClampNeg).toInt64) hx hb dL_law_463 rfl ?_
  refine lv_ldc2 hx hb hown (hts (.constantLong RL 13 4294967295) (by decide +kernel)) dL_law_464 ?_
  refine lv_land hx hb dL_law_467 ?_
  refine lv_lor hx hb dL_law_468 ?_
  refine lv_aload_n hx hb dL_law_469 rfl (lv_at hl 0 rfl) ?_
  refine lv_iload_n hx hb dL_law_470 rfl (lv_at hl 3 rfl) ?_
  refine lv_iconst (v := 5) hx hb dL_law_471 (by decide) ?_
  refine lv_iadd hx hb dL_law_472 ?_
  refine va_sld hx hb hX hbl hbA hS (i := (nI i) + 5) (du_sb hiL hLb 5 (by decide)) dL_law_473 ?_
  refine ro_l (va_runV (As := [.long ((jshl ((xs ((nI i) + 1).toNatClampNeg).toInt64) 32) ||| (((xs ((nI i) + 2).toNatClampNeg).toInt64) &&& 4294967295)), .long ((jshl ((xs ((nI i) + 3).toNatClampNeg).toInt64) 32) ||| (((xs ((nI i) + 4).toNatClampNeg).toInt64) &&& 4294967295)), .int (xs ((nI i) + 5).toNatClampNeg)]) (rest := []) ⟨hx, hb, hml, hown, hts⟩ (c_joined (sz := H.size) ((jshl ((xs ((nI i) + 1).toNatClampNeg).toInt64) 32) ||| (((xs ((nI i) + 2).toNatClampNeg).toInt64) &&& 4294967295)) ((jshl ((xs ((nI i) + 3).toNatClampNeg).toInt64) 32) ||| (((xs ((nI i) + 4).toNatClampNeg).toInt64) &&& 4294967295)) (xs ((nI i) + 5).toNatClampNeg) (hw)) (cwV 3 hts gL_law_X0_joined rfl rfl rfl (by decide +kernel) ⟨Nat.le_of_ble_eq_true rfl, Nat.le_of_ble_eq_true rfl⟩) (preV_RO (hP.sub (ws' := (xw o a1 a2 a3 k1 k2 k3 row dv sl nb wd po tp fi la bi bo)) [0, 1, 2, 3] rfl) (hK.sub (tys' := xt k1 k2 k3) [0, 1, 2] rfl) 0 (ci := 0) rfl rfl) rfl rfl hl.1 rfl (lv_room (Nat.le_of_ble_eq_true rfl)) dL_law_474 ⟨Nat.le_of_ble_eq_true rfl, Nat.le_of_ble_eq_true rfl⟩) hS hA hP (fun H locs hP hS => ?_)
  refine lv_aload_n hx hb dL_law_477 rfl (lv_at hl 2 rfl) ?_
  refine lv_aload_n hx hb dL_law_478 rfl (lv_at hl 0 rfl) ?_
  refine lv_iload_n hx hb dL_law_479 rfl (lv_at hl 3 rfl) ?_
  refine lv_iconst (v := 1) hx hb dL_law_480 (by decide) ?_
  refine lv_iadd hx hb dL_law_481 ?_
  refine va_sld hx hb hX hbl hbA hS (i := (nI i) + 1) (du_sb hiL hLb 1 (by decide)) dL_law_482 ?_
  refine lv_i2l (v := (xs ((nI i) + 1).toNatClampNeg).toInt64) hx hb dL_law_483 rfl ?_
  refine lv_bipush (v := 32) hx hb dL_law_484 (by decide) ?_
  refine lv_lshl (v := jshl ((xs ((nI i) + 1).toNatClampNeg).toInt64) 32) hx hb dL_law_486 rfl ?_
  refine lv_aload_n hx hb dL_law_487 rfl (lv_at hl 0 rfl) ?_
  refine lv_iload_n hx hb dL_law_488 rfl (lv_at hl 3 rfl) ?_
  refine lv_iconst (v := 2) hx hb dL_law_489 (by decide) ?_
  refine lv_iadd hx hb dL_law_490 ?_
  refine va_sld hx hb hX hbl hbA hS (i := (nI i) + 2) (du_sb hiL hLb 2 (by decide)) dL_law_491 ?_
  refine lv_i2l (v := (xs ((nI i) + 2).toNatClampNeg).toInt64) hx hb dL_law_492 rfl ?_
  refine lv_ldc2 hx hb hown (hts (.constantLong RL 13 4294967295) (by decide +kernel)) dL_law_493 ?_
  refine lv_land hx hb dL_law_496 ?_
  refine lv_lor hx hb dL_law_497 ?_
  refine lv_aload_n hx hb dL_law_498 rfl (lv_at hl 0 rfl) ?_
  refine lv_iload_n hx hb dL_law_499 rfl (lv_at hl 3 rfl) ?_
  refine lv_iconst (v := 3) hx hb dL_law_500 (by decide) ?_
  refine lv_iadd hx hb dL_law_501 ?_
  refine va_sld hx hb hX hbl hbA hS (i := (nI i) + 3) (du_sb hiL hLb 3 (by decide)) dL_law_502 ?_
  refine lv_i2l (v := (xs ((nI i) + 3).toNatClampNeg).toInt64) hx hb dL_law_503 rfl ?_
  refine lv_bipush (v := 32) hx hb dL_law_504 (by decide) ?_
  refine lv_lshl (v := jshl ((xs ((nI i) + 3).toNatClampNeg).toInt64) 32) hx hb dL_law_506 rfl ?_
  refine lv_aload_n hx hb dL_law_507 rfl (lv_at hl 0 rfl) ?_
  refine lv_iload_n hx hb dL_law_508 rfl (lv_at hl 3 rfl) ?_
  refine lv_iconst (v := 4) hx hb dL_law_509 (by decide) ?_
  refine lv_iadd hx hb dL_law_510 ?_
  refine va_sld hx hb hX hbl hbA hS (i := (nI i) + 4) (du_sb hiL hLb 4 (by decide)) dL_law_511 ?_
  refine lv_i2l (v := (xs ((nI i) + 4).toNatClampNeg).toInt64) hx hb dL_law_512 rfl ?_
  refine lv_ldc2 hx hb hown (hts (.constantLong RL 13 4294967295) (by decide +kernel)) dL_law_513 ?_
  refine lv_land hx hb dL_law_516 ?_
  refine lv_lor hx hb dL_law_517 ?_
  refine lv_aload_n hx hb dL_law_518 rfl (lv_at hl 0 rfl) ?_
  refine lv_iload_n hx hb dL_law_519 rfl (lv_at hl 3 rfl) ?_
  refine lv_iconst (v := 5) hx hb dL_law_520 (by decide) ?_
  refine lv_iadd hx hb dL_law_521 ?_
  refine va_sld hx hb hX hbl hbA hS (i := (nI i) + 5) (du_sb hiL hLb 5 (by decide)) dL_law_522 ?_
  refine ro_l (va_runV (As := [.long ((jshl ((xs ((nI i) + 1).toNatClampNeg).toInt64) 32) ||| (((xs ((nI i) + 2).toNatClampNeg).toInt64) &&& 4294967295)), .long ((jshl ((xs ((nI i) + 3).toNatClampNeg).toInt64) 32) ||| (((xs ((nI i) + 4).toNatClampNeg).toInt64) &&& 4294967295)), .int (xs ((nI i) + 5).toNatClampNeg)]) (rest := [.long (mJoin (nI wd) bo tp fi la ((jshl ((xs ((nI i) + 1).toNatClampNeg).toInt64) 32) ||| (((xs ((nI i) + 2).toNatClampNeg).toInt64) &&& 4294967295)) ((jshl ((xs ((nI i) + 3).toNatClampNeg).toInt64) 32) ||| (((xs ((nI i) + 4).toNatClampNeg).toInt64) &&& 4294967295)) (xs ((nI i) + 5).toNatClampNeg))]) ⟨hx, hb, hml, hown, hts⟩ (r_joined (sz := H.size) ((jshl ((xs ((nI i) + 1).toNatClampNeg).toInt64) 32) ||| (((xs ((nI i) + 2).toNatClampNeg).toInt64) &&& 4294967295)) ((jshl ((xs ((nI i) + 3).toNatClampNeg).toInt64) 32) ||| (((xs ((nI i) + 4).toNatClampNeg).toInt64) &&& 4294967295)) (xs ((nI i) + 5).toNatClampNeg) (hw1) (hw)) (cwV 3 hts gL_law_X1_joined rfl rfl rfl (by decide +kernel) ⟨Nat.le_of_ble_eq_true rfl, Nat.le_of_ble_eq_true rfl⟩) (preV_RO (hP.sub (ws' := (mw q b1 k4 by8 wd po fi la bi bo nb)) [4, 5] rfl) (hK.sub (tys' := mt k4) [3] rfl) 0 (ci := 1) rfl rfl) rfl rfl hl.1 rfl (lv_room (Nat.le_of_ble_eq_true rfl)) dL_law_523 ⟨Nat.le_of_ble_eq_true rfl, Nat.le_of_ble_eq_true rfl⟩) hS hA hP (fun H locs hP hS => ?_)
  refine W.lcmp hx hb dL_law_526 ?_
  refine lv_if_eq (tgt := 703) hx hb dL_law_527 (by decide) (fun c_527 => ?_) (fun c_527 => ?_)
  ·
    exact kk row dv sl by8 B nb wd po tp fi la bi bo (hR) H locs hP hS ls (lv_sub hl [0, 1, 2, 3] rfl)
  ·
    exact absurd ((lg_cmp_eq _ _).mpr (eq_join hR _ _ _)) c_527
set_option maxHeartbeats 4000000 in
set_option maxRecDepth 100000 in
theorem law_entry {p : Program} {l : Launch} {e : Env} {s : State} {m : MethodId} {below : List Frame} {meth : Method} {c : Code} {b L : Nat} {xs : Nat → Int32} {D : va_G} {o a1 a2 a3 q b1 : Nat} {k1 k2 k3 k4 : ClassId} {i : Nat} (C0 : lw_At p s m meth c b L xs) (hK : va_K D vwCl (xt k1 k2 k3 ++ mt k4) s) (hDa : ∀ ws : va_W, ws.map Prod.fst = [o, a1, a2, a3, q, b1] → va_D (fun q9 : Nat => s.heap.size ≤ q9) ws) (hLb : L ≤ 5120) (hiL : i + 10 ≤ L) (kk : lwG p l e s m below meth c b D o a1 a2 a3 q b1 k1 k2 k3 k4 i 703) : lwG p l e s m below meth c b D o a1 a2 a3 q b1 k1 k2 k3 k4 i 532 := by
  obtain ⟨hx, hb, hr, hml, hown, hts, hX, hbl, hlocks, hgv⟩ := C0
  have hown : s.vm.findClass RL = some m.cls := hown
  have hts := fun w h => hts w (wsL_law_in w h)
  have hA : ∀ q9 : Nat, s.heap.size ≤ q9 → (fun q9 : Nat => s.heap.size ≤ q9) q9 := fun _ h => h
  have hbA : ¬ (fun q9 : Nat => s.heap.size ≤ q9) b := Nat.not_le.mpr hbl
  intro row dv sl by8 B nb wd po tp fi la bi bo hR H locs hP hS ls hl
  have hn := hR.1
  have hw1 := hR.2.1
  have hw := hR.2.2.1
  have hD : va_D (fun q9 : Nat => s.heap.size ≤ q9) ((xw o a1 a2 a3 k1 k2 k3 row dv sl nb wd po tp fi la bi bo) ++ (mw q b1 k4 by8 wd po fi la bi bo nb)) := hDa _ rfl
  refine lv_aload_n hx hb dL_law_532 rfl (lv_at hl 1 rfl) ?_
  refine lv_aload_n hx hb dL_law_533 rfl (lv_at hl 0 rfl) ?_
  refine lv_iload_n hx hb dL_law_534 rfl (lv_at hl 3 rfl) ?_
  refine lv_iconst (v := 1) hx hb dL_law_535 (by decide) ?_
  refine lv_iadd hx hb dL_law_536 ?_
  refine va_sld hx hb hX hbl hbA hS (i := (nI i) + 1) (du_sb hiL hLb 1 (by decide)) dL_law_537 ?_
  refine lv_aload_n hx hb dL_law_538 rfl (lv_at hl 0 rfl) ?_
  refine lv_iload_n hx hb dL_law_539 rfl (lv_at hl 3 rfl) ?_
  refine lv_iconst (v := 2) hx hb dL_law_540 (by decide) ?_
  refine lv_iadd hx hb dL_law_541 ?_
  refine va_sld hx hb hX hbl hbA hS (i := (nI i) + 2) (du_sb hiL hLb 2 (by decide)) dL_law_542 ?_
  refine ro_l (va_runV (As := [.int (xs ((nI i) + 1).toNatClampNeg), .int (xs ((nI i) + 2).toNatClampNeg)]) (rest := []) ⟨hx, hb, hml, hown, hts⟩ (c_entry (sz := H.size) (xs ((nI i) + 1).toNatClampNeg) (xs ((nI i) + 2).toNatClampNeg)) (cwV 2 hts gL_law_X0_entry rfl rfl rfl (by decide +kernel) ⟨Nat.le_of_ble_eq_true rfl, Nat.le_of_ble_eq_true rfl⟩) (preV_RO (hP.sub (ws' := (xw o a1 a2 a3 k1 k2 k3 row dv sl nb wd po tp fi la bi bo)) [0, 1, 2, 3] rfl) (hK.sub (tys' := xt k1 k2 k3) [0, 1, 2] rfl) 0 (ci := 0) rfl rfl) rfl rfl hl.1 rfl (lv_room (Nat.le_of_ble_eq_true rfl)) dL_law_543 ⟨Nat.le_of_ble_eq_true rfl, Nat.le_of_ble_eq_true rfl⟩) hS hA hP (fun H locs hP hS => ?_)
  refine lv_aload_n hx hb dL_law_546 rfl (lv_at hl 2 rfl) ?_
  refine lv_aload_n hx hb dL_law_547 rfl (lv_at hl 0 rfl) ?_
  refine lv_iload_n hx hb dL_law_548 rfl (lv_at hl 3 rfl) ?_
  refine lv_iconst (v := 1) hx hb dL_law_549 (by decide) ?_
  refine lv_iadd hx hb dL_law_550 ?_
  refine va_sld hx hb hX hbl hbA hS (i := (nI i) + 1) (du_sb hiL hLb 1 (by decide)) dL_law_551 ?_
  refine lv_aload_n hx hb dL_law_552 rfl (lv_at hl 0 rfl) ?_
  refine lv_iload_n hx hb dL_law_553 rfl (lv_at hl 3 rfl) ?_
  refine lv_iconst (v := 2) hx hb dL_law_554 (by decide) ?_
  refine lv_iadd hx hb dL_law_555 ?_
  refine va_sld hx hb hX hbl hbA hS (i := (nI i) + 2) (du_sb hiL hLb 2 (by decide)) dL_law_556 ?_
  refine ro_l (va_runV (As := [.int (xs ((nI i) + 1).toNatClampNeg), .int (xs ((nI i) + 2).toNatClampNeg)]) (rest := [.long (mEntry sl (nI wd) bi (xs ((nI i) + 1).toNatClampNeg) (xs ((nI i) + 2).toNatClampNeg))]) ⟨hx, hb, hml, hown, hts⟩ (r_entry (sz := H.size) (xs ((nI i) + 1).toNatClampNeg) (xs ((nI i) + 2).toNatClampNeg) (hw1) (hw)) (cwV 2 hts gL_law_X1_entry rfl rfl rfl (by decide +kernel) ⟨Nat.le_of_ble_eq_true rfl, Nat.le_of_ble_eq_true rfl⟩) (preV_RO (hP.sub (ws' := (mw q b1 k4 by8 wd po fi la bi bo nb)) [4, 5] rfl) (hK.sub (tys' := mt k4) [3] rfl) 0 (ci := 1) rfl rfl) rfl rfl hl.1 rfl (lv_room (Nat.le_of_ble_eq_true rfl)) dL_law_557 ⟨Nat.le_of_ble_eq_true rfl, Nat.le_of_ble_eq_true rfl⟩) hS hA hP (fun H locs hP hS => ?_)
  refine W.lcmp hx hb dL_law_560 ?_
  refine lv_if_eq (tgt := 703) hx hb dL_law_561 (by decide) (fun c_561 => ?_) (fun c_561 => ?_)
  ·
    exact kk row dv sl by8 B nb wd po tp fi la bi bo (hR) H locs hP hS ls (lv_sub hl [0, 1, 2, 3] rfl)
  ·
    exact absurd ((lg_cmp_eq _ _).mpr (eq_entry hR _ _)) c_561
set_option maxHeartbeats 4000000 in
set_option maxRecDepth 100000 in
theorem law_zeros {p : Program} {l : Launch} {e : Env} {s : State} {m : MethodId} {below : List Frame} {meth : Method} {c : Code} {b L : Nat} {xs : Nat → Int32} {D : va_G} {o a1 a2 a3 q b1 : Nat} {k1 k2 k3 k4 : ClassId} {i : Nat} (C0 : lw_At p s m meth c b L xs) (hK : va_K D vwCl (xt k1 k2 k3 ++ mt k4) s) (hDa : ∀ ws : va_W, ws.map Prod.fst = [o, a1, a2, a3, q, b1] → va_D (fun q9 : Nat => s.heap.size ≤ q9) ws) (hLb : L ≤ 5120) (hiL : i + 10 ≤ L) (kk : lwG p l e s m below meth c b D o a1 a2 a3 q b1 k1 k2 k3 k4 i 703) : lwG p l e s m below meth c b D o a1 a2 a3 q b1 k1 k2 k3 k4 i 566 := by
  obtain ⟨hx, hb, hr, hml, hown, hts, hX, hbl, hlocks, hgv⟩ := C0
  have hown : s.vm.findClass RL = some m.cls := hown
  have hts := fun w h => hts w (wsL_law_in w h)
  have hA : ∀ q9 : Nat, s.heap.size ≤ q9 → (fun q9 : Nat => s.heap.size ≤ q9) q9 := fun _ h => h
  have hbA : ¬ (fun q9 : Nat => s.heap.size ≤ q9) b := Nat.not_le.mpr hbl
  intro row dv sl by8 B nb wd po tp fi la bi bo hR H locs hP hS ls hl
  have hn := hR.1
  have hw1 := hR.2.1
  have hw := hR.2.2.1
  have hD : va_D (fun q9 : Nat => s.heap.size ≤ q9) ((xw o a1 a2 a3 k1 k2 k3 row dv sl nb wd po tp fi la bi bo) ++ (mw q b1 k4 by8 wd po fi la bi bo nb)) := hDa _ rfl
  refine lv_aload_n hx hb dL_law_566 rfl (lv_at hl 1 rfl) ?_
  refine lv_aload_n hx hb dL_law_567 rfl (lv_at hl 0 rfl) ?_
  refine lv_iload_n hx hb dL_law_568 rfl (lv_at hl 3 rfl) ?_
  refine lv_iconst (v := 1) hx hb dL_law_569 (by decide) ?_
  refine lv_iadd hx hb dL_law_570 ?_
  refine va_sld hx hb hX hbl hbA hS (i := (nI i) + 1) (du_sb hiL hLb 1 (by decide)) dL_law_571 ?_
  refine lv_i2l (v := (xs ((nI i) + 1).toNatClampNeg).toInt64) hx hb dL_law_572 rfl ?_
  refine lv_bipush (v := 32) hx hb dL_law_573 (by decide) ?_
  refine lv_lshl (v := jshl ((xs ((nI i) + 1).toNatClampNeg).toInt64) 32) hx hb dL_law_575 rfl ?_
  refine lv_aload_n hx hb dL_law_576 rfl (lv_at hl 0 rfl) ?_
  refine lv_iload_n hx hb dL_law_577 rfl (lv_at hl 3 rfl) ?_
  refine lv_iconst (v := 2) hx hb dL_law_578 (by decide) ?_
  refine lv_iadd hx hb dL_law_579 ?_
  refine va_sld hx hb hX hbl hbA hS (i := (nI i) + 2) (du_sb hiL hLb 2 (by decide)) dL_law_580 ?_
  refine lv_i2l (v := (xs ((nI i) + 2).toNatClampNeg).toInt64) hx hb dL_law_581 rfl ?_
  refine lv_ldc2 hx hb hown (hts (.constantLong RL 13 4294967295) (by decide +kernel)) dL_law_582 ?_
  refine lv_land hx hb dL_law_585 ?_
  refine lv_lor hx hb dL_law_586 ?_
  refine lv_aload_n hx hb dL_law_587 rfl (lv_at hl 0 rfl) ?_
  refine lv_iload_n hx hb dL_law_588 rfl (lv_at hl 3 rfl) ?_
  refine lv_iconst (v := 3) hx hb dL_law_589 (by decide) ?_
  refine lv_iadd hx hb dL_law_590 ?_
  refine va_sld hx hb hX hbl hbA hS (i := (nI i) + 3) (du_sb hiL hLb 3 (by decide)) dL_law_591 ?_
  refine ro_l (va_runV (As := [.long ((jshl ((xs ((nI i) + 1).toNatClampNeg).toInt64) 32) ||| (((xs ((nI i) + 2).toNatClampNeg).toInt64) &&& 4294967295)), .int (xs ((nI i) + 3).toNatClampNeg)]) (rest := []) ⟨hx, hb, hml, hown, hts⟩ (c_zeros (sz := H.size) ((jshl ((xs ((nI i) + 1).toNatClampNeg).toInt64) 32) ||| (((xs ((nI i) + 2).toNatClampNeg).toInt64) &&& 4294967295)) (xs ((nI i) + 3).toNatClampNeg) (hw)) (cwV 2 hts gL_law_X0_zeros rfl rfl rfl (by decide +kernel) ⟨Nat.le_of_ble_eq_true rfl, Nat.le_of_ble_eq_true rfl⟩) (preV_RO (hP.sub (ws' := (xw o a1 a2 a3 k1 k2 k3 row dv sl nb wd po tp fi la bi bo)) [0, 1, 2, 3] rfl) (hK.sub (tys' := xt k1 k2 k3) [0, 1, 2] rfl) 0 (ci := 0) rfl rfl) rfl rfl hl.1 rfl (lv_room (Nat.le_of_ble_eq_true rfl)) dL_law_592 ⟨Nat.le_of_ble_eq_true rfl, Nat.le_of_ble_eq_true rfl⟩) hS hA hP (fun H locs hP hS => ?_)
  refine lv_aload_n hx hb dL_law_595 rfl (lv_at hl 2 rfl) ?_
  refine lv_aload_n hx hb dL_law_596 rfl (lv_at hl 0 rfl) ?_
  refine lv_iload_n hx hb dL_law_597 rfl (lv_at hl 3 rfl) ?_
  refine lv_iconst (v := 1) hx hb dL_law_598 (by decide) ?_
  refine lv_iadd hx hb dL_law_599 ?_
  refine va_sld hx hb hX hbl hbA hS (i := (nI i) + 1) (du_sb hiL hLb 1 (by decide)) dL_law_600 ?_
  refine lv_i2l (v := (xs ((nI i) + 1).toNatClampNeg).toInt64) hx hb dL_law_601 rfl ?_
  refine lv_bipush (v := 32) hx hb dL_law_602 (by decide) ?_
  refine lv_lshl (v := jshl ((xs ((nI i) + 1).toNatClampNeg).toInt64) 32) hx hb dL_law_604 rfl ?_
  refine lv_aload_n hx hb dL_law_605 rfl (lv_at hl 0 rfl) ?_
  refine lv_iload_n hx hb dL_law_606 rfl (lv_at hl 3 rfl) ?_
  refine lv_iconst (v := 2) hx hb dL_law_607 (by decide) ?_
  refine lv_iadd hx hb dL_law_608 ?_
  refine va_sld hx hb hX hbl hbA hS (i := (nI i) + 2) (du_sb hiL hLb 2 (by decide)) dL_law_609 ?_
  refine lv_i2l (v := (xs ((nI i) + 2).toNatClampNeg).toInt64) hx hb dL_law_610 rfl ?_
  refine lv_ldc2 hx hb hown (hts (.constantLong RL 13 4294967295) (by decide +kernel)) dL_law_611 ?_
  refine lv_land hx hb dL_law_614 ?_
  refine lv_lor hx hb dL_law_615 ?_
  refine lv_aload_n hx hb dL_law_616 rfl (lv_at hl 0 rfl) ?_
  refine lv_iload_n hx hb dL_law_617 rfl (lv_at hl 3 rfl) ?_
  refine lv_iconst (v := 3) hx hb dL_law_618 (by decide) ?_
  refine lv_iadd hx hb dL_law_619 ?_
  refine va_sld hx hb hX hbl hbA hS (i := (nI i) + 3) (du_sb hiL hLb 3 (by decide)) dL_law_620 ?_
  refine ro_l (va_runV (As := [.long ((jshl ((xs ((nI i) + 1).toNatClampNeg).toInt64) 32) ||| (((xs ((nI i) + 2).toNatClampNeg).toInt64) &&& 4294967295)), .int (xs ((nI i) + 3).toNatClampNeg)]) (rest := [.long (mZer (nI wd) tp ((jshl ((xs ((nI i) + 1).toNatClampNeg).toInt64) 32) ||| (((xs ((nI i) + 2).toNatClampNeg).toInt64) &&& 4294967295)) (xs ((nI i) + 3).toNatClampNeg))]) ⟨hx, hb, hml, hown, hts⟩ (r_zeros (sz := H.size) ((jshl ((xs ((nI i) + 1).toNatClampNeg).toInt64) 32) ||| (((xs ((nI i) + 2).toNatClampNeg).toInt64) &&& 4294967295)) (xs ((nI i) + 3).toNatClampNeg) (hw1) (hw)) (cwV 2 hts gL_law_X1_zeros rfl rfl rfl (by decide +kernel) ⟨Nat.le_of_ble_eq_true rfl, Nat.le_of_ble_eq_true rfl⟩) (preV_RO (hP.sub (ws' := (mw q b1 k4 by8 wd po fi la bi bo nb)) [4, 5] rfl) (hK.sub (tys' := mt k4) [3] rfl) 0 (ci := 1) rfl rfl) rfl rfl hl.1 rfl (lv_room (Nat.le_of_ble_eq_true rfl)) dL_law_621 ⟨Nat.le_of_ble_eq_true rfl, Nat.le_of_ble_eq_true rfl⟩) hS hA hP (fun H locs hP hS => ?_)
  refine W.lcmp hx hb dL_law_624 ?_
  refine lv_if_eq (tgt := 703) hx hb dL_law_625 (by decide) (fun c_625 => ?_) (fun c_625 => ?_)
  ·
    exact kk row dv sl by8 B nb wd po tp fi la bi bo (hR) H locs hP hS ls (lv_sub hl [0, 1, 2, 3] rfl)
  ·
    exact absurd ((lg_cmp_eq _ _).mpr (eq_zeros hR _ _)) c_625
set_option maxHeartbeats 4000000 in
set_option maxRecDepth 100000 in
theorem law_round {p : Program} {l : Launch} {e : Env} {s : State} {m : MethodId} {below : List Frame} {meth : Method} {c : Code} {b L : Nat} {xs : Nat → Int32} {D : va_G} {o a1 a2 a3 q b1 : Nat} {k1 k2 k3 k4 : ClassId} {i : Nat} (C0 : lw_At p s m meth c b L xs) (hK : va_K D vwCl (xt k1 k2 k3 ++ mt k4) s) (hDa : ∀ ws : va_W, ws.map Prod.fst = [o, a1, a2, a3, q, b1] → va_D (fun q9 : Nat => s.heap.size ≤ q9) ws) (hLb : L ≤ 5120) (hiL : i + 10 ≤ L) (kk : lwG p l e s m below meth c b D o a1 a2 a3 q b1 k1 k2 k3 k4 i 703) : lwG p l e s m below meth c b D o a1 a2 a3 q b1 k1 k2 k3 k4 i 630 := by
  obtain ⟨hx, hb, hr, hml, hown, hts, hX, hbl, hlocks, hgv⟩ := C0
  have hown : s.vm.findClass RL = some m.cls := hown
  have hts := fun w h => hts w (wsL_law_in w h)
  have hA : ∀ q9 : Nat, s.heap.size ≤ q9 → (fun q9 : Nat => s.heap.size ≤ q9) q9 := fun _ h => h
  have hbA : ¬ (fun q9 : Nat => s.heap.size ≤ q9) b := Nat.not_le.mpr hbl
  intro row dv sl by8 B nb wd po tp fi la bi bo hR H locs hP hS ls hl
  have hn := hR.1
  have hw1 := hR.2.1
  have hw := hR.2.2.1
  have hD : va_D (fun q9 : Nat => s.heap.size ≤ q9) ((xw o a1 a2 a3 k1 k2 k3 row dv sl nb wd po tp fi la bi bo) ++ (mw q b1 k4 by8 wd po fi la bi bo nb)) := hDa _ rfl
  refine lv_aload_n hx hb dL_law_630 rfl (lv_at hl 1 rfl) ?_
  refine ro_i (va_runV (As := []) (rest := []) ⟨hx, hb, hml, hown, hts⟩ (c_round (sz := H.size) ) (cwV 0 hts gL_law_X0_round rfl rfl rfl (by decide +kernel) ⟨Nat.le_of_ble_eq_true rfl, Nat.le_of_ble_eq_true rfl⟩) (preV_RO (hP.sub (ws' := (xw o a1 a2 a3 k1 k2 k3 row dv sl nb wd po tp fi la bi bo)) [0, 1, 2, 3] rfl) (hK.sub (tys' := xt k1 k2 k3) [0, 1, 2] rfl) 0 (ci := 0) rfl rfl) rfl rfl hl.1 rfl (lv_room (Nat.le_of_ble_eq_true rfl)) dL_law_631 ⟨Nat.le_of_ble_eq_true rfl, Nat.le_of_ble_eq_true rfl⟩) hS hA hP (fun H locs hP hS => ?_)
  refine lv_aload_n hx hb dL_law_634 rfl (lv_at hl 2 rfl) ?_
  refine ro_i (va_runV (As := []) (rest := [.int (mRound (nI wd) tp)]) ⟨hx, hb, hml, hown, hts⟩ (r_round (sz := H.size) ) (cwV 0 hts gL_law_X1_round rfl rfl rfl (by decide +kernel) ⟨Nat.le_of_ble_eq_true rfl, Nat.le_of_ble_eq_true rfl⟩) (preV_RO (hP.sub (ws' := (mw q b1 k4 by8 wd po fi la bi bo nb)) [4, 5] rfl) (hK.sub (tys' := mt k4) [3] rfl) 0 (ci := 1) rfl rfl) rfl rfl hl.1 rfl (lv_room (Nat.le_of_ble_eq_true rfl)) dL_law_635 ⟨Nat.le_of_ble_eq_true rfl, Nat.le_of_ble_eq_true rfl⟩) hS hA hP (fun H locs hP hS => ?_)
  refine lv_icmp_eq (tgt := 703) hx hb dL_law_638 (by decide) (fun c_638 => ?_) (fun c_638 => ?_)
  ·
    exact kk row dv sl by8 B nb wd po tp fi la bi bo (hR) H locs hP hS ls (lv_sub hl [0, 1, 2, 3] rfl)
  ·
    exact absurd (eq_round hR) c_638
set_option maxHeartbeats 4000000 in
set_option maxRecDepth 100000 in
theorem law_holds {p : Program} {l : Launch} {e : Env} {s : State} {m : MethodId} {below : List Frame} {meth : Method} {c : Code} {b L : Nat} {xs : Nat → Int32} {D : va_G} {o a1 a2 a3 q b1 : Nat} {k1 k2 k3 k4 : ClassId} {i : Nat} (C0 : lw_At p s m meth c b L xs) (hK : va_K D vwCl (xt k1 k2 k3 ++ mt k4) s) (hDa : ∀ ws : va_W, ws.map Prod.fst = [o, a1, a2, a3, q, b1] → va_D (fun q9 : Nat => s.heap.size ≤ q9) ws) (hLb : L ≤ 5120) (hiL : i + 10 ≤ L) (kk : lwG p l e s m below meth c b D o a1 a2 a3 q b1 k1 k2 k3 k4 i 703) : lwG p l e s m below meth c b D o a1 a2 a3 q b1 k1 k2 k3 k4 i 643 := by
  obtain ⟨hx, hb, hr, hml, hown, hts, hX, hbl, hlocks, hgv⟩ := C0
  have hown : s.vm.findClass RL = some m.cls := hown
  have hts := fun w h => hts w (wsL_law_in w h)
  have hA : ∀ q9 : Nat, s.heap.size ≤ q9 → (fun q9 : Nat => s.heap.size ≤ q9) q9 := fun _ h => h
  have hbA : ¬ (fun q9 : Nat => s.heap.size ≤ q9) b := Nat.not_le.mpr hbl
  intro row dv sl by8 B nb wd po tp fi la bi bo hR H locs hP hS ls hl
  have hn := hR.1
  have hw1 := hR.2.1
  have hw := hR.2.2.1
  have hD : va_D (fun q9 : Nat => s.heap.size ≤ q9) ((xw o a1 a2 a3 k1 k2 k3 row dv sl nb wd po tp fi la bi bo) ++ (mw q b1 k4 by8 wd po fi la bi bo nb)) := hDa _ rfl
  refine lv_aload_n hx hb dL_law_643 rfl (lv_at hl 1 rfl) ?_
  refine mu_i (ws := (xw o a1 a2 a3 k1 k2 k3 row dv sl nb wd po tp fi la bi bo)) (ws' := (xw o a1 a2 a3 k1 k2 k3 row (mDvN row dv (mTop (nI wd) fi) tp (nb * 8)) sl nb wd po tp fi la bi bo)) (wr := (mw q b1 k4 by8 wd po fi la bi bo nb)) (va_runV (As := []) (rest := []) ⟨hx, hb, hml, hown, hts⟩ (c_holds (sz := H.size) (hw) (hn) (holds_1 hR) (holds_2 hR) (holds_3 hR) (fun c _ h => holds_j hR c h)) (cwV 0 hts gL_law_X0_holds rfl rfl rfl (by decide +kernel) ⟨Nat.le_of_ble_eq_true rfl, Nat.le_of_ble_eq_true rfl⟩) (preV_MU (hP.sub (ws' := (xw o a1 a2 a3 k1 k2 k3 row dv sl nb wd po tp fi la bi bo)) [0, 1, 2, 3] rfl) (hK.sub (tys' := xt k1 k2 k3) [0, 1, 2] rfl) (hD.sub (ws' := (xw o a1 a2 a3 k1 k2 k3 row dv sl nb wd po tp fi la bi bo)) [0, 1, 2, 3] (by decide) rfl) 0 (ci := 0) rfl rfl) rfl rfl hl.1 rfl (lv_room (Nat.le_of_ble_eq_true rfl)) dL_law_644 ⟨Nat.le_of_ble_eq_true rfl, Nat.le_of_ble_eq_true rfl⟩) hS hA hP hD rfl (fun H locs hP hD hS => ?_)
  refine lv_aload_n hx hb dL_law_647 rfl (lv_at hl 2 rfl) ?_
  refine ro_i (va_runV (As := []) (rest := [.int 1]) ⟨hx, hb, hml, hown, hts⟩ (r_holds (sz := H.size) ) (cwV 0 hts gL_law_X1_holds rfl rfl rfl (by decide +kernel) ⟨Nat.le_of_ble_eq_true rfl, Nat.le_of_ble_eq_true rfl⟩) (preV_RO (hP.sub (ws' := (mw q b1 k4 by8 wd po fi la bi bo nb)) [4, 5] rfl) (hK.sub (tys' := mt k4) [3] rfl) 0 (ci := 1) rfl rfl) rfl rfl hl.1 rfl (lv_room (Nat.le_of_ble_eq_true rfl)) dL_law_648 ⟨Nat.le_of_ble_eq_true rfl, Nat.le_of_ble_eq_true rfl⟩) hS hA hP (fun H locs hP hS => ?_)
  refine lv_icmp_eq (tgt := 703) hx hb dL_law_651 (by decide) (fun c_651 => ?_) (fun c_651 => ?_)
  ·
    exact kk row _ sl by8 B nb wd po tp fi la bi bo (hR) H locs hP hS ls (lv_sub hl [0, 1, 2, 3] rfl)
  ·
    exact absurd (rfl) c_651
set_option maxHeartbeats 4000000 in
set_option maxRecDepth 100000 in
theorem law_count {p : Program} {l : Launch} {e : Env} {s : State} {m : MethodId} {below : List Frame} {meth : Method} {c : Code} {b L : Nat} {xs : Nat → Int32} {D : va_G} {o a1 a2 a3 q b1 : Nat} {k1 k2 k3 k4 : ClassId} {i : Nat} (C0 : lw_At p s m meth c b L xs) (hK : va_K D vwCl (xt k1 k2 k3 ++ mt k4) s) (hDa : ∀ ws : va_W, ws.map Prod.fst = [o, a1, a2, a3, q, b1] → va_D (fun q9 : Nat => s.heap.size ≤ q9) ws) (hLb : L ≤ 5120) (hiL : i + 10 ≤ L) (kk : lwG p l e s m below meth c b D o a1 a2 a3 q b1 k1 k2 k3 k4 i 703) : lwG p l e s m below meth c b D o a1 a2 a3 q b1 k1 k2 k3 k4 i 656 := by
  obtain ⟨hx, hb, hr, hml, hown, hts, hX, hbl, hlocks, hgv⟩ := C0
  have hown : s.vm.findClass RL = some m.cls := hown
  have hts := fun w h => hts w (wsL_law_in w h)
  have hA : ∀ q9 : Nat, s.heap.size ≤ q9 → (fun q9 : Nat => s.heap.size ≤ q9) q9 := fun _ h => h
  have hbA : ¬ (fun q9 : Nat => s.heap.size ≤ q9) b := Nat.not_le.mpr hbl
  intro row dv sl by8 B nb wd po tp fi la bi bo hR H locs hP hS ls hl
  have hn := hR.1
  have hw1 := hR.2.1
  have hw := hR.2.2.1
  have hD : va_D (fun q9 : Nat => s.heap.size ≤ q9) ((xw o a1 a2 a3 k1 k2 k3 row dv sl nb wd po tp fi la bi bo) ++ (mw q b1 k4 by8 wd po fi la bi bo nb)) := hDa _ rfl
  refine lv_aload_n hx hb dL_law_656 rfl (lv_at hl 1 rfl) ?_
  refine lv_aload_n hx hb dL_law_657 rfl (lv_at hl 0 rfl) ?_
  refine lv_iload_n hx hb dL_law_658 rfl (lv_at hl 3 rfl) ?_
  refine lv_iconst (v := 1) hx hb dL_law_659 (by decide) ?_
  refine lv_iadd hx hb dL_law_660 ?_
  refine va_sld hx hb hX hbl hbA hS (i := (nI i) + 1) (du_sb hiL hLb 1 (by decide)) dL_law_661 ?_
  refine ro_i (va_runV (As := [.int (xs ((nI i) + 1).toNatClampNeg)]) (rest := []) ⟨hx, hb, hml, hown, hts⟩ (c_count (sz := H.size) (xs ((nI i) + 1).toNatClampNeg)) (cwV 1 hts gL_law_X0_count rfl rfl rfl (by decide +kernel) ⟨Nat.le_of_ble_eq_true rfl, Nat.le_of_ble_eq_true rfl⟩) (preV_RO (hP.sub (ws' := (xw o a1 a2 a3 k1 k2 k3 row dv sl nb wd po tp fi la bi bo)) [0, 1, 2, 3] rfl) (hK.sub (tys' := xt k1 k2 k3) [0, 1, 2] rfl) 0 (ci := 0) rfl rfl) rfl rfl hl.1 rfl (lv_room (Nat.le_of_ble_eq_true rfl)) dL_law_662 ⟨Nat.le_of_ble_eq_true rfl, Nat.le_of_ble_eq_true rfl⟩) hS hA hP (fun H locs hP hS => ?_)
  refine lv_aload_n hx hb dL_law_665 rfl (lv_at hl 2 rfl) ?_
  refine lv_aload_n hx hb dL_law_666 rfl (lv_at hl 0 rfl) ?_
  refine lv_iload_n hx hb dL_law_667 rfl (lv_at hl 3 rfl) ?_
  refine lv_iconst (v := 1) hx hb dL_law_668 (by decide) ?_
  refine lv_iadd hx hb dL_law_669 ?_
  refine va_sld hx hb hX hbl hbA hS (i := (nI i) + 1) (du_sb hiL hLb 1 (by decide)) dL_law_670 ?_
  refine ro_i (va_runV (As := [.int (xs ((nI i) + 1).toNatClampNeg)]) (rest := [.int (cCount nb wd bi bo (xs ((nI i) + 1).toNatClampNeg))]) ⟨hx, hb, hml, hown, hts⟩ (r_count (sz := H.size) (xs ((nI i) + 1).toNatClampNeg)) (cwV 1 hts gL_law_X1_count rfl rfl rfl (by decide +kernel) ⟨Nat.le_of_ble_eq_true rfl, Nat.le_of_ble_eq_true rfl⟩) (preV_RO (hP.sub (ws' := (mw q b1 k4 by8 wd po fi la bi bo nb)) [4, 5] rfl) (hK.sub (tys' := mt k4) [3] rfl) 0 (ci := 1) rfl rfl) rfl rfl hl.1 rfl (lv_room (Nat.le_of_ble_eq_true rfl)) dL_law_671 ⟨Nat.le_of_ble_eq_true rfl, Nat.le_of_ble_eq_true rfl⟩) hS hA hP (fun H locs hP hS => ?_)
  refine lv_icmp_eq (tgt := 703) hx hb dL_law_674 (by decide) (fun c_674 => ?_) (fun c_674 => ?_)
  ·
    exact kk row dv sl by8 B nb wd po tp fi la bi bo (hR) H locs hP hS ls (lv_sub hl [0, 1, 2, 3] rfl)
  ·
    exact absurd (rfl) c_674
set_option maxHeartbeats 4000000 in
set_option maxRecDepth 100000 in
theorem law_told {p : Program} {l : Launch} {e : Env} {s : State} {m : MethodId} {below : List Frame} {meth : Method} {c : Code} {b L : Nat} {xs : Nat → Int32} {D : va_G} {o a1 a2 a3 q b1 : Nat} {k1 k2 k3 k4 : ClassId} {i : Nat} (C0 : lw_At p s m meth c b L xs) (hK : va_K D vwCl (xt k1 k2 k3 ++ mt k4) s) (hDa : ∀ ws : va_W, ws.map Prod.fst = [o, a1, a2, a3, q, b1] → va_D (fun q9 : Nat => s.heap.size ≤ q9) ws) (hLb : L ≤ 5120) (hiL : i + 10 ≤ L) (kk : lwG p l e s m below meth c b D o a1 a2 a3 q b1 k1 k2 k3 k4 i 703) : lwG p l e s m below meth c b D o a1 a2 a3 q b1 k1 k2 k3 k4 i 679 := by
  obtain ⟨hx, hb, hr, hml, hown, hts, hX, hbl, hlocks, hgv⟩ := C0
  have hown : s.vm.findClass RL = some m.cls := hown
  have hts := fun w h => hts w (wsL_law_in w h)
  have hA : ∀ q9 : Nat, s.heap.size ≤ q9 → (fun q9 : Nat => s.heap.size ≤ q9) q9 := fun _ h => h
  have hbA : ¬ (fun q9 : Nat => s.heap.size ≤ q9) b := Nat.not_le.mpr hbl
  intro row dv sl by8 B nb wd po tp fi la bi bo hR H locs hP hS ls hl
  have hn := hR.1
  have hw1 := hR.2.1
  have hw := hR.2.2.1
  have hD : va_D (fun q9 : Nat => s.heap.size ≤ q9) ((xw o a1 a2 a3 k1 k2 k3 row dv sl nb wd po tp fi la bi bo) ++ (mw q b1 k4 by8 wd po fi la bi bo nb)) := hDa _ rfl
  refine lv_aload_n hx hb dL_law_679 rfl (lv_at hl 1 rfl) ?_
  refine lv_aload_n hx hb dL_law_680 rfl (lv_at hl 0 rfl) ?_
  refine lv_iload_n hx hb dL_law_681 rfl (lv_at hl 3 rfl) ?_
  refine lv_iconst (v := 1) hx hb dL_law_682 (by decide) ?_
  refine lv_iadd hx hb dL_law_683 ?_
  refine va_sld hx hb hX hbl hbA hS (i := (nI i) + 1) (du_sb hiL hLb 1 (by decide)) dL_law_684 ?_
  refine ro_l (va_runV (As := [.int (xs ((nI i) + 1).toNatClampNeg)]) (rest := []) ⟨hx, hb, hml, hown, hts⟩ (c_told (sz := H.size) (xs ((nI i) + 1).toNatClampNeg)) (cwV 1 hts gL_law_X0_told rfl rfl rfl (by decide +kernel) ⟨Nat.le_of_ble_eq_true rfl, Nat.le_of_ble_eq_true rfl⟩) (preV_RO (hP.sub (ws' := (xw o a1 a2 a3 k1 k2 k3 row dv sl nb wd po tp fi la bi bo)) [0, 1, 2, 3] rfl) (hK.sub (tys' := xt k1 k2 k3) [0, 1, 2] rfl) 0 (ci := 0) rfl rfl) rfl rfl hl.1 rfl (lv_room (Nat.le_of_ble_eq_true rfl)) dL_law_685 ⟨Nat.le_of_ble_eq_true rfl, Nat.le_of_ble_eq_true rfl⟩) hS hA hP (fun H locs hP hS => ?_)
  refine lv_aload_n hx hb dL_law_688 rfl (lv_at hl 2 rfl) ?_
  refine lv_aload_n hx hb dL_law_689 rfl (lv_at hl 0 rfl) ?_
  refine lv_iload_n hx hb dL_law_690 rfl (lv_at hl 3 rfl) ?_
  refine lv_iconst (v := 1) hx hb dL_law_691 (by decide) ?_
  refine lv_iadd hx hb dL_law_692 ?_
  refine va_sld hx hb hX hbl hbA hS (i := (nI i) + 1) (du_sb hiL hLb 1 (by decide)) dL_law_693 ?_
  refine ro_l (va_runV (As := [.int (xs ((nI i) + 1).toNatClampNeg)]) (rest := [.long (cTold po fi la (xs ((nI i) + 1).toNatClampNeg))]) ⟨hx, hb, hml, hown, hts⟩ (r_told2 (sz := H.size) (xs ((nI i) + 1).toNatClampNeg)) (cwV 1 hts gL_law_X1_told_ rfl rfl rfl (by decide +kernel) ⟨Nat.le_of_ble_eq_true rfl, Nat.le_of_ble_eq_true rfl⟩) (preV_RO (hP.sub (ws' := (mw q b1 k4 by8 wd po fi la bi bo nb)) [4, 5] rfl) (hK.sub (tys' := mt k4) [3] rfl) 0 (ci := 1) rfl rfl) rfl rfl hl.1 rfl (lv_room (Nat.le_of_ble_eq_true rfl)) dL_law_694 ⟨Nat.le_of_ble_eq_true rfl, Nat.le_of_ble_eq_true rfl⟩) hS hA hP (fun H locs hP hS => ?_)
  refine W.lcmp hx hb dL_law_697 ?_
  refine lv_if_eq (tgt := 703) hx hb dL_law_698 (by decide) (fun c_698 => ?_) (fun c_698 => ?_)
  ·
    exact kk row dv sl by8 B nb wd po tp fi la bi bo (hR) H locs hP hS ls (lv_sub hl [0, 1, 2, 3] rfl)
  ·
    exact absurd ((lg_cmp_eq _ _).mpr rfl) c_698
