/-! Layer 4: the law's cases, printed by program (wip/whole/genlaw.py) -/
abbrev lc_L (i : Int) : List rt_V := [(2, 40), (2, 41), (2, 248), (2, 300), (0, i), (9, 0), (9, 0)]
def lc_X (G : rt_G) (i : Int) (x : Nat → Int) : Prop := ∀ j : Nat, j ≤ 6 → rt_sl (rt_L G) (fun j => (rt_xs G j).toInt) (rt_iadd i (j : Int)) = some (x j)
theorem lc_ss : rt_ss 301 - rt_ss 41 ≤ 7000000 := by decide +kernel
theorem lc_room {k : Nat} (hk : k ≤ 512) : rt_cells (41, 0) (301, k) ≤ rt_mc M_law ∧ rt_slots (41, 0) (301, k) ≤ rt_ms M_law := by
  have := lc_ss
  refine ⟨?_, ?_⟩
  · show (301 - 41) + 8 * (k - 0) ≤ 601024
    omega
  · show (rt_ss 301 - rt_ss 41) + 200 * (k - 0) ≤ 7293034
    omega
theorem kl_L_23 : Cond.constantLong RL 23 (Int64.ofInt 4294967295) ∈ rt_mG := (rt_inG (rt_t8 112 (by decide +kernel)) rfl)
theorem ml_L_25 : rt_Ml RL 25 M_X11_feed := Or.inl (rt_inG (rt_t2 137 (by decide +kernel)) rfl)
theorem ml_L_29 : rt_Ml RL 29 M_X12_feed := Or.inl (rt_inG (rt_t6 166 (by decide +kernel)) rfl)
theorem ml_L_30 : rt_Ml RL 30 M_X11_realm := Or.inl (rt_inG (rt_t2 146 (by decide +kernel)) rfl)
theorem ml_L_34 : rt_Ml RL 34 M_X12_realm := Or.inl (rt_inG (rt_t6 171 (by decide +kernel)) rfl)
theorem ml_L_35 : rt_Ml RL 35 M_X11_years := Or.inl (rt_inG (rt_t3 125 (by decide +kernel)) rfl)
theorem ml_L_38 : rt_Ml RL 38 M_X12_years := Or.inl (rt_inG (rt_t7 69 (by decide +kernel)) rfl)
theorem ml_L_39 : rt_Ml RL 39 M_X11_wig := Or.inl (rt_inG (rt_t3 157 (by decide +kernel)) rfl)
theorem ml_L_43 : rt_Ml RL 43 M_X12_wig := Or.inl (rt_inG (rt_t7 81 (by decide +kernel)) rfl)
theorem ml_L_44 : rt_Ml RL 44 M_X11_head := Or.inl (rt_inG (rt_t3 190 (by decide +kernel)) rfl)
theorem ml_L_47 : rt_Ml RL 47 M_X12_head := Or.inl (rt_inG (rt_t7 89 (by decide +kernel)) rfl)
theorem ml_L_48 : rt_Ml RL 48 M_X11_fits := Or.inl (rt_inG (rt_t3 232 (by decide +kernel)) rfl)
theorem ml_L_52 : rt_Ml RL 52 M_X12_fits := Or.inl (rt_inG (rt_t7 128 (by decide +kernel)) rfl)
theorem ml_L_53 : rt_Ml RL 53 M_X11_put := Or.inl (rt_inG (rt_t4 6 (by decide +kernel)) rfl)
theorem ml_L_57 : rt_Ml RL 57 M_X12_put := Or.inl (rt_inG (rt_t7 140 (by decide +kernel)) rfl)
theorem ml_L_58 : rt_Ml RL 58 M_X11_off := Or.inl (rt_inG (rt_t4 32 (by decide +kernel)) rfl)
theorem ml_L_62 : rt_Ml RL 62 M_X12_off := Or.inl (rt_inG (rt_t7 155 (by decide +kernel)) rfl)
theorem ml_L_63 : rt_Ml RL 63 M_X11_mend := Or.inl (rt_inG (rt_t4 40 (by decide +kernel)) rfl)
theorem ml_L_66 : rt_Ml RL 66 M_X12_mend := Or.inl (rt_inG (rt_t7 159 (by decide +kernel)) rfl)
theorem ml_L_67 : rt_Ml RL 67 M_X11_season := Or.inl (rt_inG (rt_t4 52 (by decide +kernel)) rfl)
theorem ml_L_70 : rt_Ml RL 70 M_X12_season := Or.inl (rt_inG (rt_t7 163 (by decide +kernel)) rfl)
theorem ml_L_71 : rt_Ml RL 71 M_X11_undo := Or.inl (rt_inG (rt_t4 62 (by decide +kernel)) rfl)
theorem ml_L_75 : rt_Ml RL 75 M_X12_undo := Or.inl (rt_inG (rt_t7 172 (by decide +kernel)) rfl)
theorem ml_L_76 : rt_Ml RL 76 M_X11_judged := Or.inl (rt_inG (rt_t4 66 (by decide +kernel)) rfl)
theorem ml_L_79 : rt_Ml RL 79 M_X12_judged := Or.inl (rt_inG (rt_t7 176 (by decide +kernel)) rfl)
theorem ml_L_80 : rt_Ml RL 80 M_X11_verdict := Or.inl (rt_inG (rt_t4 94 (by decide +kernel)) rfl)
theorem ml_L_83 : rt_Ml RL 83 M_X12_verdict := Or.inl (rt_inG (rt_t7 192 (by decide +kernel)) rfl)
theorem ml_L_84 : rt_Ml RL 84 M_X11_fill := Or.inl (rt_inG (rt_t4 113 (by decide +kernel)) rfl)
theorem ml_L_87 : rt_Ml RL 87 M_X12_fill := Or.inl (rt_inG (rt_t7 212 (by decide +kernel)) rfl)
theorem ml_L_88 : rt_Ml RL 88 M_X11_say := Or.inl (rt_inG (rt_t4 159 (by decide +kernel)) rfl)
theorem ml_L_92 : rt_Ml RL 92 M_X12_say := Or.inl (rt_inG (rt_t7 224 (by decide +kernel)) rfl)
theorem ml_L_93 : rt_Ml RL 93 M_X11_leans := Or.inl (rt_inG (rt_t4 167 (by decide +kernel)) rfl)
theorem ml_L_96 : rt_Ml RL 96 M_X12_leans := Or.inl (rt_inG (rt_t7 228 (by decide +kernel)) rfl)
theorem ml_L_97 : rt_Ml RL 97 M_X11_next := Or.inl (rt_inG (rt_t4 182 (by decide +kernel)) rfl)
theorem ml_L_100 : rt_Ml RL 100 M_X12_next := Or.inl (rt_inG (rt_t7 236 (by decide +kernel)) rfl)
theorem ml_L_101 : rt_Ml RL 101 M_X11_baths := Or.inl (rt_inG (rt_t4 187 (by decide +kernel)) rfl)
theorem ml_L_104 : rt_Ml RL 104 M_X12_baths := Or.inl (rt_inG (rt_t8 2 (by decide +kernel)) rfl)
theorem ml_L_105 : rt_Ml RL 105 M_X11_keeps := Or.inl (rt_inG (rt_t4 191 (by decide +kernel)) rfl)
theorem ml_L_108 : rt_Ml RL 108 M_X12_keeps := Or.inl (rt_inG (rt_t8 6 (by decide +kernel)) rfl)
theorem ml_L_109 : rt_Ml RL 109 M_X11_moths := Or.inl (rt_inG (rt_t4 195 (by decide +kernel)) rfl)
theorem ml_L_112 : rt_Ml RL 112 M_X12_moths := Or.inl (rt_inG (rt_t8 10 (by decide +kernel)) rfl)
theorem ml_L_113 : rt_Ml RL 113 M_X11_tell := Or.inl (rt_inG (rt_t4 203 (by decide +kernel)) rfl)
theorem ml_L_116 : rt_Ml RL 116 M_X12_tell := Or.inl (rt_inG (rt_t8 22 (by decide +kernel)) rfl)
theorem ml_L_117 : rt_Ml RL 117 M_X11_under := Or.inl (rt_inG (rt_t4 207 (by decide +kernel)) rfl)
theorem ml_L_120 : rt_Ml RL 120 M_X12_under := Or.inl (rt_inG (rt_t8 26 (by decide +kernel)) rfl)
theorem ml_L_121 : rt_Ml RL 121 M_X11_ask := Or.inl (rt_inG (rt_t4 234 (by decide +kernel)) rfl)
theorem ml_L_124 : rt_Ml RL 124 M_X12_ask := Or.inl (rt_inG (rt_t8 38 (by decide +kernel)) rfl)
theorem ml_L_125 : rt_Ml RL 125 M_X11_votes := Or.inl (rt_inG (rt_t4 109 (by decide +kernel)) rfl)
theorem ml_L_128 : rt_Ml RL 128 M_X12_votes := Or.inl (rt_inG (rt_t7 204 (by decide +kernel)) rfl)
theorem ml_L_129 : rt_Ml RL 129 M_X11_power := Or.inl (rt_inG (rt_t5 9 (by decide +kernel)) rfl)
theorem ml_L_132 : rt_Ml RL 132 M_X12_power := Or.inl (rt_inG (rt_t7 208 (by decide +kernel)) rfl)
theorem ml_L_133 : rt_Ml RL 133 M_X11_match := Or.inl (rt_inG (rt_t5 13 (by decide +kernel)) rfl)
theorem ml_L_136 : rt_Ml RL 136 M_X12_match := Or.inl (rt_inG (rt_t8 42 (by decide +kernel)) rfl)
theorem ml_L_150 : rt_Ml RL 150 M_X11_centuries := Or.inl (rt_inG (rt_t5 30 (by decide +kernel)) rfl)
theorem ml_L_153 : rt_Ml RL 153 M_X12_centuries := Or.inl (rt_inG (rt_t8 76 (by decide +kernel)) rfl)
theorem ml_L_154 : rt_Ml RL 154 M_X11_mark := Or.inl (rt_inG (rt_t5 54 (by decide +kernel)) rfl)
theorem ml_L_158 : rt_Ml RL 158 M_X12_mark := Or.inl (rt_inG (rt_t8 96 (by decide +kernel)) rfl)
theorem ml_L_159 : rt_Ml RL 159 M_X11_count := Or.inl (rt_inG (rt_t5 68 (by decide +kernel)) rfl)
theorem ml_L_162 : rt_Ml RL 162 M_X12_count := Or.inl (rt_inG (rt_t8 104 (by decide +kernel)) rfl)
theorem lc_180 {G : rt_G} {Q : rt_P} {d n k : Nat} {mem : rt_M} (hd : 2048 ≤ d) (hk : k ≤ 512) (i : Int) (x : Nat → Int) (hX : lc_X G i x) (hI : rq_I n mem) (hc : n < 800000) (K : ∀ mem1, rq_I (n + 1) mem1 → RT G M_law d (41, 0) Q 1363 (lc_L i) [] (301, k) mem1) : RT G M_law d (41, 0) Q 180 (lc_L i) [] (301, k) mem := by
  obtain ⟨p, hp, q, hq, e, hI1⟩ := L_feed hI ((rt_lor (rt_lshl (x 1) 32) (rt_land (x 2) 4294967295))) ((rt_lor (rt_lshl (x 3) 32) (rt_land (x 4) 4294967295))) ((rt_lor (rt_lshl (x 5) 32) (rt_land (x 6) 4294967295)))
  refine RT.aload_n (pc := 180) (k := 1) (x := 41) dL_law_180 rfl ?_
  refine RT.aload_n (pc := 181) (k := 0) (x := 40) dL_law_181 rfl ?_
  refine RT.iload (pc := 182) (k := 4) (x := i) dL_law_182 rfl ?_
  refine RT.iconst (pc := 184) (n := 1) dL_law_184 ⟨by decide, by decide⟩ ?_
  refine RT.iadd (pc := 185) dL_law_185 ?_
  refine RT.sld (pc := 186) (v := x 1) dL_law_186 (hX 1 (by decide)) ?_
  refine RT.i2l (pc := 187) dL_law_187 ?_
  refine RT.bipush (pc := 188) (n := 32) dL_law_188 ⟨by decide, by decide⟩ rfl ?_
  refine RT.lshl (pc := 190) dL_law_190 ?_
  refine RT.aload_n (pc := 191) (k := 0) (x := 40) dL_law_191 rfl ?_
  refine RT.iload (pc := 192) (k := 4) (x := i) dL_law_192 rfl ?_
  refine RT.iconst (pc := 194) (n := 2) dL_law_194 ⟨by decide, by decide⟩ ?_
  refine RT.iadd (pc := 195) dL_law_195 ?_
  refine RT.sld (pc := 196) (v := x 2) dL_law_196 (hX 2 (by decide)) ?_
  refine RT.i2l (pc := 197) dL_law_197 ?_
  refine RT.ldc2 (pc := 198) (v := 4294967295) dL_law_198 kl_L_23 ⟨by decide, by decide⟩ ?_
  refine RT.land (pc := 201) dL_law_201 ?_
  refine RT.lor (pc := 202) dL_law_202 ?_
  refine RT.aload_n (pc := 203) (k := 0) (x := 40) dL_law_203 rfl ?_
  refine RT.iload (pc := 204) (k := 4) (x := i) dL_law_204 rfl ?_
  refine RT.iconst (pc := 206) (n := 3) dL_law_206 ⟨by decide, by decide⟩ ?_
  refine RT.iadd (pc := 207) dL_law_207 ?_
  refine RT.sld (pc := 208) (v := x 3) dL_law_208 (hX 3 (by decide)) ?_
  refine RT.i2l (pc := 209) dL_law_209 ?_
  refine RT.bipush (pc := 210) (n := 32) dL_law_210 ⟨by decide, by decide⟩ rfl ?_
  refine RT.lshl (pc := 212) dL_law_212 ?_
  refine RT.aload_n (pc := 213) (k := 0) (x := 40) dL_law_213 rfl ?_
  refine RT.iload (pc := 214) (k := 4) (x := i) dL_law_214 rfl ?_
  refine RT.iconst (pc := 216) (n := 4) dL_law_216 ⟨by decide, by decide⟩ ?_
  refine RT.iadd (pc := 217) dL_law_217 ?_
  refine RT.sld (pc := 218) (v := x 4) dL_law_218 (hX 4 (by decide)) ?_
  refine RT.i2l (pc := 219) dL_law_219 ?_
  refine RT.ldc2 (pc := 220) (v := 4294967295) dL_law_220 kl_L_23 ⟨by decide, by decide⟩ ?_
  refine RT.land (pc := 223) dL_law_223 ?_
  refine RT.lor (pc := 224) dL_law_224 ?_
  refine RT.aload_n (pc := 225) (k := 0) (x := 40) dL_law_225 rfl ?_
  refine RT.iload (pc := 226) (k := 4) (x := i) dL_law_226 rfl ?_
  refine RT.iconst (pc := 228) (n := 5) dL_law_228 ⟨by decide, by decide⟩ ?_
  refine RT.iadd (pc := 229) dL_law_229 ?_
  refine RT.sld (pc := 230) (v := x 5) dL_law_230 (hX 5 (by decide)) ?_
  refine RT.i2l (pc := 231) dL_law_231 ?_
  refine RT.bipush (pc := 232) (n := 32) dL_law_232 ⟨by decide, by decide⟩ rfl ?_
  refine RT.lshl (pc := 234) dL_law_234 ?_
  refine RT.aload_n (pc := 235) (k := 0) (x := 40) dL_law_235 rfl ?_
  refine RT.iload (pc := 236) (k := 4) (x := i) dL_law_236 rfl ?_
  refine RT.bipush (pc := 238) (n := 6) dL_law_238 ⟨by decide, by decide⟩ rfl ?_
  refine RT.iadd (pc := 240) dL_law_240 ?_
  refine RT.sld (pc := 241) (v := x 6) dL_law_241 (hX 6 (by decide)) ?_
  refine RT.i2l (pc := 242) dL_law_242 ?_
  refine RT.ldc2 (pc := 243) (v := 4294967295) dL_law_243 kl_L_23 ⟨by decide, by decide⟩ ?_
  refine RT.land (pc := 246) dL_law_246 ?_
  refine RT.lor (pc := 247) dL_law_247 ?_
  refine RT.cV (pc := 248) (M' := M_X11_feed) (ci := 11) (x := 41) (As := [(1, (rt_lor (rt_lshl (x 1) 32) (rt_land (x 2) 4294967295))), (1, (rt_lor (rt_lshl (x 3) 32) (rt_land (x 4) 4294967295))), (1, (rt_lor (rt_lshl (x 5) 32) (rt_land (x 6) 4294967295)))]) (st := []) (r := some (0, p.1)) (mem1 := p.2) (d' := d - 1) dL_law_248 mw_X11_feed ml_L_25 mi_X11_feed rfl (Nat.le_of_ble_eq_true rfl) rfl rfl (Nat.le_of_ble_eq_true rfl) (Nat.le_of_ble_eq_true rfl) (by omega) (lc_room hk).1 (lc_room hk).2 (c_X11_feed (z := (301, k)) (Nat.le_of_ble_eq_true rfl) (by omega) 41 ((rt_lor (rt_lshl (x 1) 32) (rt_land (x 2) 4294967295))) ((rt_lor (rt_lshl (x 3) 32) (rt_land (x 4) 4294967295))) ((rt_lor (rt_lshl (x 5) 32) (rt_land (x 6) 4294967295))) mem _ rfl hp) ?_
  refine RT.aload_n (pc := 251) (k := 2) (x := 248) dL_law_251 rfl ?_
  refine RT.aload_n (pc := 252) (k := 0) (x := 40) dL_law_252 rfl ?_
  refine RT.iload (pc := 253) (k := 4) (x := i) dL_law_253 rfl ?_
  refine RT.iconst (pc := 255) (n := 1) dL_law_255 ⟨by decide, by decide⟩ ?_
  refine RT.iadd (pc := 256) dL_law_256 ?_
  refine RT.sld (pc := 257) (v := x 1) dL_law_257 (hX 1 (by decide)) ?_
  refine RT.i2l (pc := 258) dL_law_258 ?_
  refine RT.bipush (pc := 259) (n := 32) dL_law_259 ⟨by decide, by decide⟩ rfl ?_
  refine RT.lshl (pc := 261) dL_law_261 ?_
  refine RT.aload_n (pc := 262) (k := 0) (x := 40) dL_law_262 rfl ?_
  refine RT.iload (pc := 263) (k := 4) (x := i) dL_law_263 rfl ?_
  refine RT.iconst (pc := 265) (n := 2) dL_law_265 ⟨by decide, by decide⟩ ?_
  refine RT.iadd (pc := 266) dL_law_266 ?_
  refine RT.sld (pc := 267) (v := x 2) dL_law_267 (hX 2 (by decide)) ?_
  refine RT.i2l (pc := 268) dL_law_268 ?_
  refine RT.ldc2 (pc := 269) (v := 4294967295) dL_law_269 kl_L_23 ⟨by decide, by decide⟩ ?_
  refine RT.land (pc := 272) dL_law_272 ?_
  refine RT.lor (pc := 273) dL_law_273 ?_
  refine RT.aload_n (pc := 274) (k := 0) (x := 40) dL_law_274 rfl ?_
  refine RT.iload (pc := 275) (k := 4) (x := i) dL_law_275 rfl ?_
  refine RT.iconst (pc := 277) (n := 3) dL_law_277 ⟨by decide, by decide⟩ ?_
  refine RT.iadd (pc := 278) dL_law_278 ?_
  refine RT.sld (pc := 279) (v := x 3) dL_law_279 (hX 3 (by decide)) ?_
  refine RT.i2l (pc := 280) dL_law_280 ?_
  refine RT.bipush (pc := 281) (n := 32) dL_law_281 ⟨by decide, by decide⟩ rfl ?_
  refine RT.lshl (pc := 283) dL_law_283 ?_
  refine RT.aload_n (pc := 284) (k := 0) (x := 40) dL_law_284 rfl ?_
  refine RT.iload (pc := 285) (k := 4) (x := i) dL_law_285 rfl ?_
  refine RT.iconst (pc := 287) (n := 4) dL_law_287 ⟨by decide, by decide⟩ ?_
  refine RT.iadd (pc := 288) dL_law_288 ?_
  refine RT.sld (pc := 289) (v := x 4) dL_law_289 (hX 4 (by decide)) ?_
  refine RT.i2l (pc := 290) dL_law_290 ?_
  refine RT.ldc2 (pc := 291) (v := 4294967295) dL_law_291 kl_L_23 ⟨by decide, by decide⟩ ?_
  refine RT.land (pc := 294) dL_law_294 ?_
  refine RT.lor (pc := 295) dL_law_295 ?_
  refine RT.aload_n (pc := 296) (k := 0) (x := 40) dL_law_296 rfl ?_
  refine RT.iload (pc := 297) (k := 4) (x := i) dL_law_297 rfl ?_
  refine RT.iconst (pc := 299) (n := 5) dL_law_299 ⟨by decide, by decide⟩ ?_
  refine RT.iadd (pc := 300) dL_law_300 ?_
  refine RT.sld (pc := 301) (v := x 5) dL_law_301 (hX 5 (by decide)) ?_
  refine RT.i2l (pc := 302) dL_law_302 ?_
  refine RT.bipush (pc := 303) (n := 32) dL_law_303 ⟨by decide, by decide⟩ rfl ?_
  refine RT.lshl (pc := 305) dL_law_305 ?_
  refine RT.aload_n (pc := 306) (k := 0) (x := 40) dL_law_306 rfl ?_
  refine RT.iload (pc := 307) (k := 4) (x := i) dL_law_307 rfl ?_
  refine RT.bipush (pc := 309) (n := 6) dL_law_309 ⟨by decide, by decide⟩ rfl ?_
  refine RT.iadd (pc := 311) dL_law_311 ?_
  refine RT.sld (pc := 312) (v := x 6) dL_law_312 (hX 6 (by decide)) ?_
  refine RT.i2l (pc := 313) dL_law_313 ?_
  refine RT.ldc2 (pc := 314) (v := 4294967295) dL_law_314 kl_L_23 ⟨by decide, by decide⟩ ?_
  refine RT.land (pc := 317) dL_law_317 ?_
  refine RT.lor (pc := 318) dL_law_318 ?_
  refine RT.cV (pc := 319) (M' := M_X12_feed) (ci := 12) (x := 248) (As := [(1, (rt_lor (rt_lshl (x 1) 32) (rt_land (x 2) 4294967295))), (1, (rt_lor (rt_lshl (x 3) 32) (rt_land (x 4) 4294967295))), (1, (rt_lor (rt_lshl (x 5) 32) (rt_land (x 6) 4294967295)))]) (st := [(0, p.1)]) (r := some (0, q.1)) (mem1 := q.2) (d' := d - 1) dL_law_319 mw_X12_feed ml_L_29 mi_X12_feed rfl (Nat.le_of_ble_eq_true rfl) rfl rfl (Nat.le_of_ble_eq_true rfl) (Nat.le_of_ble_eq_true rfl) (by omega) (lc_room hk).1 (lc_room hk).2 (c_X12_feed (z := (301, k)) (Nat.le_of_ble_eq_true rfl) (by omega) 248 ((rt_lor (rt_lshl (x 1) 32) (rt_land (x 2) 4294967295))) ((rt_lor (rt_lshl (x 3) 32) (rt_land (x 4) 4294967295))) ((rt_lor (rt_lshl (x 5) 32) (rt_land (x 6) 4294967295))) p.2 _ rfl hq) ?_
  refine RT.icmp_eq (pc := 322) (tgt := 1363) dL_law_322 rfl (fun _ => ?_) (fun z => absurd e.symm z)
  exact K q.2 hI1
theorem lc_327 {G : rt_G} {Q : rt_P} {d n k : Nat} {mem : rt_M} (hd : 2048 ≤ d) (hk : k ≤ 512) (i : Int) (x : Nat → Int) (hX : lc_X G i x) (hI : rq_I n mem) (hc : n < 800000) (K : ∀ mem1, rq_I (n + 1) mem1 → RT G M_law d (41, 0) Q 1363 (lc_L i) [] (301, k) mem1) : RT G M_law d (41, 0) Q 327 (lc_L i) [] (301, k) mem := by
  obtain ⟨p, hp, q, hq, e, hI1⟩ := L_realm hI 
  refine RT.aload_n (pc := 327) (k := 1) (x := 41) dL_law_327 rfl ?_
  refine RT.cV (pc := 328) (M' := M_X11_realm) (ci := 11) (x := 41) (As := []) (st := []) (r := some (0, p.1)) (mem1 := p.2) (d' := d - 1) dL_law_328 mw_X11_realm ml_L_30 mi_X11_realm rfl (Nat.le_of_ble_eq_true rfl) rfl rfl (Nat.le_of_ble_eq_true rfl) (Nat.le_of_ble_eq_true rfl) (by omega) (lc_room hk).1 (lc_room hk).2 (c_X11_realm (z := (301, k)) (Nat.le_of_ble_eq_true rfl) (by omega) 41 mem _ rfl hp) ?_
  refine RT.aload_n (pc := 331) (k := 2) (x := 248) dL_law_331 rfl ?_
  refine RT.cV (pc := 332) (M' := M_X12_realm) (ci := 12) (x := 248) (As := []) (st := [(0, p.1)]) (r := some (0, q.1)) (mem1 := q.2) (d' := d - 1) dL_law_332 mw_X12_realm ml_L_34 mi_X12_realm rfl (Nat.le_of_ble_eq_true rfl) rfl rfl (Nat.le_of_ble_eq_true rfl) (Nat.le_of_ble_eq_true rfl) (by omega) (lc_room hk).1 (lc_room hk).2 (c_X12_realm (z := (301, k)) (Nat.le_of_ble_eq_true rfl) (by omega) 248 p.2 _ rfl hq) ?_
  refine RT.icmp_eq (pc := 335) (tgt := 1363) dL_law_335 rfl (fun _ => ?_) (fun z => absurd e.symm z)
  exact K q.2 hI1
theorem lc_340 {G : rt_G} {Q : rt_P} {d n k : Nat} {mem : rt_M} (hd : 2048 ≤ d) (hk : k ≤ 512) (i : Int) (x : Nat → Int) (hX : lc_X G i x) (hI : rq_I n mem) (hc : n < 800000) (K : ∀ mem1, rq_I (n + 1) mem1 → RT G M_law d (41, 0) Q 1363 (lc_L i) [] (301, k) mem1) : RT G M_law d (41, 0) Q 340 (lc_L i) [] (301, k) mem := by
  obtain ⟨p, hp, q, hq, e, hI1⟩ := L_years hI 
  refine RT.aload_n (pc := 340) (k := 1) (x := 41) dL_law_340 rfl ?_
  refine RT.cV (pc := 341) (M' := M_X11_years) (ci := 11) (x := 41) (As := []) (st := []) (r := some (0, p.1)) (mem1 := p.2) (d' := d - 1) dL_law_341 mw_X11_years ml_L_35 mi_X11_years rfl (Nat.le_of_ble_eq_true rfl) rfl rfl (Nat.le_of_ble_eq_true rfl) (Nat.le_of_ble_eq_true rfl) (by omega) (lc_room hk).1 (lc_room hk).2 (c_X11_years (z := (301, k)) (Nat.le_of_ble_eq_true rfl) (by omega) 41 mem _ rfl hp) ?_
  refine RT.aload_n (pc := 344) (k := 2) (x := 248) dL_law_344 rfl ?_
  refine RT.cV (pc := 345) (M' := M_X12_years) (ci := 12) (x := 248) (As := []) (st := [(0, p.1)]) (r := some (0, q.1)) (mem1 := q.2) (d' := d - 1) dL_law_345 mw_X12_years ml_L_38 mi_X12_years rfl (Nat.le_of_ble_eq_true rfl) rfl rfl (Nat.le_of_ble_eq_true rfl) (Nat.le_of_ble_eq_true rfl) (by omega) (lc_room hk).1 (lc_room hk).2 (c_X12_years (z := (301, k)) (Nat.le_of_ble_eq_true rfl) (by omega) 248 p.2 _ rfl hq) ?_
  refine RT.icmp_eq (pc := 348) (tgt := 1363) dL_law_348 rfl (fun _ => ?_) (fun z => absurd e.symm z)
  exact K q.2 hI1
theorem lc_353 {G : rt_G} {Q : rt_P} {d n k : Nat} {mem : rt_M} (hd : 2048 ≤ d) (hk : k ≤ 512) (i : Int) (x : Nat → Int) (hX : lc_X G i x) (hI : rq_I n mem) (hc : n < 800000) (K : ∀ mem1, rq_I (n + 1) mem1 → RT G M_law d (41, 0) Q 1363 (lc_L i) [] (301, k) mem1) : RT G M_law d (41, 0) Q 353 (lc_L i) [] (301, k) mem := by
  obtain ⟨p, hp, q, hq, e, hI1⟩ := L_wig hI ((x 1)) ((x 2))
  refine RT.aload_n (pc := 353) (k := 1) (x := 41) dL_law_353 rfl ?_
  refine RT.aload_n (pc := 354) (k := 0) (x := 40) dL_law_354 rfl ?_
  refine RT.iload (pc := 355) (k := 4) (x := i) dL_law_355 rfl ?_
  refine RT.iconst (pc := 357) (n := 1) dL_law_357 ⟨by decide, by decide⟩ ?_
  refine RT.iadd (pc := 358) dL_law_358 ?_
  refine RT.sld (pc := 359) (v := x 1) dL_law_359 (hX 1 (by decide)) ?_
  refine RT.aload_n (pc := 360) (k := 0) (x := 40) dL_law_360 rfl ?_
  refine RT.iload (pc := 361) (k := 4) (x := i) dL_law_361 rfl ?_
  refine RT.iconst (pc := 363) (n := 2) dL_law_363 ⟨by decide, by decide⟩ ?_
  refine RT.iadd (pc := 364) dL_law_364 ?_
  refine RT.sld (pc := 365) (v := x 2) dL_law_365 (hX 2 (by decide)) ?_
  refine RT.cV (pc := 366) (M' := M_X11_wig) (ci := 11) (x := 41) (As := [(0, (x 1)), (0, (x 2))]) (st := []) (r := some (0, p)) (mem1 := mem) (d' := d - 1) dL_law_366 mw_X11_wig ml_L_39 mi_X11_wig rfl (Nat.le_of_ble_eq_true rfl) rfl rfl (Nat.le_of_ble_eq_true rfl) (Nat.le_of_ble_eq_true rfl) (by omega) (lc_room hk).1 (lc_room hk).2 (c_X11_wig (z := (301, k)) (Nat.le_of_ble_eq_true rfl) (by omega) 41 ((x 1)) ((x 2)) mem _ rfl hp) ?_
  refine RT.aload_n (pc := 369) (k := 2) (x := 248) dL_law_369 rfl ?_
  refine RT.aload_n (pc := 370) (k := 0) (x := 40) dL_law_370 rfl ?_
  refine RT.iload (pc := 371) (k := 4) (x := i) dL_law_371 rfl ?_
  refine RT.iconst (pc := 373) (n := 1) dL_law_373 ⟨by decide, by decide⟩ ?_
  refine RT.iadd (pc := 374) dL_law_374 ?_
  refine RT.sld (pc := 375) (v := x 1) dL_law_375 (hX 1 (by decide)) ?_
  refine RT.aload_n (pc := 376) (k := 0) (x := 40) dL_law_376 rfl ?_
  refine RT.iload (pc := 377) (k := 4) (x := i) dL_law_377 rfl ?_
  refine RT.iconst (pc := 379) (n := 2) dL_law_379 ⟨by decide, by decide⟩ ?_
  refine RT.iadd (pc := 380) dL_law_380 ?_
  refine RT.sld (pc := 381) (v := x 2) dL_law_381 (hX 2 (by decide)) ?_
  refine RT.cV (pc := 382) (M' := M_X12_wig) (ci := 12) (x := 248) (As := [(0, (x 1)), (0, (x 2))]) (st := [(0, p)]) (r := some (0, q.1)) (mem1 := q.2) (d' := d - 1) dL_law_382 mw_X12_wig ml_L_43 mi_X12_wig rfl (Nat.le_of_ble_eq_true rfl) rfl rfl (Nat.le_of_ble_eq_true rfl) (Nat.le_of_ble_eq_true rfl) (by omega) (lc_room hk).1 (lc_room hk).2 (c_X12_wig (z := (301, k)) (Nat.le_of_ble_eq_true rfl) (by omega) 248 ((x 1)) ((x 2)) mem _ rfl hq) ?_
  refine RT.icmp_eq (pc := 385) (tgt := 1363) dL_law_385 rfl (fun _ => ?_) (fun z => absurd e.symm z)
  exact K q.2 hI1
theorem lc_390 {G : rt_G} {Q : rt_P} {d n k : Nat} {mem : rt_M} (hd : 2048 ≤ d) (hk : k ≤ 512) (i : Int) (x : Nat → Int) (hX : lc_X G i x) (hI : rq_I n mem) (hc : n < 800000) (K : ∀ mem1, rq_I (n + 1) mem1 → RT G M_law d (41, 0) Q 1363 (lc_L i) [] (301, k) mem1) : RT G M_law d (41, 0) Q 390 (lc_L i) [] (301, k) mem := by
  obtain ⟨p, hp, q, hq, e, hI1⟩ := L_head hI hc ((x 1)) ((x 2))
  refine RT.aload_n (pc := 390) (k := 1) (x := 41) dL_law_390 rfl ?_
  refine RT.aload_n (pc := 391) (k := 0) (x := 40) dL_law_391 rfl ?_
  refine RT.iload (pc := 392) (k := 4) (x := i) dL_law_392 rfl ?_
  refine RT.iconst (pc := 394) (n := 1) dL_law_394 ⟨by decide, by decide⟩ ?_
  refine RT.iadd (pc := 395) dL_law_395 ?_
  refine RT.sld (pc := 396) (v := x 1) dL_law_396 (hX 1 (by decide)) ?_
  refine RT.aload_n (pc := 397) (k := 0) (x := 40) dL_law_397 rfl ?_
  refine RT.iload (pc := 398) (k := 4) (x := i) dL_law_398 rfl ?_
  refine RT.iconst (pc := 400) (n := 2) dL_law_400 ⟨by decide, by decide⟩ ?_
  refine RT.iadd (pc := 401) dL_law_401 ?_
  refine RT.sld (pc := 402) (v := x 2) dL_law_402 (hX 2 (by decide)) ?_
  refine RT.cV (pc := 403) (M' := M_X11_head) (ci := 11) (x := 41) (As := [(0, (x 1)), (0, (x 2))]) (st := []) (r := some (0, p.1)) (mem1 := p.2) (d' := d - 1) dL_law_403 mw_X11_head ml_L_44 mi_X11_head rfl (Nat.le_of_ble_eq_true rfl) rfl rfl (Nat.le_of_ble_eq_true rfl) (Nat.le_of_ble_eq_true rfl) (by omega) (lc_room hk).1 (lc_room hk).2 (c_X11_head (z := (301, k)) (Nat.le_of_ble_eq_true rfl) (by omega) 41 ((x 1)) ((x 2)) mem _ rfl hp) ?_
  refine RT.aload_n (pc := 406) (k := 2) (x := 248) dL_law_406 rfl ?_
  refine RT.aload_n (pc := 407) (k := 0) (x := 40) dL_law_407 rfl ?_
  refine RT.iload (pc := 408) (k := 4) (x := i) dL_law_408 rfl ?_
  refine RT.iconst (pc := 410) (n := 1) dL_law_410 ⟨by decide, by decide⟩ ?_
  refine RT.iadd (pc := 411) dL_law_411 ?_
  refine RT.sld (pc := 412) (v := x 1) dL_law_412 (hX 1 (by decide)) ?_
  refine RT.aload_n (pc := 413) (k := 0) (x := 40) dL_law_413 rfl ?_
  refine RT.iload (pc := 414) (k := 4) (x := i) dL_law_414 rfl ?_
  refine RT.iconst (pc := 416) (n := 2) dL_law_416 ⟨by decide, by decide⟩ ?_
  refine RT.iadd (pc := 417) dL_law_417 ?_
  refine RT.sld (pc := 418) (v := x 2) dL_law_418 (hX 2 (by decide)) ?_
  refine RT.cV (pc := 419) (M' := M_X12_head) (ci := 12) (x := 248) (As := [(0, (x 1)), (0, (x 2))]) (st := [(0, p.1)]) (r := some (0, q.1)) (mem1 := q.2) (d' := d - 1) dL_law_419 mw_X12_head ml_L_47 mi_X12_head rfl (Nat.le_of_ble_eq_true rfl) rfl rfl (Nat.le_of_ble_eq_true rfl) (Nat.le_of_ble_eq_true rfl) (by omega) (lc_room hk).1 (lc_room hk).2 (c_X12_head (z := (301, k)) (Nat.le_of_ble_eq_true rfl) (by omega) 248 ((x 1)) ((x 2)) p.2 _ rfl hq) ?_
  refine RT.icmp_eq (pc := 422) (tgt := 1363) dL_law_422 rfl (fun _ => ?_) (fun z => absurd e.symm z)
  exact K q.2 hI1
theorem lc_427 {G : rt_G} {Q : rt_P} {d n k : Nat} {mem : rt_M} (hd : 2048 ≤ d) (hk : k ≤ 512) (i : Int) (x : Nat → Int) (hX : lc_X G i x) (hI : rq_I n mem) (hc : n < 800000) (K : ∀ mem1, rq_I (n + 1) mem1 → RT G M_law d (41, 0) Q 1363 (lc_L i) [] (301, k) mem1) : RT G M_law d (41, 0) Q 427 (lc_L i) [] (301, k) mem := by
  obtain ⟨p, hp, q, hq, e, hI1⟩ := L_fits hI hc ((x 1)) ((x 2)) ((x 3))
  refine RT.aload_n (pc := 427) (k := 1) (x := 41) dL_law_427 rfl ?_
  refine RT.aload_n (pc := 428) (k := 0) (x := 40) dL_law_428 rfl ?_
  refine RT.iload (pc := 429) (k := 4) (x := i) dL_law_429 rfl ?_
  refine RT.iconst (pc := 431) (n := 1) dL_law_431 ⟨by decide, by decide⟩ ?_
  refine RT.iadd (pc := 432) dL_law_432 ?_
  refine RT.sld (pc := 433) (v := x 1) dL_law_433 (hX 1 (by decide)) ?_
  refine RT.aload_n (pc := 434) (k := 0) (x := 40) dL_law_434 rfl ?_
  refine RT.iload (pc := 435) (k := 4) (x := i) dL_law_435 rfl ?_
  refine RT.iconst (pc := 437) (n := 2) dL_law_437 ⟨by decide, by decide⟩ ?_
  refine RT.iadd (pc := 438) dL_law_438 ?_
  refine RT.sld (pc := 439) (v := x 2) dL_law_439 (hX 2 (by decide)) ?_
  refine RT.aload_n (pc := 440) (k := 0) (x := 40) dL_law_440 rfl ?_
  refine RT.iload (pc := 441) (k := 4) (x := i) dL_law_441 rfl ?_
  refine RT.iconst (pc := 443) (n := 3) dL_law_443 ⟨by decide, by decide⟩ ?_
  refine RT.iadd (pc := 444) dL_law_444 ?_
  refine RT.sld (pc := 445) (v := x 3) dL_law_445 (hX 3 (by decide)) ?_
  refine RT.cV (pc := 446) (M' := M_X11_fits) (ci := 11) (x := 41) (As := [(0, (x 1)), (0, (x 2)), (0, (x 3))]) (st := []) (r := some (0, p.1)) (mem1 := p.2) (d' := d - 1) dL_law_446 mw_X11_fits ml_L_48 mi_X11_fits rfl (Nat.le_of_ble_eq_true rfl) rfl rfl (Nat.le_of_ble_eq_true rfl) (Nat.le_of_ble_eq_true rfl) (by omega) (lc_room hk).1 (lc_room hk).2 (c_X11_fits (z := (301, k)) (Nat.le_of_ble_eq_true rfl) (by omega) 41 ((x 1)) ((x 2)) ((x 3)) mem _ rfl hp) ?_
  refine RT.aload_n (pc := 449) (k := 2) (x := 248) dL_law_449 rfl ?_
  refine RT.aload_n (pc := 450) (k := 0) (x := 40) dL_law_450 rfl ?_
  refine RT.iload (pc := 451) (k := 4) (x := i) dL_law_451 rfl ?_
  refine RT.iconst (pc := 453) (n := 1) dL_law_453 ⟨by decide, by decide⟩ ?_
  refine RT.iadd (pc := 454) dL_law_454 ?_
  refine RT.sld (pc := 455) (v := x 1) dL_law_455 (hX 1 (by decide)) ?_
  refine RT.aload_n (pc := 456) (k := 0) (x := 40) dL_law_456 rfl ?_
  refine RT.iload (pc := 457) (k := 4) (x := i) dL_law_457 rfl ?_
  refine RT.iconst (pc := 459) (n := 2) dL_law_459 ⟨by decide, by decide⟩ ?_
  refine RT.iadd (pc := 460) dL_law_460 ?_
  refine RT.sld (pc := 461) (v := x 2) dL_law_461 (hX 2 (by decide)) ?_
  refine RT.aload_n (pc := 462) (k := 0) (x := 40) dL_law_462 rfl ?_
  refine RT.iload (pc := 463) (k := 4) (x := i) dL_law_463 rfl ?_
  refine RT.iconst (pc := 465) (n := 3) dL_law_465 ⟨by decide, by decide⟩ ?_
  refine RT.iadd (pc := 466) dL_law_466 ?_
  refine RT.sld (pc := 467) (v := x 3) dL_law_467 (hX 3 (by decide)) ?_
  refine RT.cV (pc := 468) (M' := M_X12_fits) (ci := 12) (x := 248) (As := [(0, (x 1)), (0, (x 2)), (0, (x 3))]) (st := [(0, p.1)]) (r := some (0, q.1)) (mem1 := q.2) (d' := d - 1) dL_law_468 mw_X12_fits ml_L_52 mi_X12_fits rfl (Nat.le_of_ble_eq_true rfl) rfl rfl (Nat.le_of_ble_eq_true rfl) (Nat.le_of_ble_eq_true rfl) (by omega) (lc_room hk).1 (lc_room hk).2 (c_X12_fits (z := (301, k)) (Nat.le_of_ble_eq_true rfl) (by omega) 248 ((x 1)) ((x 2)) ((x 3)) p.2 _ rfl hq) ?_
  refine RT.icmp_eq (pc := 471) (tgt := 1363) dL_law_471 rfl (fun _ => ?_) (fun z => absurd e.symm z)
  exact K q.2 hI1
theorem lc_476 {G : rt_G} {Q : rt_P} {d n k : Nat} {mem : rt_M} (hd : 2048 ≤ d) (hk : k ≤ 512) (i : Int) (x : Nat → Int) (hX : lc_X G i x) (hI : rq_I n mem) (hc : n < 800000) (K : ∀ mem1, rq_I (n + 1) mem1 → RT G M_law d (41, 0) Q 1363 (lc_L i) [] (301, k) mem1) : RT G M_law d (41, 0) Q 476 (lc_L i) [] (301, k) mem := by
  obtain ⟨p, hp, q, hq, e, hI1⟩ := L_put hI hc ((x 1)) ((x 2))
  refine RT.aload_n (pc := 476) (k := 1) (x := 41) dL_law_476 rfl ?_
  refine RT.aload_n (pc := 477) (k := 0) (x := 40) dL_law_477 rfl ?_
  refine RT.iload (pc := 478) (k := 4) (x := i) dL_law_478 rfl ?_
  refine RT.iconst (pc := 480) (n := 1) dL_law_480 ⟨by decide, by decide⟩ ?_
  refine RT.iadd (pc := 481) dL_law_481 ?_
  refine RT.sld (pc := 482) (v := x 1) dL_law_482 (hX 1 (by decide)) ?_
  refine RT.aload_n (pc := 483) (k := 0) (x := 40) dL_law_483 rfl ?_
  refine RT.iload (pc := 484) (k := 4) (x := i) dL_law_484 rfl ?_
  refine RT.iconst (pc := 486) (n := 2) dL_law_486 ⟨by decide, by decide⟩ ?_
  refine RT.iadd (pc := 487) dL_law_487 ?_
  refine RT.sld (pc := 488) (v := x 2) dL_law_488 (hX 2 (by decide)) ?_
  refine RT.cV (pc := 489) (M' := M_X11_put) (ci := 11) (x := 41) (As := [(0, (x 1)), (0, (x 2))]) (st := []) (r := some (0, p.1)) (mem1 := p.2) (d' := d - 1) dL_law_489 mw_X11_put ml_L_53 mi_X11_put rfl (Nat.le_of_ble_eq_true rfl) rfl rfl (Nat.le_of_ble_eq_true rfl) (Nat.le_of_ble_eq_true rfl) (by omega) (lc_room hk).1 (lc_room hk).2 (c_X11_put (z := (301, k)) (Nat.le_of_ble_eq_true rfl) (by omega) 41 ((x 1)) ((x 2)) mem _ rfl hp) ?_
  refine RT.aload_n (pc := 492) (k := 2) (x := 248) dL_law_492 rfl ?_
  refine RT.aload_n (pc := 493) (k := 0) (x := 40) dL_law_493 rfl ?_
  refine RT.iload (pc := 494) (k := 4) (x := i) dL_law_494 rfl ?_
  refine RT.iconst (pc := 496) (n := 1) dL_law_496 ⟨by decide, by decide⟩ ?_
  refine RT.iadd (pc := 497) dL_law_497 ?_
  refine RT.sld (pc := 498) (v := x 1) dL_law_498 (hX 1 (by decide)) ?_
  refine RT.aload_n (pc := 499) (k := 0) (x := 40) dL_law_499 rfl ?_
  refine RT.iload (pc := 500) (k := 4) (x := i) dL_law_500 rfl ?_
  refine RT.iconst (pc := 502) (n := 2) dL_law_502 ⟨by decide, by decide⟩ ?_
  refine RT.iadd (pc := 503) dL_law_503 ?_
  refine RT.sld (pc := 504) (v := x 2) dL_law_504 (hX 2 (by decide)) ?_
  refine RT.cV (pc := 505) (M' := M_X12_put) (ci := 12) (x := 248) (As := [(0, (x 1)), (0, (x 2))]) (st := [(0, p.1)]) (r := some (0, q.1)) (mem1 := q.2) (d' := d - 1) dL_law_505 mw_X12_put ml_L_57 mi_X12_put rfl (Nat.le_of_ble_eq_true rfl) rfl rfl (Nat.le_of_ble_eq_true rfl) (Nat.le_of_ble_eq_true rfl) (by omega) (lc_room hk).1 (lc_room hk).2 (c_X12_put (z := (301, k)) (Nat.le_of_ble_eq_true rfl) (by omega) 248 ((x 1)) ((x 2)) p.2 _ rfl hq) ?_
  refine RT.icmp_eq (pc := 508) (tgt := 1363) dL_law_508 rfl (fun _ => ?_) (fun z => absurd e.symm z)
  exact K q.2 hI1
theorem lc_513 {G : rt_G} {Q : rt_P} {d n k : Nat} {mem : rt_M} (hd : 2048 ≤ d) (hk : k ≤ 512) (i : Int) (x : Nat → Int) (hX : lc_X G i x) (hI : rq_I n mem) (hc : n < 800000) (K : ∀ mem1, rq_I (n + 1) mem1 → RT G M_law d (41, 0) Q 1363 (lc_L i) [] (301, k) mem1) : RT G M_law d (41, 0) Q 513 (lc_L i) [] (301, k) mem := by
  obtain ⟨p, hp, q, hq, e, hI1⟩ := L_off hI ((x 1))
  refine RT.aload_n (pc := 513) (k := 1) (x := 41) dL_law_513 rfl ?_
  refine RT.aload_n (pc := 514) (k := 0) (x := 40) dL_law_514 rfl ?_
  refine RT.iload (pc := 515) (k := 4) (x := i) dL_law_515 rfl ?_
  refine RT.iconst (pc := 517) (n := 1) dL_law_517 ⟨by decide, by decide⟩ ?_
  refine RT.iadd (pc := 518) dL_law_518 ?_
  refine RT.sld (pc := 519) (v := x 1) dL_law_519 (hX 1 (by decide)) ?_
  refine RT.cV (pc := 520) (M' := M_X11_off) (ci := 11) (x := 41) (As := [(0, (x 1))]) (st := []) (r := some (0, p.1)) (mem1 := p.2) (d' := d - 1) dL_law_520 mw_X11_off ml_L_58 mi_X11_off rfl (Nat.le_of_ble_eq_true rfl) rfl rfl (Nat.le_of_ble_eq_true rfl) (Nat.le_of_ble_eq_true rfl) (by omega) (lc_room hk).1 (lc_room hk).2 (c_X11_off (z := (301, k)) (Nat.le_of_ble_eq_true rfl) (by omega) 41 ((x 1)) mem _ rfl hp) ?_
  refine RT.aload_n (pc := 523) (k := 2) (x := 248) dL_law_523 rfl ?_
  refine RT.aload_n (pc := 524) (k := 0) (x := 40) dL_law_524 rfl ?_
  refine RT.iload (pc := 525) (k := 4) (x := i) dL_law_525 rfl ?_
  refine RT.iconst (pc := 527) (n := 1) dL_law_527 ⟨by decide, by decide⟩ ?_
  refine RT.iadd (pc := 528) dL_law_528 ?_
  refine RT.sld (pc := 529) (v := x 1) dL_law_529 (hX 1 (by decide)) ?_
  refine RT.cV (pc := 530) (M' := M_X12_off) (ci := 12) (x := 248) (As := [(0, (x 1))]) (st := [(0, p.1)]) (r := some (0, q.1)) (mem1 := q.2) (d' := d - 1) dL_law_530 mw_X12_off ml_L_62 mi_X12_off rfl (Nat.le_of_ble_eq_true rfl) rfl rfl (Nat.le_of_ble_eq_true rfl) (Nat.le_of_ble_eq_true rfl) (by omega) (lc_room hk).1 (lc_room hk).2 (c_X12_off (z := (301, k)) (Nat.le_of_ble_eq_true rfl) (by omega) 248 ((x 1)) p.2 _ rfl hq) ?_
  refine RT.icmp_eq (pc := 533) (tgt := 1363) dL_law_533 rfl (fun _ => ?_) (fun z => absurd e.symm z)
  exact K q.2 hI1
theorem lc_538 {G : rt_G} {Q : rt_P} {d n k : Nat} {mem : rt_M} (hd : 2048 ≤ d) (hk : k ≤ 512) (i : Int) (x : Nat → Int) (hX : lc_X G i x) (hI : rq_I n mem) (hc : n < 800000) (K : ∀ mem1, rq_I (n + 1) mem1 → RT G M_law d (41, 0) Q 1363 (lc_L i) [] (301, k) mem1) : RT G M_law d (41, 0) Q 538 (lc_L i) [] (301, k) mem := by
  obtain ⟨p, hp, q, hq, e, hI1⟩ := L_mend hI ((x 1))
  refine RT.aload_n (pc := 538) (k := 1) (x := 41) dL_law_538 rfl ?_
  refine RT.aload_n (pc := 539) (k := 0) (x := 40) dL_law_539 rfl ?_
  refine RT.iload (pc := 540) (k := 4) (x := i) dL_law_540 rfl ?_
  refine RT.iconst (pc := 542) (n := 1) dL_law_542 ⟨by decide, by decide⟩ ?_
  refine RT.iadd (pc := 543) dL_law_543 ?_
  refine RT.sld (pc := 544) (v := x 1) dL_law_544 (hX 1 (by decide)) ?_
  refine RT.cV (pc := 545) (M' := M_X11_mend) (ci := 11) (x := 41) (As := [(0, (x 1))]) (st := []) (r := some (0, p.1)) (mem1 := p.2) (d' := d - 1) dL_law_545 mw_X11_mend ml_L_63 mi_X11_mend rfl (Nat.le_of_ble_eq_true rfl) rfl rfl (Nat.le_of_ble_eq_true rfl) (Nat.le_of_ble_eq_true rfl) (by omega) (lc_room hk).1 (lc_room hk).2 (c_X11_mend (z := (301, k)) (Nat.le_of_ble_eq_true rfl) (by omega) 41 ((x 1)) mem _ rfl hp) ?_
  refine RT.aload_n (pc := 548) (k := 2) (x := 248) dL_law_548 rfl ?_
  refine RT.aload_n (pc := 549) (k := 0) (x := 40) dL_law_549 rfl ?_
  refine RT.iload (pc := 550) (k := 4) (x := i) dL_law_550 rfl ?_
  refine RT.iconst (pc := 552) (n := 1) dL_law_552 ⟨by decide, by decide⟩ ?_
  refine RT.iadd (pc := 553) dL_law_553 ?_
  refine RT.sld (pc := 554) (v := x 1) dL_law_554 (hX 1 (by decide)) ?_
  refine RT.cV (pc := 555) (M' := M_X12_mend) (ci := 12) (x := 248) (As := [(0, (x 1))]) (st := [(0, p.1)]) (r := some (0, q.1)) (mem1 := q.2) (d' := d - 1) dL_law_555 mw_X12_mend ml_L_66 mi_X12_mend rfl (Nat.le_of_ble_eq_true rfl) rfl rfl (Nat.le_of_ble_eq_true rfl) (Nat.le_of_ble_eq_true rfl) (by omega) (lc_room hk).1 (lc_room hk).2 (c_X12_mend (z := (301, k)) (Nat.le_of_ble_eq_true rfl) (by omega) 248 ((x 1)) p.2 _ rfl hq) ?_
  refine RT.icmp_eq (pc := 558) (tgt := 1363) dL_law_558 rfl (fun _ => ?_) (fun z => absurd e.symm z)
  exact K q.2 hI1
theorem lc_563 {G : rt_G} {Q : rt_P} {d n k : Nat} {mem : rt_M} (hd : 2048 ≤ d) (hk : k ≤ 512) (i : Int) (x : Nat → Int) (hX : lc_X G i x) (hI : rq_I n mem) (hc : n < 800000) (K : ∀ mem1, rq_I (n + 1) mem1 → RT G M_law d (41, 0) Q 1363 (lc_L i) [] (301, k) mem1) : RT G M_law d (41, 0) Q 563 (lc_L i) [] (301, k) mem := by
  obtain ⟨p, hp, q, hq, e, hI1⟩ := L_season hI hc 
  refine RT.aload_n (pc := 563) (k := 1) (x := 41) dL_law_563 rfl ?_
  refine RT.cV (pc := 564) (M' := M_X11_season) (ci := 11) (x := 41) (As := []) (st := []) (r := some (0, p.1)) (mem1 := p.2) (d' := d - 1) dL_law_564 mw_X11_season ml_L_67 mi_X11_season rfl (Nat.le_of_ble_eq_true rfl) rfl rfl (Nat.le_of_ble_eq_true rfl) (Nat.le_of_ble_eq_true rfl) (by omega) (lc_room hk).1 (lc_room hk).2 (c_X11_season (z := (301, k)) (Nat.le_of_ble_eq_true rfl) (by omega) 41 mem _ rfl hp) ?_
  refine RT.aload_n (pc := 567) (k := 2) (x := 248) dL_law_567 rfl ?_
  refine RT.cV (pc := 568) (M' := M_X12_season) (ci := 12) (x := 248) (As := []) (st := [(0, p.1)]) (r := some (0, q.1)) (mem1 := q.2) (d' := d - 1) dL_law_568 mw_X12_season ml_L_70 mi_X12_season rfl (Nat.le_of_ble_eq_true rfl) rfl rfl (Nat.le_of_ble_eq_true rfl) (Nat.le_of_ble_eq_true rfl) (by omega) (lc_room hk).1 (lc_room hk).2 (c_X12_season (z := (301, k)) (Nat.le_of_ble_eq_true rfl) (by omega) 248 p.2 _ rfl hq) ?_
  refine RT.icmp_eq (pc := 571) (tgt := 1363) dL_law_571 rfl (fun _ => ?_) (fun z => absurd e.symm z)
  exact K q.2 hI1
theorem lc_576 {G : rt_G} {Q : rt_P} {d n k : Nat} {mem : rt_M} (hd : 2048 ≤ d) (hk : k ≤ 512) (i : Int) (x : Nat → Int) (hX : lc_X G i x) (hI : rq_I n mem) (hc : n < 800000) (K : ∀ mem1, rq_I (n + 1) mem1 → RT G M_law d (41, 0) Q 1363 (lc_L i) [] (301, k) mem1) : RT G M_law d (41, 0) Q 576 (lc_L i) [] (301, k) mem := by
  obtain ⟨p, hp, q, hq, e, hI1⟩ := L_undo hI 
  refine RT.aload_n (pc := 576) (k := 1) (x := 41) dL_law_576 rfl ?_
  refine RT.cV (pc := 577) (M' := M_X11_undo) (ci := 11) (x := 41) (As := []) (st := []) (r := some (0, p.1)) (mem1 := p.2) (d' := d - 1) dL_law_577 mw_X11_undo ml_L_71 mi_X11_undo rfl (Nat.le_of_ble_eq_true rfl) rfl rfl (Nat.le_of_ble_eq_true rfl) (Nat.le_of_ble_eq_true rfl) (by omega) (lc_room hk).1 (lc_room hk).2 (c_X11_undo (z := (301, k)) (Nat.le_of_ble_eq_true rfl) (by omega) 41 mem _ rfl hp) ?_
  refine RT.aload_n (pc := 580) (k := 2) (x := 248) dL_law_580 rfl ?_
  refine RT.cV (pc := 581) (M' := M_X12_undo) (ci := 12) (x := 248) (As := []) (st := [(0, p.1)]) (r := some (0, q.1)) (mem1 := q.2) (d' := d - 1) dL_law_581 mw_X12_undo ml_L_75 mi_X12_undo rfl (Nat.le_of_ble_eq_true rfl) rfl rfl (Nat.le_of_ble_eq_true rfl) (Nat.le_of_ble_eq_true rfl) (by omega) (lc_room hk).1 (lc_room hk).2 (c_X12_undo (z := (301, k)) (Nat.le_of_ble_eq_true rfl) (by omega) 248 p.2 _ rfl hq) ?_
  refine RT.icmp_eq (pc := 584) (tgt := 1363) dL_law_584 rfl (fun _ => ?_) (fun z => absurd e.symm z)
  exact K q.2 hI1
theorem lc_589 {G : rt_G} {Q : rt_P} {d n k : Nat} {mem : rt_M} (hd : 2048 ≤ d) (hk : k ≤ 512) (i : Int) (x : Nat → Int) (hX : lc_X G i x) (hI : rq_I n mem) (hc : n < 800000) (K : ∀ mem1, rq_I (n + 1) mem1 → RT G M_law d (41, 0) Q 1363 (lc_L i) [] (301, k) mem1) : RT G M_law d (41, 0) Q 589 (lc_L i) [] (301, k) mem := by
  obtain ⟨p, hp, q, hq, e, hI1⟩ := L_judged hI ((x 1))
  refine RT.aload_n (pc := 589) (k := 1) (x := 41) dL_law_589 rfl ?_
  refine RT.aload_n (pc := 590) (k := 0) (x := 40) dL_law_590 rfl ?_
  refine RT.iload (pc := 591) (k := 4) (x := i) dL_law_591 rfl ?_
  refine RT.iconst (pc := 593) (n := 1) dL_law_593 ⟨by decide, by decide⟩ ?_
  refine RT.iadd (pc := 594) dL_law_594 ?_
  refine RT.sld (pc := 595) (v := x 1) dL_law_595 (hX 1 (by decide)) ?_
  refine RT.cV (pc := 596) (M' := M_X11_judged) (ci := 11) (x := 41) (As := [(0, (x 1))]) (st := []) (r := some (0, p.1)) (mem1 := p.2) (d' := d - 1) dL_law_596 mw_X11_judged ml_L_76 mi_X11_judged rfl (Nat.le_of_ble_eq_true rfl) rfl rfl (Nat.le_of_ble_eq_true rfl) (Nat.le_of_ble_eq_true rfl) (by omega) (lc_room hk).1 (lc_room hk).2 (c_X11_judged (z := (301, k)) (Nat.le_of_ble_eq_true rfl) (by omega) 41 ((x 1)) mem _ rfl hp) ?_
  refine RT.aload_n (pc := 599) (k := 2) (x := 248) dL_law_599 rfl ?_
  refine RT.aload_n (pc := 600) (k := 0) (x := 40) dL_law_600 rfl ?_
  refine RT.iload (pc := 601) (k := 4) (x := i) dL_law_601 rfl ?_
  refine RT.iconst (pc := 603) (n := 1) dL_law_603 ⟨by decide, by decide⟩ ?_
  refine RT.iadd (pc := 604) dL_law_604 ?_
  refine RT.sld (pc := 605) (v := x 1) dL_law_605 (hX 1 (by decide)) ?_
  refine RT.cV (pc := 606) (M' := M_X12_judged) (ci := 12) (x := 248) (As := [(0, (x 1))]) (st := [(0, p.1)]) (r := some (0, q.1)) (mem1 := q.2) (d' := d - 1) dL_law_606 mw_X12_judged ml_L_79 mi_X12_judged rfl (Nat.le_of_ble_eq_true rfl) rfl rfl (Nat.le_of_ble_eq_true rfl) (Nat.le_of_ble_eq_true rfl) (by omega) (lc_room hk).1 (lc_room hk).2 (c_X12_judged (z := (301, k)) (Nat.le_of_ble_eq_true rfl) (by omega) 248 ((x 1)) p.2 _ rfl hq) ?_
  refine RT.icmp_eq (pc := 609) (tgt := 1363) dL_law_609 rfl (fun _ => ?_) (fun z => absurd e.symm z)
  exact K q.2 hI1
theorem lc_614 {G : rt_G} {Q : rt_P} {d n k : Nat} {mem : rt_M} (hd : 2048 ≤ d) (hk : k ≤ 512) (i : Int) (x : Nat → Int) (hX : lc_X G i x) (hI : rq_I n mem) (hc : n < 800000) (K : ∀ mem1, rq_I (n + 1) mem1 → RT G M_law d (41, 0) Q 1363 (lc_L i) [] (301, k) mem1) : RT G M_law d (41, 0) Q 614 (lc_L i) [] (301, k) mem := by
  obtain ⟨p, hp, q, hq, e, hI1⟩ := L_verdict hI ((x 1))
  refine RT.aload_n (pc := 614) (k := 1) (x := 41) dL_law_614 rfl ?_
  refine RT.aload_n (pc := 615) (k := 0) (x := 40) dL_law_615 rfl ?_
  refine RT.iload (pc := 616) (k := 4) (x := i) dL_law_616 rfl ?_
  refine RT.iconst (pc := 618) (n := 1) dL_law_618 ⟨by decide, by decide⟩ ?_
  refine RT.iadd (pc := 619) dL_law_619 ?_
  refine RT.sld (pc := 620) (v := x 1) dL_law_620 (hX 1 (by decide)) ?_
  refine RT.cV (pc := 621) (M' := M_X11_verdict) (ci := 11) (x := 41) (As := [(0, (x 1))]) (st := []) (r := some (0, p.1)) (mem1 := p.2) (d' := d - 1) dL_law_621 mw_X11_verdict ml_L_80 mi_X11_verdict rfl (Nat.le_of_ble_eq_true rfl) rfl rfl (Nat.le_of_ble_eq_true rfl) (Nat.le_of_ble_eq_true rfl) (by omega) (lc_room hk).1 (lc_room hk).2 (c_X11_verdict (z := (301, k)) (Nat.le_of_ble_eq_true rfl) (by omega) 41 ((x 1)) mem _ rfl hp) ?_
  refine RT.aload_n (pc := 624) (k := 2) (x := 248) dL_law_624 rfl ?_
  refine RT.aload_n (pc := 625) (k := 0) (x := 40) dL_law_625 rfl ?_
  refine RT.iload (pc := 626) (k := 4) (x := i) dL_law_626 rfl ?_
  refine RT.iconst (pc := 628) (n := 1) dL_law_628 ⟨by decide, by decide⟩ ?_
  refine RT.iadd (pc := 629) dL_law_629 ?_
  refine RT.sld (pc := 630) (v := x 1) dL_law_630 (hX 1 (by decide)) ?_
  refine RT.cV (pc := 631) (M' := M_X12_verdict) (ci := 12) (x := 248) (As := [(0, (x 1))]) (st := [(0, p.1)]) (r := some (0, q.1)) (mem1 := q.2) (d' := d - 1) dL_law_631 mw_X12_verdict ml_L_83 mi_X12_verdict rfl (Nat.le_of_ble_eq_true rfl) rfl rfl (Nat.le_of_ble_eq_true rfl) (Nat.le_of_ble_eq_true rfl) (by omega) (lc_room hk).1 (lc_room hk).2 (c_X12_verdict (z := (301, k)) (Nat.le_of_ble_eq_true rfl) (by omega) 248 ((x 1)) p.2 _ rfl hq) ?_
  refine RT.icmp_eq (pc := 634) (tgt := 1363) dL_law_634 rfl (fun _ => ?_) (fun z => absurd e.symm z)
  exact K q.2 hI1
theorem lc_639 {G : rt_G} {Q : rt_P} {d n k : Nat} {mem : rt_M} (hd : 2048 ≤ d) (hk : k ≤ 512) (i : Int) (x : Nat → Int) (hX : lc_X G i x) (hI : rq_I n mem) (hc : n < 800000) (K : ∀ mem1, rq_I (n + 1) mem1 → RT G M_law d (41, 0) Q 1363 (lc_L i) [] (301, k) mem1) : RT G M_law d (41, 0) Q 639 (lc_L i) [] (301, k) mem := by
  obtain ⟨p, hp, q, hq, e, hI1⟩ := L_fill hI hc ((x 1)) ((x 2))
  refine RT.aload_n (pc := 639) (k := 1) (x := 41) dL_law_639 rfl ?_
  refine RT.aload_n (pc := 640) (k := 0) (x := 40) dL_law_640 rfl ?_
  refine RT.iload (pc := 641) (k := 4) (x := i) dL_law_641 rfl ?_
  refine RT.iconst (pc := 643) (n := 1) dL_law_643 ⟨by decide, by decide⟩ ?_
  refine RT.iadd (pc := 644) dL_law_644 ?_
  refine RT.sld (pc := 645) (v := x 1) dL_law_645 (hX 1 (by decide)) ?_
  refine RT.aload_n (pc := 646) (k := 0) (x := 40) dL_law_646 rfl ?_
  refine RT.iload (pc := 647) (k := 4) (x := i) dL_law_647 rfl ?_
  refine RT.iconst (pc := 649) (n := 2) dL_law_649 ⟨by decide, by decide⟩ ?_
  refine RT.iadd (pc := 650) dL_law_650 ?_
  refine RT.sld (pc := 651) (v := x 2) dL_law_651 (hX 2 (by decide)) ?_
  refine RT.cV (pc := 652) (M' := M_X11_fill) (ci := 11) (x := 41) (As := [(0, (x 1)), (0, (x 2))]) (st := []) (r := some (0, p.1)) (mem1 := p.2) (d' := d - 1) dL_law_652 mw_X11_fill ml_L_84 mi_X11_fill rfl (Nat.le_of_ble_eq_true rfl) rfl rfl (Nat.le_of_ble_eq_true rfl) (Nat.le_of_ble_eq_true rfl) (by omega) (lc_room hk).1 (lc_room hk).2 (c_X11_fill (z := (301, k)) (Nat.le_of_ble_eq_true rfl) (by omega) 41 ((x 1)) ((x 2)) mem _ rfl hp) ?_
  refine RT.aload_n (pc := 655) (k := 2) (x := 248) dL_law_655 rfl ?_
  refine RT.aload_n (pc := 656) (k := 0) (x := 40) dL_law_656 rfl ?_
  refine RT.iload (pc := 657) (k := 4) (x := i) dL_law_657 rfl ?_
  refine RT.iconst (pc := 659) (n := 1) dL_law_659 ⟨by decide, by decide⟩ ?_
  refine RT.iadd (pc := 660) dL_law_660 ?_
  refine RT.sld (pc := 661) (v := x 1) dL_law_661 (hX 1 (by decide)) ?_
  refine RT.aload_n (pc := 662) (k := 0) (x := 40) dL_law_662 rfl ?_
  refine RT.iload (pc := 663) (k := 4) (x := i) dL_law_663 rfl ?_
  refine RT.iconst (pc := 665) (n := 2) dL_law_665 ⟨by decide, by decide⟩ ?_
  refine RT.iadd (pc := 666) dL_law_666 ?_
  refine RT.sld (pc := 667) (v := x 2) dL_law_667 (hX 2 (by decide)) ?_
  refine RT.cV (pc := 668) (M' := M_X12_fill) (ci := 12) (x := 248) (As := [(0, (x 1)), (0, (x 2))]) (st := [(0, p.1)]) (r := some (0, q.1)) (mem1 := q.2) (d' := d - 1) dL_law_668 mw_X12_fill ml_L_87 mi_X12_fill rfl (Nat.le_of_ble_eq_true rfl) rfl rfl (Nat.le_of_ble_eq_true rfl) (Nat.le_of_ble_eq_true rfl) (by omega) (lc_room hk).1 (lc_room hk).2 (c_X12_fill (z := (301, k)) (Nat.le_of_ble_eq_true rfl) (by omega) 248 ((x 1)) ((x 2)) p.2 _ rfl hq) ?_
  refine RT.icmp_eq (pc := 671) (tgt := 1363) dL_law_671 rfl (fun _ => ?_) (fun z => absurd e.symm z)
  exact K q.2 hI1
theorem lc_676 {G : rt_G} {Q : rt_P} {d n k : Nat} {mem : rt_M} (hd : 2048 ≤ d) (hk : k ≤ 512) (i : Int) (x : Nat → Int) (hX : lc_X G i x) (hI : rq_I n mem) (hc : n < 800000) (K : ∀ mem1, rq_I (n + 1) mem1 → RT G M_law d (41, 0) Q 1363 (lc_L i) [] (301, k) mem1) : RT G M_law d (41, 0) Q 676 (lc_L i) [] (301, k) mem := by
  by_cases hb : x 3 = 0
  · obtain ⟨p, hp, q, hq, e, hI1⟩ := L_say hI ((x 1)) ((x 2)) 0 (Or.inl rfl)
    refine RT.aload_n (pc := 676) (k := 1) (x := 41) dL_law_676 rfl ?_
    refine RT.aload_n (pc := 677) (k := 0) (x := 40) dL_law_677 rfl ?_
    refine RT.iload (pc := 678) (k := 4) (x := i) dL_law_678 rfl ?_
    refine RT.iconst (pc := 680) (n := 1) dL_law_680 ⟨by decide, by decide⟩ ?_
    refine RT.iadd (pc := 681) dL_law_681 ?_
    refine RT.sld (pc := 682) (v := x 1) dL_law_682 (hX 1 (by decide)) ?_
    refine RT.aload_n (pc := 683) (k := 0) (x := 40) dL_law_683 rfl ?_
    refine RT.iload (pc := 684) (k := 4) (x := i) dL_law_684 rfl ?_
    refine RT.iconst (pc := 686) (n := 2) dL_law_686 ⟨by decide, by decide⟩ ?_
    refine RT.iadd (pc := 687) dL_law_687 ?_
    refine RT.sld (pc := 688) (v := x 2) dL_law_688 (hX 2 (by decide)) ?_
    refine RT.aload_n (pc := 689) (k := 0) (x := 40) dL_law_689 rfl ?_
    refine RT.iload (pc := 690) (k := 4) (x := i) dL_law_690 rfl ?_
    refine RT.iconst (pc := 692) (n := 3) dL_law_692 ⟨by decide, by decide⟩ ?_
    refine RT.iadd (pc := 693) dL_law_693 ?_
    refine RT.sld (pc := 694) (v := x 3) dL_law_694 (hX 3 (by decide)) ?_
    refine RT.if_eq (pc := 695) (tgt := 702) dL_law_695 rfl (fun _ => ?_) (fun q => absurd hb q)
    refine RT.iconst (pc := 702) (n := 0) dL_law_702 ⟨by decide, by decide⟩ ?_
    refine RT.cV (pc := 703) (M' := M_X11_say) (ci := 11) (x := 41) (As := [(0, (x 1)), (0, (x 2)), (0, 0)]) (st := []) (r := some (0, p.1)) (mem1 := p.2) (d' := d - 1) dL_law_703 mw_X11_say ml_L_88 mi_X11_say rfl (Nat.le_of_ble_eq_true rfl) rfl rfl (Nat.le_of_ble_eq_true rfl) (Nat.le_of_ble_eq_true rfl) (by omega) (lc_room hk).1 (lc_room hk).2 (c_X11_say (z := (301, k)) (Nat.le_of_ble_eq_true rfl) (by omega) 41 ((x 1)) ((x 2)) 0 mem _ rfl hp) ?_
    refine RT.aload_n (pc := 706) (k := 2) (x := 248) dL_law_706 rfl ?_
    refine RT.aload_n (pc := 707) (k := 0) (x := 40) dL_law_707 rfl ?_
    refine RT.iload (pc := 708) (k := 4) (x := i) dL_law_708 rfl ?_
    refine RT.iconst (pc := 710) (n := 1) dL_law_710 ⟨by decide, by decide⟩ ?_
    refine RT.iadd (pc := 711) dL_law_711 ?_
    refine RT.sld (pc := 712) (v := x 1) dL_law_712 (hX 1 (by decide)) ?_
    refine RT.aload_n (pc := 713) (k := 0) (x := 40) dL_law_713 rfl ?_
    refine RT.iload (pc := 714) (k := 4) (x := i) dL_law_714 rfl ?_
    refine RT.iconst (pc := 716) (n := 2) dL_law_716 ⟨by decide, by decide⟩ ?_
    refine RT.iadd (pc := 717) dL_law_717 ?_
    refine RT.sld (pc := 718) (v := x 2) dL_law_718 (hX 2 (by decide)) ?_
    refine RT.aload_n (pc := 719) (k := 0) (x := 40) dL_law_719 rfl ?_
    refine RT.iload (pc := 720) (k := 4) (x := i) dL_law_720 rfl ?_
    refine RT.iconst (pc := 722) (n := 3) dL_law_722 ⟨by decide, by decide⟩ ?_
    refine RT.iadd (pc := 723) dL_law_723 ?_
    refine RT.sld (pc := 724) (v := x 3) dL_law_724 (hX 3 (by decide)) ?_
    refine RT.if_eq (pc := 725) (tgt := 732) dL_law_725 rfl (fun _ => ?_) (fun q => absurd hb q)
    refine RT.iconst (pc := 732) (n := 0) dL_law_732 ⟨by decide, by decide⟩ ?_
    refine RT.cV (pc := 733) (M' := M_X12_say) (ci := 12) (x := 248) (As := [(0, (x 1)), (0, (x 2)), (0, 0)]) (st := [(0, p.1)]) (r := some (0, q.1)) (mem1 := q.2) (d' := d - 1) dL_law_733 mw_X12_say ml_L_92 mi_X12_say rfl (Nat.le_of_ble_eq_true rfl) rfl rfl (Nat.le_of_ble_eq_true rfl) (Nat.le_of_ble_eq_true rfl) (by omega) (lc_room hk).1 (lc_room hk).2 (c_X12_say (z := (301, k)) (Nat.le_of_ble_eq_true rfl) (by omega) 248 ((x 1)) ((x 2)) 0 p.2 _ rfl hq) ?_
    refine RT.icmp_eq (pc := 736) (tgt := 1363) dL_law_736 rfl (fun _ => ?_) (fun z => absurd e.symm z)
    exact K q.2 hI1
  · obtain ⟨p, hp, q, hq, e, hI1⟩ := L_say hI ((x 1)) ((x 2)) 1 (Or.inr rfl)
    refine RT.aload_n (pc := 676) (k := 1) (x := 41) dL_law_676 rfl ?_
    refine RT.aload_n (pc := 677) (k := 0) (x := 40) dL_law_677 rfl ?_
    refine RT.iload (pc := 678) (k := 4) (x := i) dL_law_678 rfl ?_
    refine RT.iconst (pc := 680) (n := 1) dL_law_680 ⟨by decide, by decide⟩ ?_
    refine RT.iadd (pc := 681) dL_law_681 ?_
    refine RT.sld (pc := 682) (v := x 1) dL_law_682 (hX 1 (by decide)) ?_
    refine RT.aload_n (pc := 683) (k := 0) (x := 40) dL_law_683 rfl ?_
    refine RT.iload (pc := 684) (k := 4) (x := i) dL_law_684 rfl ?_
    refine RT.iconst (pc := 686) (n := 2) dL_law_686 ⟨by decide, by decide⟩ ?_
    refine RT.iadd (pc := 687) dL_law_687 ?_
    refine RT.sld (pc := 688) (v := x 2) dL_law_688 (hX 2 (by decide)) ?_
    refine RT.aload_n (pc := 689) (k := 0) (x := 40) dL_law_689 rfl ?_
    refine RT.iload (pc := 690) (k := 4) (x := i) dL_law_690 rfl ?_
    refine RT.iconst (pc := 692) (n := 3) dL_law_692 ⟨by decide, by decide⟩ ?_
    refine RT.iadd (pc := 693) dL_law_693 ?_
    refine RT.sld (pc := 694) (v := x 3) dL_law_694 (hX 3 (by decide)) ?_
    refine RT.if_eq (pc := 695) (tgt := 702) dL_law_695 rfl (fun q => absurd q hb) (fun _ => ?_)
    refine RT.iconst (pc := 698) (n := 1) dL_law_698 ⟨by decide, by decide⟩ ?_
    refine RT.goto (pc := 699) (tgt := 703) dL_law_699 rfl ?_
    refine RT.cV (pc := 703) (M' := M_X11_say) (ci := 11) (x := 41) (As := [(0, (x 1)), (0, (x 2)), (0, 1)]) (st := []) (r := some (0, p.1)) (mem1 := p.2) (d' := d - 1) dL_law_703 mw_X11_say ml_L_88 mi_X11_say rfl (Nat.le_of_ble_eq_true rfl) rfl rfl (Nat.le_of_ble_eq_true rfl) (Nat.le_of_ble_eq_true rfl) (by omega) (lc_room hk).1 (lc_room hk).2 (c_X11_say (z := (301, k)) (Nat.le_of_ble_eq_true rfl) (by omega) 41 ((x 1)) ((x 2)) 1 mem _ rfl hp) ?_
    refine RT.aload_n (pc := 706) (k := 2) (x := 248) dL_law_706 rfl ?_
    refine RT.aload_n (pc := 707) (k := 0) (x := 40) dL_law_707 rfl ?_
    refine RT.iload (pc := 708) (k := 4) (x := i) dL_law_708 rfl ?_
    refine RT.iconst (pc := 710) (n := 1) dL_law_710 ⟨by decide, by decide⟩ ?_
    refine RT.iadd (pc := 711) dL_law_711 ?_
    refine RT.sld (pc := 712) (v := x 1) dL_law_712 (hX 1 (by decide)) ?_
    refine RT.aload_n (pc := 713) (k := 0) (x := 40) dL_law_713 rfl ?_
    refine RT.iload (pc := 714) (k := 4) (x := i) dL_law_714 rfl ?_
    refine RT.iconst (pc := 716) (n := 2) dL_law_716 ⟨by decide, by decide⟩ ?_
    refine RT.iadd (pc := 717) dL_law_717 ?_
    refine RT.sld (pc := 718) (v := x 2) dL_law_718 (hX 2 (by decide)) ?_
    refine RT.aload_n (pc := 719) (k := 0) (x := 40) dL_law_719 rfl ?_
    refine RT.iload (pc := 720) (k := 4) (x := i) dL_law_720 rfl ?_
    refine RT.iconst (pc := 722) (n := 3) dL_law_722 ⟨by decide, by decide⟩ ?_
    refine RT.iadd (pc := 723) dL_law_723 ?_
    refine RT.sld (pc := 724) (v := x 3) dL_law_724 (hX 3 (by decide)) ?_
    refine RT.if_eq (pc := 725) (tgt := 732) dL_law_725 rfl (fun q => absurd q hb) (fun _ => ?_)
    refine RT.iconst (pc := 728) (n := 1) dL_law_728 ⟨by decide, by decide⟩ ?_
    refine RT.goto (pc := 729) (tgt := 733) dL_law_729 rfl ?_
    refine RT.cV (pc := 733) (M' := M_X12_say) (ci := 12) (x := 248) (As := [(0, (x 1)), (0, (x 2)), (0, 1)]) (st := [(0, p.1)]) (r := some (0, q.1)) (mem1 := q.2) (d' := d - 1) dL_law_733 mw_X12_say ml_L_92 mi_X12_say rfl (Nat.le_of_ble_eq_true rfl) rfl rfl (Nat.le_of_ble_eq_true rfl) (Nat.le_of_ble_eq_true rfl) (by omega) (lc_room hk).1 (lc_room hk).2 (c_X12_say (z := (301, k)) (Nat.le_of_ble_eq_true rfl) (by omega) 248 ((x 1)) ((x 2)) 1 p.2 _ rfl hq) ?_
    refine RT.icmp_eq (pc := 736) (tgt := 1363) dL_law_736 rfl (fun _ => ?_) (fun z => absurd e.symm z)
    exact K q.2 hI1
theorem lc_741 {G : rt_G} {Q : rt_P} {d n k : Nat} {mem : rt_M} (hd : 2048 ≤ d) (hk : k ≤ 512) (i : Int) (x : Nat → Int) (hX : lc_X G i x) (hI : rq_I n mem) (hc : n < 800000) (K : ∀ mem1, rq_I (n + 1) mem1 → RT G M_law d (41, 0) Q 1363 (lc_L i) [] (301, k) mem1) : RT G M_law d (41, 0) Q 741 (lc_L i) [] (301, k) mem := by
  obtain ⟨p, hp, q, hq, e, hI1⟩ := L_leans hI ((x 1))
  refine RT.aload_n (pc := 741) (k := 1) (x := 41) dL_law_741 rfl ?_
  refine RT.aload_n (pc := 742) (k := 0) (x := 40) dL_law_742 rfl ?_
  refine RT.iload (pc := 743) (k := 4) (x := i) dL_law_743 rfl ?_
  refine RT.iconst (pc := 745) (n := 1) dL_law_745 ⟨by decide, by decide⟩ ?_
  refine RT.iadd (pc := 746) dL_law_746 ?_
  refine RT.sld (pc := 747) (v := x 1) dL_law_747 (hX 1 (by decide)) ?_
  refine RT.cV (pc := 748) (M' := M_X11_leans) (ci := 11) (x := 41) (As := [(0, (x 1))]) (st := []) (r := some (0, p.1)) (mem1 := p.2) (d' := d - 1) dL_law_748 mw_X11_leans ml_L_93 mi_X11_leans rfl (Nat.le_of_ble_eq_true rfl) rfl rfl (Nat.le_of_ble_eq_true rfl) (Nat.le_of_ble_eq_true rfl) (by omega) (lc_room hk).1 (lc_room hk).2 (c_X11_leans (z := (301, k)) (Nat.le_of_ble_eq_true rfl) (by omega) 41 ((x 1)) mem _ rfl hp) ?_
  refine RT.aload_n (pc := 751) (k := 2) (x := 248) dL_law_751 rfl ?_
  refine RT.aload_n (pc := 752) (k := 0) (x := 40) dL_law_752 rfl ?_
  refine RT.iload (pc := 753) (k := 4) (x := i) dL_law_753 rfl ?_
  refine RT.iconst (pc := 755) (n := 1) dL_law_755 ⟨by decide, by decide⟩ ?_
  refine RT.iadd (pc := 756) dL_law_756 ?_
  refine RT.sld (pc := 757) (v := x 1) dL_law_757 (hX 1 (by decide)) ?_
  refine RT.cV (pc := 758) (M' := M_X12_leans) (ci := 12) (x := 248) (As := [(0, (x 1))]) (st := [(0, p.1)]) (r := some (0, q.1)) (mem1 := q.2) (d' := d - 1) dL_law_758 mw_X12_leans ml_L_96 mi_X12_leans rfl (Nat.le_of_ble_eq_true rfl) rfl rfl (Nat.le_of_ble_eq_true rfl) (Nat.le_of_ble_eq_true rfl) (by omega) (lc_room hk).1 (lc_room hk).2 (c_X12_leans (z := (301, k)) (Nat.le_of_ble_eq_true rfl) (by omega) 248 ((x 1)) p.2 _ rfl hq) ?_
  refine RT.icmp_eq (pc := 761) (tgt := 1363) dL_law_761 rfl (fun _ => ?_) (fun z => absurd e.symm z)
  exact K q.2 hI1
theorem lc_766 {G : rt_G} {Q : rt_P} {d n k : Nat} {mem : rt_M} (hd : 2048 ≤ d) (hk : k ≤ 512) (i : Int) (x : Nat → Int) (hX : lc_X G i x) (hI : rq_I n mem) (hc : n < 800000) (K : ∀ mem1, rq_I (n + 1) mem1 → RT G M_law d (41, 0) Q 1363 (lc_L i) [] (301, k) mem1) : RT G M_law d (41, 0) Q 766 (lc_L i) [] (301, k) mem := by
  obtain ⟨p, hp, q, hq, e, hI1⟩ := L_next hI ((x 1))
  refine RT.aload_n (pc := 766) (k := 1) (x := 41) dL_law_766 rfl ?_
  refine RT.aload_n (pc := 767) (k := 0) (x := 40) dL_law_767 rfl ?_
  refine RT.iload (pc := 768) (k := 4) (x := i) dL_law_768 rfl ?_
  refine RT.iconst (pc := 770) (n := 1) dL_law_770 ⟨by decide, by decide⟩ ?_
  refine RT.iadd (pc := 771) dL_law_771 ?_
  refine RT.sld (pc := 772) (v := x 1) dL_law_772 (hX 1 (by decide)) ?_
  refine RT.cV (pc := 773) (M' := M_X11_next) (ci := 11) (x := 41) (As := [(0, (x 1))]) (st := []) (r := some (0, p.1)) (mem1 := p.2) (d' := d - 1) dL_law_773 mw_X11_next ml_L_97 mi_X11_next rfl (Nat.le_of_ble_eq_true rfl) rfl rfl (Nat.le_of_ble_eq_true rfl) (Nat.le_of_ble_eq_true rfl) (by omega) (lc_room hk).1 (lc_room hk).2 (c_X11_next (z := (301, k)) (Nat.le_of_ble_eq_true rfl) (by omega) 41 ((x 1)) mem _ rfl hp) ?_
  refine RT.aload_n (pc := 776) (k := 2) (x := 248) dL_law_776 rfl ?_
  refine RT.aload_n (pc := 777) (k := 0) (x := 40) dL_law_777 rfl ?_
  refine RT.iload (pc := 778) (k := 4) (x := i) dL_law_778 rfl ?_
  refine RT.iconst (pc := 780) (n := 1) dL_law_780 ⟨by decide, by decide⟩ ?_
  refine RT.iadd (pc := 781) dL_law_781 ?_
  refine RT.sld (pc := 782) (v := x 1) dL_law_782 (hX 1 (by decide)) ?_
  refine RT.cV (pc := 783) (M' := M_X12_next) (ci := 12) (x := 248) (As := [(0, (x 1))]) (st := [(0, p.1)]) (r := some (0, q.1)) (mem1 := q.2) (d' := d - 1) dL_law_783 mw_X12_next ml_L_100 mi_X12_next rfl (Nat.le_of_ble_eq_true rfl) rfl rfl (Nat.le_of_ble_eq_true rfl) (Nat.le_of_ble_eq_true rfl) (by omega) (lc_room hk).1 (lc_room hk).2 (c_X12_next (z := (301, k)) (Nat.le_of_ble_eq_true rfl) (by omega) 248 ((x 1)) p.2 _ rfl hq) ?_
  refine RT.icmp_eq (pc := 786) (tgt := 1363) dL_law_786 rfl (fun _ => ?_) (fun z => absurd e.symm z)
  exact K q.2 hI1
theorem lc_791 {G : rt_G} {Q : rt_P} {d n k : Nat} {mem : rt_M} (hd : 2048 ≤ d) (hk : k ≤ 512) (i : Int) (x : Nat → Int) (hX : lc_X G i x) (hI : rq_I n mem) (hc : n < 800000) (K : ∀ mem1, rq_I (n + 1) mem1 → RT G M_law d (41, 0) Q 1363 (lc_L i) [] (301, k) mem1) : RT G M_law d (41, 0) Q 791 (lc_L i) [] (301, k) mem := by
  obtain ⟨p, hp, q, hq, e, hI1⟩ := L_baths hI hc ((x 1)) ((x 2)) ((x 3))
  refine RT.aload_n (pc := 791) (k := 1) (x := 41) dL_law_791 rfl ?_
  refine RT.aload_n (pc := 792) (k := 0) (x := 40) dL_law_792 rfl ?_
  refine RT.iload (pc := 793) (k := 4) (x := i) dL_law_793 rfl ?_
  refine RT.iconst (pc := 795) (n := 1) dL_law_795 ⟨by decide, by decide⟩ ?_
  refine RT.iadd (pc := 796) dL_law_796 ?_
  refine RT.sld (pc := 797) (v := x 1) dL_law_797 (hX 1 (by decide)) ?_
  refine RT.aload_n (pc := 798) (k := 0) (x := 40) dL_law_798 rfl ?_
  refine RT.iload (pc := 799) (k := 4) (x := i) dL_law_799 rfl ?_
  refine RT.iconst (pc := 801) (n := 2) dL_law_801 ⟨by decide, by decide⟩ ?_
  refine RT.iadd (pc := 802) dL_law_802 ?_
  refine RT.sld (pc := 803) (v := x 2) dL_law_803 (hX 2 (by decide)) ?_
  refine RT.aload_n (pc := 804) (k := 0) (x := 40) dL_law_804 rfl ?_
  refine RT.iload (pc := 805) (k := 4) (x := i) dL_law_805 rfl ?_
  refine RT.iconst (pc := 807) (n := 3) dL_law_807 ⟨by decide, by decide⟩ ?_
  refine RT.iadd (pc := 808) dL_law_808 ?_
  refine RT.sld (pc := 809) (v := x 3) dL_law_809 (hX 3 (by decide)) ?_
  refine RT.cV (pc := 810) (M' := M_X11_baths) (ci := 11) (x := 41) (As := [(0, (x 1)), (0, (x 2)), (0, (x 3))]) (st := []) (r := some (0, p.1)) (mem1 := p.2) (d' := d - 1) dL_law_810 mw_X11_baths ml_L_101 mi_X11_baths rfl (Nat.le_of_ble_eq_true rfl) rfl rfl (Nat.le_of_ble_eq_true rfl) (Nat.le_of_ble_eq_true rfl) (by omega) (lc_room hk).1 (lc_room hk).2 (c_X11_baths (z := (301, k)) (Nat.le_of_ble_eq_true rfl) (by omega) 41 ((x 1)) ((x 2)) ((x 3)) mem _ rfl hp) ?_
  refine RT.aload_n (pc := 813) (k := 2) (x := 248) dL_law_813 rfl ?_
  refine RT.aload_n (pc := 814) (k := 0) (x := 40) dL_law_814 rfl ?_
  refine RT.iload (pc := 815) (k := 4) (x := i) dL_law_815 rfl ?_
  refine RT.iconst (pc := 817) (n := 1) dL_law_817 ⟨by decide, by decide⟩ ?_
  refine RT.iadd (pc := 818) dL_law_818 ?_
  refine RT.sld (pc := 819) (v := x 1) dL_law_819 (hX 1 (by decide)) ?_
  refine RT.aload_n (pc := 820) (k := 0) (x := 40) dL_law_820 rfl ?_
  refine RT.iload (pc := 821) (k := 4) (x := i) dL_law_821 rfl ?_
  refine RT.iconst (pc := 823) (n := 2) dL_law_823 ⟨by decide, by decide⟩ ?_
  refine RT.iadd (pc := 824) dL_law_824 ?_
  refine RT.sld (pc := 825) (v := x 2) dL_law_825 (hX 2 (by decide)) ?_
  refine RT.aload_n (pc := 826) (k := 0) (x := 40) dL_law_826 rfl ?_
  refine RT.iload (pc := 827) (k := 4) (x := i) dL_law_827 rfl ?_
  refine RT.iconst (pc := 829) (n := 3) dL_law_829 ⟨by decide, by decide⟩ ?_
  refine RT.iadd (pc := 830) dL_law_830 ?_
  refine RT.sld (pc := 831) (v := x 3) dL_law_831 (hX 3 (by decide)) ?_
  refine RT.cV (pc := 832) (M' := M_X12_baths) (ci := 12) (x := 248) (As := [(0, (x 1)), (0, (x 2)), (0, (x 3))]) (st := [(0, p.1)]) (r := some (0, q.1)) (mem1 := q.2) (d' := d - 1) dL_law_832 mw_X12_baths ml_L_104 mi_X12_baths rfl (Nat.le_of_ble_eq_true rfl) rfl rfl (Nat.le_of_ble_eq_true rfl) (Nat.le_of_ble_eq_true rfl) (by omega) (lc_room hk).1 (lc_room hk).2 (c_X12_baths (z := (301, k)) (Nat.le_of_ble_eq_true rfl) (by omega) 248 ((x 1)) ((x 2)) ((x 3)) p.2 _ rfl hq) ?_
  refine RT.icmp_eq (pc := 835) (tgt := 1363) dL_law_835 rfl (fun _ => ?_) (fun z => absurd e.symm z)
  exact K q.2 hI1
theorem lc_840 {G : rt_G} {Q : rt_P} {d n k : Nat} {mem : rt_M} (hd : 2048 ≤ d) (hk : k ≤ 512) (i : Int) (x : Nat → Int) (hX : lc_X G i x) (hI : rq_I n mem) (hc : n < 800000) (K : ∀ mem1, rq_I (n + 1) mem1 → RT G M_law d (41, 0) Q 1363 (lc_L i) [] (301, k) mem1) : RT G M_law d (41, 0) Q 840 (lc_L i) [] (301, k) mem := by
  obtain ⟨p, hp, q, hq, e, hI1⟩ := L_keeps hI hc ((x 1))
  refine RT.aload_n (pc := 840) (k := 1) (x := 41) dL_law_840 rfl ?_
  refine RT.aload_n (pc := 841) (k := 0) (x := 40) dL_law_841 rfl ?_
  refine RT.iload (pc := 842) (k := 4) (x := i) dL_law_842 rfl ?_
  refine RT.iconst (pc := 844) (n := 1) dL_law_844 ⟨by decide, by decide⟩ ?_
  refine RT.iadd (pc := 845) dL_law_845 ?_
  refine RT.sld (pc := 846) (v := x 1) dL_law_846 (hX 1 (by decide)) ?_
  refine RT.cV (pc := 847) (M' := M_X11_keeps) (ci := 11) (x := 41) (As := [(0, (x 1))]) (st := []) (r := some (0, p.1)) (mem1 := p.2) (d' := d - 1) dL_law_847 mw_X11_keeps ml_L_105 mi_X11_keeps rfl (Nat.le_of_ble_eq_true rfl) rfl rfl (Nat.le_of_ble_eq_true rfl) (Nat.le_of_ble_eq_true rfl) (by omega) (lc_room hk).1 (lc_room hk).2 (c_X11_keeps (z := (301, k)) (Nat.le_of_ble_eq_true rfl) (by omega) 41 ((x 1)) mem _ rfl hp) ?_
  refine RT.aload_n (pc := 850) (k := 2) (x := 248) dL_law_850 rfl ?_
  refine RT.aload_n (pc := 851) (k := 0) (x := 40) dL_law_851 rfl ?_
  refine RT.iload (pc := 852) (k := 4) (x := i) dL_law_852 rfl ?_
  refine RT.iconst (pc := 854) (n := 1) dL_law_854 ⟨by decide, by decide⟩ ?_
  refine RT.iadd (pc := 855) dL_law_855 ?_
  refine RT.sld (pc := 856) (v := x 1) dL_law_856 (hX 1 (by decide)) ?_
  refine RT.cV (pc := 857) (M' := M_X12_keeps) (ci := 12) (x := 248) (As := [(0, (x 1))]) (st := [(0, p.1)]) (r := some (0, q.1)) (mem1 := q.2) (d' := d - 1) dL_law_857 mw_X12_keeps ml_L_108 mi_X12_keeps rfl (Nat.le_of_ble_eq_true rfl) rfl rfl (Nat.le_of_ble_eq_true rfl) (Nat.le_of_ble_eq_true rfl) (by omega) (lc_room hk).1 (lc_room hk).2 (c_X12_keeps (z := (301, k)) (Nat.le_of_ble_eq_true rfl) (by omega) 248 ((x 1)) p.2 _ rfl hq) ?_
  refine RT.icmp_eq (pc := 860) (tgt := 1363) dL_law_860 rfl (fun _ => ?_) (fun z => absurd e.symm z)
  exact K q.2 hI1
theorem lc_865 {G : rt_G} {Q : rt_P} {d n k : Nat} {mem : rt_M} (hd : 2048 ≤ d) (hk : k ≤ 512) (i : Int) (x : Nat → Int) (hX : lc_X G i x) (hI : rq_I n mem) (hc : n < 800000) (K : ∀ mem1, rq_I (n + 1) mem1 → RT G M_law d (41, 0) Q 1363 (lc_L i) [] (301, k) mem1) : RT G M_law d (41, 0) Q 865 (lc_L i) [] (301, k) mem := by
  obtain ⟨p, hp, q, hq, e, hI1⟩ := L_moths hI hc ((x 1)) ((x 2))
  refine RT.aload_n (pc := 865) (k := 1) (x := 41) dL_law_865 rfl ?_
  refine RT.aload_n (pc := 866) (k := 0) (x := 40) dL_law_866 rfl ?_
  refine RT.iload (pc := 867) (k := 4) (x := i) dL_law_867 rfl ?_
  refine RT.iconst (pc := 869) (n := 1) dL_law_869 ⟨by decide, by decide⟩ ?_
  refine RT.iadd (pc := 870) dL_law_870 ?_
  refine RT.sld (pc := 871) (v := x 1) dL_law_871 (hX 1 (by decide)) ?_
  refine RT.aload_n (pc := 872) (k := 0) (x := 40) dL_law_872 rfl ?_
  refine RT.iload (pc := 873) (k := 4) (x := i) dL_law_873 rfl ?_
  refine RT.iconst (pc := 875) (n := 2) dL_law_875 ⟨by decide, by decide⟩ ?_
  refine RT.iadd (pc := 876) dL_law_876 ?_
  refine RT.sld (pc := 877) (v := x 2) dL_law_877 (hX 2 (by decide)) ?_
  refine RT.cV (pc := 878) (M' := M_X11_moths) (ci := 11) (x := 41) (As := [(0, (x 1)), (0, (x 2))]) (st := []) (r := some (0, p.1)) (mem1 := p.2) (d' := d - 1) dL_law_878 mw_X11_moths ml_L_109 mi_X11_moths rfl (Nat.le_of_ble_eq_true rfl) rfl rfl (Nat.le_of_ble_eq_true rfl) (Nat.le_of_ble_eq_true rfl) (by omega) (lc_room hk).1 (lc_room hk).2 (c_X11_moths (z := (301, k)) (Nat.le_of_ble_eq_true rfl) (by omega) 41 ((x 1)) ((x 2)) mem _ rfl hp) ?_
  refine RT.aload_n (pc := 881) (k := 2) (x := 248) dL_law_881 rfl ?_
  refine RT.aload_n (pc := 882) (k := 0) (x := 40) dL_law_882 rfl ?_
  refine RT.iload (pc := 883) (k := 4) (x := i) dL_law_883 rfl ?_
  refine RT.iconst (pc := 885) (n := 1) dL_law_885 ⟨by decide, by decide⟩ ?_
  refine RT.iadd (pc := 886) dL_law_886 ?_
  refine RT.sld (pc := 887) (v := x 1) dL_law_887 (hX 1 (by decide)) ?_
  refine RT.aload_n (pc := 888) (k := 0) (x := 40) dL_law_888 rfl ?_
  refine RT.iload (pc := 889) (k := 4) (x := i) dL_law_889 rfl ?_
  refine RT.iconst (pc := 891) (n := 2) dL_law_891 ⟨by decide, by decide⟩ ?_
  refine RT.iadd (pc := 892) dL_law_892 ?_
  refine RT.sld (pc := 893) (v := x 2) dL_law_893 (hX 2 (by decide)) ?_
  refine RT.cV (pc := 894) (M' := M_X12_moths) (ci := 12) (x := 248) (As := [(0, (x 1)), (0, (x 2))]) (st := [(0, p.1)]) (r := some (0, q.1)) (mem1 := q.2) (d' := d - 1) dL_law_894 mw_X12_moths ml_L_112 mi_X12_moths rfl (Nat.le_of_ble_eq_true rfl) rfl rfl (Nat.le_of_ble_eq_true rfl) (Nat.le_of_ble_eq_true rfl) (by omega) (lc_room hk).1 (lc_room hk).2 (c_X12_moths (z := (301, k)) (Nat.le_of_ble_eq_true rfl) (by omega) 248 ((x 1)) ((x 2)) p.2 _ rfl hq) ?_
  refine RT.icmp_eq (pc := 897) (tgt := 1363) dL_law_897 rfl (fun _ => ?_) (fun z => absurd e.symm z)
  exact K q.2 hI1
theorem lc_902 {G : rt_G} {Q : rt_P} {d n k : Nat} {mem : rt_M} (hd : 2048 ≤ d) (hk : k ≤ 512) (i : Int) (x : Nat → Int) (hX : lc_X G i x) (hI : rq_I n mem) (hc : n < 800000) (K : ∀ mem1, rq_I (n + 1) mem1 → RT G M_law d (41, 0) Q 1363 (lc_L i) [] (301, k) mem1) : RT G M_law d (41, 0) Q 902 (lc_L i) [] (301, k) mem := by
  obtain ⟨p, hp, q, hq, e, hI1⟩ := L_tell hI ((x 1)) ((x 2))
  refine RT.aload_n (pc := 902) (k := 1) (x := 41) dL_law_902 rfl ?_
  refine RT.aload_n (pc := 903) (k := 0) (x := 40) dL_law_903 rfl ?_
  refine RT.iload (pc := 904) (k := 4) (x := i) dL_law_904 rfl ?_
  refine RT.iconst (pc := 906) (n := 1) dL_law_906 ⟨by decide, by decide⟩ ?_
  refine RT.iadd (pc := 907) dL_law_907 ?_
  refine RT.sld (pc := 908) (v := x 1) dL_law_908 (hX 1 (by decide)) ?_
  refine RT.aload_n (pc := 909) (k := 0) (x := 40) dL_law_909 rfl ?_
  refine RT.iload (pc := 910) (k := 4) (x := i) dL_law_910 rfl ?_
  refine RT.iconst (pc := 912) (n := 2) dL_law_912 ⟨by decide, by decide⟩ ?_
  refine RT.iadd (pc := 913) dL_law_913 ?_
  refine RT.sld (pc := 914) (v := x 2) dL_law_914 (hX 2 (by decide)) ?_
  refine RT.cV (pc := 915) (M' := M_X11_tell) (ci := 11) (x := 41) (As := [(0, (x 1)), (0, (x 2))]) (st := []) (r := some (0, p.1)) (mem1 := p.2) (d' := d - 1) dL_law_915 mw_X11_tell ml_L_113 mi_X11_tell rfl (Nat.le_of_ble_eq_true rfl) rfl rfl (Nat.le_of_ble_eq_true rfl) (Nat.le_of_ble_eq_true rfl) (by omega) (lc_room hk).1 (lc_room hk).2 (c_X11_tell (z := (301, k)) (Nat.le_of_ble_eq_true rfl) (by omega) 41 ((x 1)) ((x 2)) mem _ rfl hp) ?_
  refine RT.aload_n (pc := 918) (k := 2) (x := 248) dL_law_918 rfl ?_
  refine RT.aload_n (pc := 919) (k := 0) (x := 40) dL_law_919 rfl ?_
  refine RT.iload (pc := 920) (k := 4) (x := i) dL_law_920 rfl ?_
  refine RT.iconst (pc := 922) (n := 1) dL_law_922 ⟨by decide, by decide⟩ ?_
  refine RT.iadd (pc := 923) dL_law_923 ?_
  refine RT.sld (pc := 924) (v := x 1) dL_law_924 (hX 1 (by decide)) ?_
  refine RT.aload_n (pc := 925) (k := 0) (x := 40) dL_law_925 rfl ?_
  refine RT.iload (pc := 926) (k := 4) (x := i) dL_law_926 rfl ?_
  refine RT.iconst (pc := 928) (n := 2) dL_law_928 ⟨by decide, by decide⟩ ?_
  refine RT.iadd (pc := 929) dL_law_929 ?_
  refine RT.sld (pc := 930) (v := x 2) dL_law_930 (hX 2 (by decide)) ?_
  refine RT.cV (pc := 931) (M' := M_X12_tell) (ci := 12) (x := 248) (As := [(0, (x 1)), (0, (x 2))]) (st := [(0, p.1)]) (r := some (0, q.1)) (mem1 := q.2) (d' := d - 1) dL_law_931 mw_X12_tell ml_L_116 mi_X12_tell rfl (Nat.le_of_ble_eq_true rfl) rfl rfl (Nat.le_of_ble_eq_true rfl) (Nat.le_of_ble_eq_true rfl) (by omega) (lc_room hk).1 (lc_room hk).2 (c_X12_tell (z := (301, k)) (Nat.le_of_ble_eq_true rfl) (by omega) 248 ((x 1)) ((x 2)) p.2 _ rfl hq) ?_
  refine RT.icmp_eq (pc := 934) (tgt := 1363) dL_law_934 rfl (fun _ => ?_) (fun z => absurd e.symm z)
  exact K q.2 hI1
theorem lc_939 {G : rt_G} {Q : rt_P} {d n k : Nat} {mem : rt_M} (hd : 2048 ≤ d) (hk : k ≤ 512) (i : Int) (x : Nat → Int) (hX : lc_X G i x) (hI : rq_I n mem) (hc : n < 800000) (K : ∀ mem1, rq_I (n + 1) mem1 → RT G M_law d (41, 0) Q 1363 (lc_L i) [] (301, k) mem1) : RT G M_law d (41, 0) Q 939 (lc_L i) [] (301, k) mem := by
  obtain ⟨p, hp, q, hq, e, hI1⟩ := L_under hI ((x 1))
  refine RT.aload_n (pc := 939) (k := 1) (x := 41) dL_law_939 rfl ?_
  refine RT.aload_n (pc := 940) (k := 0) (x := 40) dL_law_940 rfl ?_
  refine RT.iload (pc := 941) (k := 4) (x := i) dL_law_941 rfl ?_
  refine RT.iconst (pc := 943) (n := 1) dL_law_943 ⟨by decide, by decide⟩ ?_
  refine RT.iadd (pc := 944) dL_law_944 ?_
  refine RT.sld (pc := 945) (v := x 1) dL_law_945 (hX 1 (by decide)) ?_
  refine RT.cV (pc := 946) (M' := M_X11_under) (ci := 11) (x := 41) (As := [(0, (x 1))]) (st := []) (r := some (0, p.1)) (mem1 := p.2) (d' := d - 1) dL_law_946 mw_X11_under ml_L_117 mi_X11_under rfl (Nat.le_of_ble_eq_true rfl) rfl rfl (Nat.le_of_ble_eq_true rfl) (Nat.le_of_ble_eq_true rfl) (by omega) (lc_room hk).1 (lc_room hk).2 (c_X11_under (z := (301, k)) (Nat.le_of_ble_eq_true rfl) (by omega) 41 ((x 1)) mem _ rfl hp) ?_
  refine RT.aload_n (pc := 949) (k := 2) (x := 248) dL_law_949 rfl ?_
  refine RT.aload_n (pc := 950) (k := 0) (x := 40) dL_law_950 rfl ?_
  refine RT.iload (pc := 951) (k := 4) (x := i) dL_law_951 rfl ?_
  refine RT.iconst (pc := 953) (n := 1) dL_law_953 ⟨by decide, by decide⟩ ?_
  refine RT.iadd (pc := 954) dL_law_954 ?_
  refine RT.sld (pc := 955) (v := x 1) dL_law_955 (hX 1 (by decide)) ?_
  refine RT.cV (pc := 956) (M' := M_X12_under) (ci := 12) (x := 248) (As := [(0, (x 1))]) (st := [(0, p.1)]) (r := some (0, q.1)) (mem1 := q.2) (d' := d - 1) dL_law_956 mw_X12_under ml_L_120 mi_X12_under rfl (Nat.le_of_ble_eq_true rfl) rfl rfl (Nat.le_of_ble_eq_true rfl) (Nat.le_of_ble_eq_true rfl) (by omega) (lc_room hk).1 (lc_room hk).2 (c_X12_under (z := (301, k)) (Nat.le_of_ble_eq_true rfl) (by omega) 248 ((x 1)) p.2 _ rfl hq) ?_
  refine RT.icmp_eq (pc := 959) (tgt := 1363) dL_law_959 rfl (fun _ => ?_) (fun z => absurd e.symm z)
  exact K q.2 hI1
theorem lc_964 {G : rt_G} {Q : rt_P} {d n k : Nat} {mem : rt_M} (hd : 2048 ≤ d) (hk : k ≤ 512) (i : Int) (x : Nat → Int) (hX : lc_X G i x) (hI : rq_I n mem) (hc : n < 800000) (K : ∀ mem1, rq_I (n + 1) mem1 → RT G M_law d (41, 0) Q 1363 (lc_L i) [] (301, k) mem1) : RT G M_law d (41, 0) Q 964 (lc_L i) [] (301, k) mem := by
  obtain ⟨p, hp, q, hq, e, hI1⟩ := L_ask hI 
  refine RT.aload_n (pc := 964) (k := 1) (x := 41) dL_law_964 rfl ?_
  refine RT.cV (pc := 965) (M' := M_X11_ask) (ci := 11) (x := 41) (As := []) (st := []) (r := some (0, p.1)) (mem1 := p.2) (d' := d - 1) dL_law_965 mw_X11_ask ml_L_121 mi_X11_ask rfl (Nat.le_of_ble_eq_true rfl) rfl rfl (Nat.le_of_ble_eq_true rfl) (Nat.le_of_ble_eq_true rfl) (by omega) (lc_room hk).1 (lc_room hk).2 (c_X11_ask (z := (301, k)) (Nat.le_of_ble_eq_true rfl) (by omega) 41 mem _ rfl hp) ?_
  refine RT.aload_n (pc := 968) (k := 2) (x := 248) dL_law_968 rfl ?_
  refine RT.cV (pc := 969) (M' := M_X12_ask) (ci := 12) (x := 248) (As := []) (st := [(0, p.1)]) (r := some (0, q.1)) (mem1 := q.2) (d' := d - 1) dL_law_969 mw_X12_ask ml_L_124 mi_X12_ask rfl (Nat.le_of_ble_eq_true rfl) rfl rfl (Nat.le_of_ble_eq_true rfl) (Nat.le_of_ble_eq_true rfl) (by omega) (lc_room hk).1 (lc_room hk).2 (c_X12_ask (z := (301, k)) (Nat.le_of_ble_eq_true rfl) (by omega) 248 p.2 _ rfl hq) ?_
  refine RT.icmp_eq (pc := 972) (tgt := 1363) dL_law_972 rfl (fun _ => ?_) (fun z => absurd e.symm z)
  exact K q.2 hI1
theorem lc_977 {G : rt_G} {Q : rt_P} {d n k : Nat} {mem : rt_M} (hd : 2048 ≤ d) (hk : k ≤ 512) (i : Int) (x : Nat → Int) (hX : lc_X G i x) (hI : rq_I n mem) (hc : n < 800000) (K : ∀ mem1, rq_I (n + 1) mem1 → RT G M_law d (41, 0) Q 1363 (lc_L i) [] (301, k) mem1) : RT G M_law d (41, 0) Q 977 (lc_L i) [] (301, k) mem := by
  obtain ⟨p, hp, q, hq, e, hI1⟩ := L_votes hI ((x 1))
  refine RT.aload_n (pc := 977) (k := 1) (x := 41) dL_law_977 rfl ?_
  refine RT.aload_n (pc := 978) (k := 0) (x := 40) dL_law_978 rfl ?_
  refine RT.iload (pc := 979) (k := 4) (x := i) dL_law_979 rfl ?_
  refine RT.iconst (pc := 981) (n := 1) dL_law_981 ⟨by decide, by decide⟩ ?_
  refine RT.iadd (pc := 982) dL_law_982 ?_
  refine RT.sld (pc := 983) (v := x 1) dL_law_983 (hX 1 (by decide)) ?_
  refine RT.cV (pc := 984) (M' := M_X11_votes) (ci := 11) (x := 41) (As := [(0, (x 1))]) (st := []) (r := some (0, p.1)) (mem1 := p.2) (d' := d - 1) dL_law_984 mw_X11_votes ml_L_125 mi_X11_votes rfl (Nat.le_of_ble_eq_true rfl) rfl rfl (Nat.le_of_ble_eq_true rfl) (Nat.le_of_ble_eq_true rfl) (by omega) (lc_room hk).1 (lc_room hk).2 (c_X11_votes (z := (301, k)) (Nat.le_of_ble_eq_true rfl) (by omega) 41 ((x 1)) mem _ rfl hp) ?_
  refine RT.aload_n (pc := 987) (k := 2) (x := 248) dL_law_987 rfl ?_
  refine RT.aload_n (pc := 988) (k := 0) (x := 40) dL_law_988 rfl ?_
  refine RT.iload (pc := 989) (k := 4) (x := i) dL_law_989 rfl ?_
  refine RT.iconst (pc := 991) (n := 1) dL_law_991 ⟨by decide, by decide⟩ ?_
  refine RT.iadd (pc := 992) dL_law_992 ?_
  refine RT.sld (pc := 993) (v := x 1) dL_law_993 (hX 1 (by decide)) ?_
  refine RT.cV (pc := 994) (M' := M_X12_votes) (ci := 12) (x := 248) (As := [(0, (x 1))]) (st := [(0, p.1)]) (r := some (0, q.1)) (mem1 := q.2) (d' := d - 1) dL_law_994 mw_X12_votes ml_L_128 mi_X12_votes rfl (Nat.le_of_ble_eq_true rfl) rfl rfl (Nat.le_of_ble_eq_true rfl) (Nat.le_of_ble_eq_true rfl) (by omega) (lc_room hk).1 (lc_room hk).2 (c_X12_votes (z := (301, k)) (Nat.le_of_ble_eq_true rfl) (by omega) 248 ((x 1)) p.2 _ rfl hq) ?_
  refine RT.icmp_eq (pc := 997) (tgt := 1363) dL_law_997 rfl (fun _ => ?_) (fun z => absurd e.symm z)
  exact K q.2 hI1
theorem lc_1002 {G : rt_G} {Q : rt_P} {d n k : Nat} {mem : rt_M} (hd : 2048 ≤ d) (hk : k ≤ 512) (i : Int) (x : Nat → Int) (hX : lc_X G i x) (hI : rq_I n mem) (hc : n < 800000) (K : ∀ mem1, rq_I (n + 1) mem1 → RT G M_law d (41, 0) Q 1363 (lc_L i) [] (301, k) mem1) : RT G M_law d (41, 0) Q 1002 (lc_L i) [] (301, k) mem := by
  obtain ⟨p, hp, q, hq, e, hI1⟩ := L_power hI ((x 1)) ((x 2))
  refine RT.aload_n (pc := 1002) (k := 1) (x := 41) dL_law_1002 rfl ?_
  refine RT.aload_n (pc := 1003) (k := 0) (x := 40) dL_law_1003 rfl ?_
  refine RT.iload (pc := 1004) (k := 4) (x := i) dL_law_1004 rfl ?_
  refine RT.iconst (pc := 1006) (n := 1) dL_law_1006 ⟨by decide, by decide⟩ ?_
  refine RT.iadd (pc := 1007) dL_law_1007 ?_
  refine RT.sld (pc := 1008) (v := x 1) dL_law_1008 (hX 1 (by decide)) ?_
  refine RT.aload_n (pc := 1009) (k := 0) (x := 40) dL_law_1009 rfl ?_
  refine RT.iload (pc := 1010) (k := 4) (x := i) dL_law_1010 rfl ?_
  refine RT.iconst (pc := 1012) (n := 2) dL_law_1012 ⟨by decide, by decide⟩ ?_
  refine RT.iadd (pc := 1013) dL_law_1013 ?_
  refine RT.sld (pc := 1014) (v := x 2) dL_law_1014 (hX 2 (by decide)) ?_
  refine RT.cV (pc := 1015) (M' := M_X11_power) (ci := 11) (x := 41) (As := [(0, (x 1)), (0, (x 2))]) (st := []) (r := some (0, p)) (mem1 := mem) (d' := d - 1) dL_law_1015 mw_X11_power ml_L_129 mi_X11_power rfl (Nat.le_of_ble_eq_true rfl) rfl rfl (Nat.le_of_ble_eq_true rfl) (Nat.le_of_ble_eq_true rfl) (by omega) (lc_room hk).1 (lc_room hk).2 (c_X11_power (z := (301, k)) (Nat.le_of_ble_eq_true rfl) (by omega) 41 ((x 1)) ((x 2)) mem _ rfl hp) ?_
  refine RT.aload_n (pc := 1018) (k := 2) (x := 248) dL_law_1018 rfl ?_
  refine RT.aload_n (pc := 1019) (k := 0) (x := 40) dL_law_1019 rfl ?_
  refine RT.iload (pc := 1020) (k := 4) (x := i) dL_law_1020 rfl ?_
  refine RT.iconst (pc := 1022) (n := 1) dL_law_1022 ⟨by decide, by decide⟩ ?_
  refine RT.iadd (pc := 1023) dL_law_1023 ?_
  refine RT.sld (pc := 1024) (v := x 1) dL_law_1024 (hX 1 (by decide)) ?_
  refine RT.aload_n (pc := 1025) (k := 0) (x := 40) dL_law_1025 rfl ?_
  refine RT.iload (pc := 1026) (k := 4) (x := i) dL_law_1026 rfl ?_
  refine RT.iconst (pc := 1028) (n := 2) dL_law_1028 ⟨by decide, by decide⟩ ?_
  refine RT.iadd (pc := 1029) dL_law_1029 ?_
  refine RT.sld (pc := 1030) (v := x 2) dL_law_1030 (hX 2 (by decide)) ?_
  refine RT.cV (pc := 1031) (M' := M_X12_power) (ci := 12) (x := 248) (As := [(0, (x 1)), (0, (x 2))]) (st := [(0, p)]) (r := some (0, q.1)) (mem1 := q.2) (d' := d - 1) dL_law_1031 mw_X12_power ml_L_132 mi_X12_power rfl (Nat.le_of_ble_eq_true rfl) rfl rfl (Nat.le_of_ble_eq_true rfl) (Nat.le_of_ble_eq_true rfl) (by omega) (lc_room hk).1 (lc_room hk).2 (c_X12_power (z := (301, k)) (Nat.le_of_ble_eq_true rfl) (by omega) 248 ((x 1)) ((x 2)) mem _ rfl hq) ?_
  refine RT.icmp_eq (pc := 1034) (tgt := 1363) dL_law_1034 rfl (fun _ => ?_) (fun z => absurd e.symm z)
  exact K q.2 hI1
theorem lc_1039 {G : rt_G} {Q : rt_P} {d n k : Nat} {mem : rt_M} (hd : 2048 ≤ d) (hk : k ≤ 512) (i : Int) (x : Nat → Int) (hX : lc_X G i x) (hI : rq_I n mem) (hc : n < 800000) (K : ∀ mem1, rq_I (n + 1) mem1 → RT G M_law d (41, 0) Q 1363 (lc_L i) [] (301, k) mem1) : RT G M_law d (41, 0) Q 1039 (lc_L i) [] (301, k) mem := by
  obtain ⟨p, hp, q, hq, e, hI1⟩ := L_match hI ((x 1))
  refine RT.aload_n (pc := 1039) (k := 1) (x := 41) dL_law_1039 rfl ?_
  refine RT.aload_n (pc := 1040) (k := 0) (x := 40) dL_law_1040 rfl ?_
  refine RT.iload (pc := 1041) (k := 4) (x := i) dL_law_1041 rfl ?_
  refine RT.iconst (pc := 1043) (n := 1) dL_law_1043 ⟨by decide, by decide⟩ ?_
  refine RT.iadd (pc := 1044) dL_law_1044 ?_
  refine RT.sld (pc := 1045) (v := x 1) dL_law_1045 (hX 1 (by decide)) ?_
  refine RT.cV (pc := 1046) (M' := M_X11_match) (ci := 11) (x := 41) (As := [(0, (x 1))]) (st := []) (r := some (0, p.1)) (mem1 := p.2) (d' := d - 1) dL_law_1046 mw_X11_match ml_L_133 mi_X11_match rfl (Nat.le_of_ble_eq_true rfl) rfl rfl (Nat.le_of_ble_eq_true rfl) (Nat.le_of_ble_eq_true rfl) (by omega) (lc_room hk).1 (lc_room hk).2 (c_X11_match (z := (301, k)) (Nat.le_of_ble_eq_true rfl) (by omega) 41 ((x 1)) mem _ rfl hp) ?_
  refine RT.aload_n (pc := 1049) (k := 2) (x := 248) dL_law_1049 rfl ?_
  refine RT.aload_n (pc := 1050) (k := 0) (x := 40) dL_law_1050 rfl ?_
  refine RT.iload (pc := 1051) (k := 4) (x := i) dL_law_1051 rfl ?_
  refine RT.iconst (pc := 1053) (n := 1) dL_law_1053 ⟨by decide, by decide⟩ ?_
  refine RT.iadd (pc := 1054) dL_law_1054 ?_
  refine RT.sld (pc := 1055) (v := x 1) dL_law_1055 (hX 1 (by decide)) ?_
  refine RT.cV (pc := 1056) (M' := M_X12_match) (ci := 12) (x := 248) (As := [(0, (x 1))]) (st := [(0, p.1)]) (r := some (0, q.1)) (mem1 := q.2) (d' := d - 1) dL_law_1056 mw_X12_match ml_L_136 mi_X12_match rfl (Nat.le_of_ble_eq_true rfl) rfl rfl (Nat.le_of_ble_eq_true rfl) (Nat.le_of_ble_eq_true rfl) (by omega) (lc_room hk).1 (lc_room hk).2 (c_X12_match (z := (301, k)) (Nat.le_of_ble_eq_true rfl) (by omega) 248 ((x 1)) p.2 _ rfl hq) ?_
  refine RT.icmp_eq (pc := 1059) (tgt := 1363) dL_law_1059 rfl (fun _ => ?_) (fun z => absurd e.symm z)
  exact K q.2 hI1
theorem lc_1236 {G : rt_G} {Q : rt_P} {d n k : Nat} {mem : rt_M} (hd : 2048 ≤ d) (hk : k ≤ 512) (i : Int) (x : Nat → Int) (hX : lc_X G i x) (hI : rq_I n mem) (hc : n < 800000) (K : ∀ mem1, rq_I (n + 1) mem1 → RT G M_law d (41, 0) Q 1363 (lc_L i) [] (301, k) mem1) : RT G M_law d (41, 0) Q 1236 (lc_L i) [] (301, k) mem := by
  obtain ⟨p, hp, q, hq, e, hI1⟩ := L_centuries hI hc ((x 1)) ((x 2)) ((x 3))
  refine RT.aload_n (pc := 1236) (k := 1) (x := 41) dL_law_1236 rfl ?_
  refine RT.aload_n (pc := 1237) (k := 0) (x := 40) dL_law_1237 rfl ?_
  refine RT.iload (pc := 1238) (k := 4) (x := i) dL_law_1238 rfl ?_
  refine RT.iconst (pc := 1240) (n := 1) dL_law_1240 ⟨by decide, by decide⟩ ?_
  refine RT.iadd (pc := 1241) dL_law_1241 ?_
  refine RT.sld (pc := 1242) (v := x 1) dL_law_1242 (hX 1 (by decide)) ?_
  refine RT.aload_n (pc := 1243) (k := 0) (x := 40) dL_law_1243 rfl ?_
  refine RT.iload (pc := 1244) (k := 4) (x := i) dL_law_1244 rfl ?_
  refine RT.iconst (pc := 1246) (n := 2) dL_law_1246 ⟨by decide, by decide⟩ ?_
  refine RT.iadd (pc := 1247) dL_law_1247 ?_
  refine RT.sld (pc := 1248) (v := x 2) dL_law_1248 (hX 2 (by decide)) ?_
  refine RT.aload_n (pc := 1249) (k := 0) (x := 40) dL_law_1249 rfl ?_
  refine RT.iload (pc := 1250) (k := 4) (x := i) dL_law_1250 rfl ?_
  refine RT.iconst (pc := 1252) (n := 3) dL_law_1252 ⟨by decide, by decide⟩ ?_
  refine RT.iadd (pc := 1253) dL_law_1253 ?_
  refine RT.sld (pc := 1254) (v := x 3) dL_law_1254 (hX 3 (by decide)) ?_
  refine RT.cV (pc := 1255) (M' := M_X11_centuries) (ci := 11) (x := 41) (As := [(0, (x 1)), (0, (x 2)), (0, (x 3))]) (st := []) (r := some (0, p.1)) (mem1 := p.2) (d' := d - 1) dL_law_1255 mw_X11_centuries ml_L_150 mi_X11_centuries rfl (Nat.le_of_ble_eq_true rfl) rfl rfl (Nat.le_of_ble_eq_true rfl) (Nat.le_of_ble_eq_true rfl) (by omega) (lc_room hk).1 (lc_room hk).2 (c_X11_centuries (z := (301, k)) (Nat.le_of_ble_eq_true rfl) (by omega) 41 ((x 1)) ((x 2)) ((x 3)) mem _ rfl hp) ?_
  refine RT.aload_n (pc := 1258) (k := 2) (x := 248) dL_law_1258 rfl ?_
  refine RT.aload_n (pc := 1259) (k := 0) (x := 40) dL_law_1259 rfl ?_
  refine RT.iload (pc := 1260) (k := 4) (x := i) dL_law_1260 rfl ?_
  refine RT.iconst (pc := 1262) (n := 1) dL_law_1262 ⟨by decide, by decide⟩ ?_
  refine RT.iadd (pc := 1263) dL_law_1263 ?_
  refine RT.sld (pc := 1264) (v := x 1) dL_law_1264 (hX 1 (by decide)) ?_
  refine RT.aload_n (pc := 1265) (k := 0) (x := 40) dL_law_1265 rfl ?_
  refine RT.iload (pc := 1266) (k := 4) (x := i) dL_law_1266 rfl ?_
  refine RT.iconst (pc := 1268) (n := 2) dL_law_1268 ⟨by decide, by decide⟩ ?_
  refine RT.iadd (pc := 1269) dL_law_1269 ?_
  refine RT.sld (pc := 1270) (v := x 2) dL_law_1270 (hX 2 (by decide)) ?_
  refine RT.aload_n (pc := 1271) (k := 0) (x := 40) dL_law_1271 rfl ?_
  refine RT.iload (pc := 1272) (k := 4) (x := i) dL_law_1272 rfl ?_
  refine RT.iconst (pc := 1274) (n := 3) dL_law_1274 ⟨by decide, by decide⟩ ?_
  refine RT.iadd (pc := 1275) dL_law_1275 ?_
  refine RT.sld (pc := 1276) (v := x 3) dL_law_1276 (hX 3 (by decide)) ?_
  refine RT.cV (pc := 1277) (M' := M_X12_centuries) (ci := 12) (x := 248) (As := [(0, (x 1)), (0, (x 2)), (0, (x 3))]) (st := [(0, p.1)]) (r := some (0, q.1)) (mem1 := q.2) (d' := d - 1) dL_law_1277 mw_X12_centuries ml_L_153 mi_X12_centuries rfl (Nat.le_of_ble_eq_true rfl) rfl rfl (Nat.le_of_ble_eq_true rfl) (Nat.le_of_ble_eq_true rfl) (by omega) (lc_room hk).1 (lc_room hk).2 (c_X12_centuries (z := (301, k)) (Nat.le_of_ble_eq_true rfl) (by omega) 248 ((x 1)) ((x 2)) ((x 3)) p.2 _ rfl hq) ?_
  refine RT.icmp_eq (pc := 1280) (tgt := 1363) dL_law_1280 rfl (fun _ => ?_) (fun z => absurd e.symm z)
  exact K q.2 hI1
theorem lc_1285 {G : rt_G} {Q : rt_P} {d n k : Nat} {mem : rt_M} (hd : 2048 ≤ d) (hk : k ≤ 512) (i : Int) (x : Nat → Int) (hX : lc_X G i x) (hI : rq_I n mem) (hc : n < 800000) (K : ∀ mem1, rq_I (n + 1) mem1 → RT G M_law d (41, 0) Q 1363 (lc_L i) [] (301, k) mem1) : RT G M_law d (41, 0) Q 1285 (lc_L i) [] (301, k) mem := by
  by_cases hb : x 2 = 0
  · obtain ⟨p, hp, q, hq, e, hI1⟩ := L_mark hI ((x 1)) 0 (Or.inl rfl)
    refine RT.aload_n (pc := 1285) (k := 1) (x := 41) dL_law_1285 rfl ?_
    refine RT.aload_n (pc := 1286) (k := 0) (x := 40) dL_law_1286 rfl ?_
    refine RT.iload (pc := 1287) (k := 4) (x := i) dL_law_1287 rfl ?_
    refine RT.iconst (pc := 1289) (n := 1) dL_law_1289 ⟨by decide, by decide⟩ ?_
    refine RT.iadd (pc := 1290) dL_law_1290 ?_
    refine RT.sld (pc := 1291) (v := x 1) dL_law_1291 (hX 1 (by decide)) ?_
    refine RT.aload_n (pc := 1292) (k := 0) (x := 40) dL_law_1292 rfl ?_
    refine RT.iload (pc := 1293) (k := 4) (x := i) dL_law_1293 rfl ?_
    refine RT.iconst (pc := 1295) (n := 2) dL_law_1295 ⟨by decide, by decide⟩ ?_
    refine RT.iadd (pc := 1296) dL_law_1296 ?_
    refine RT.sld (pc := 1297) (v := x 2) dL_law_1297 (hX 2 (by decide)) ?_
    refine RT.if_eq (pc := 1298) (tgt := 1305) dL_law_1298 rfl (fun _ => ?_) (fun q => absurd hb q)
    refine RT.iconst (pc := 1305) (n := 0) dL_law_1305 ⟨by decide, by decide⟩ ?_
    refine RT.cV (pc := 1306) (M' := M_X11_mark) (ci := 11) (x := 41) (As := [(0, (x 1)), (0, 0)]) (st := []) (r := some (0, p.1)) (mem1 := p.2) (d' := d - 1) dL_law_1306 mw_X11_mark ml_L_154 mi_X11_mark rfl (Nat.le_of_ble_eq_true rfl) rfl rfl (Nat.le_of_ble_eq_true rfl) (Nat.le_of_ble_eq_true rfl) (by omega) (lc_room hk).1 (lc_room hk).2 (c_X11_mark (z := (301, k)) (Nat.le_of_ble_eq_true rfl) (by omega) 41 ((x 1)) 0 mem _ rfl hp) ?_
    refine RT.aload_n (pc := 1309) (k := 2) (x := 248) dL_law_1309 rfl ?_
    refine RT.aload_n (pc := 1310) (k := 0) (x := 40) dL_law_1310 rfl ?_
    refine RT.iload (pc := 1311) (k := 4) (x := i) dL_law_1311 rfl ?_
    refine RT.iconst (pc := 1313) (n := 1) dL_law_1313 ⟨by decide, by decide⟩ ?_
    refine RT.iadd (pc := 1314) dL_law_1314 ?_
    refine RT.sld (pc := 1315) (v := x 1) dL_law_1315 (hX 1 (by decide)) ?_
    refine RT.aload_n (pc := 1316) (k := 0) (x := 40) dL_law_1316 rfl ?_
    refine RT.iload (pc := 1317) (k := 4) (x := i) dL_law_1317 rfl ?_
    refine RT.iconst (pc := 1319) (n := 2) dL_law_1319 ⟨by decide, by decide⟩ ?_
    refine RT.iadd (pc := 1320) dL_law_1320 ?_
    refine RT.sld (pc := 1321) (v := x 2) dL_law_1321 (hX 2 (by decide)) ?_
    refine RT.if_eq (pc := 1322) (tgt := 1329) dL_law_1322 rfl (fun _ => ?_) (fun q => absurd hb q)
    refine RT.iconst (pc := 1329) (n := 0) dL_law_1329 ⟨by decide, by decide⟩ ?_
    refine RT.cV (pc := 1330) (M' := M_X12_mark) (ci := 12) (x := 248) (As := [(0, (x 1)), (0, 0)]) (st := [(0, p.1)]) (r := some (0, q.1)) (mem1 := q.2) (d' := d - 1) dL_law_1330 mw_X12_mark ml_L_158 mi_X12_mark rfl (Nat.le_of_ble_eq_true rfl) rfl rfl (Nat.le_of_ble_eq_true rfl) (Nat.le_of_ble_eq_true rfl) (by omega) (lc_room hk).1 (lc_room hk).2 (c_X12_mark (z := (301, k)) (Nat.le_of_ble_eq_true rfl) (by omega) 248 ((x 1)) 0 p.2 _ rfl hq) ?_
    refine RT.icmp_eq (pc := 1333) (tgt := 1363) dL_law_1333 rfl (fun _ => ?_) (fun z => absurd e.symm z)
    exact K q.2 hI1
  · obtain ⟨p, hp, q, hq, e, hI1⟩ := L_mark hI ((x 1)) 1 (Or.inr rfl)
    refine RT.aload_n (pc := 1285) (k := 1) (x := 41) dL_law_1285 rfl ?_
    refine RT.aload_n (pc := 1286) (k := 0) (x := 40) dL_law_1286 rfl ?_
    refine RT.iload (pc := 1287) (k := 4) (x := i) dL_law_1287 rfl ?_
    refine RT.iconst (pc := 1289) (n := 1) dL_law_1289 ⟨by decide, by decide⟩ ?_
    refine RT.iadd (pc := 1290) dL_law_1290 ?_
    refine RT.sld (pc := 1291) (v := x 1) dL_law_1291 (hX 1 (by decide)) ?_
    refine RT.aload_n (pc := 1292) (k := 0) (x := 40) dL_law_1292 rfl ?_
    refine RT.iload (pc := 1293) (k := 4) (x := i) dL_law_1293 rfl ?_
    refine RT.iconst (pc := 1295) (n := 2) dL_law_1295 ⟨by decide, by decide⟩ ?_
    refine RT.iadd (pc := 1296) dL_law_1296 ?_
    refine RT.sld (pc := 1297) (v := x 2) dL_law_1297 (hX 2 (by decide)) ?_
    refine RT.if_eq (pc := 1298) (tgt := 1305) dL_law_1298 rfl (fun q => absurd q hb) (fun _ => ?_)
    refine RT.iconst (pc := 1301) (n := 1) dL_law_1301 ⟨by decide, by decide⟩ ?_
    refine RT.goto (pc := 1302) (tgt := 1306) dL_law_1302 rfl ?_
    refine RT.cV (pc := 1306) (M' := M_X11_mark) (ci := 11) (x := 41) (As := [(0, (x 1)), (0, 1)]) (st := []) (r := some (0, p.1)) (mem1 := p.2) (d' := d - 1) dL_law_1306 mw_X11_mark ml_L_154 mi_X11_mark rfl (Nat.le_of_ble_eq_true rfl) rfl rfl (Nat.le_of_ble_eq_true rfl) (Nat.le_of_ble_eq_true rfl) (by omega) (lc_room hk).1 (lc_room hk).2 (c_X11_mark (z := (301, k)) (Nat.le_of_ble_eq_true rfl) (by omega) 41 ((x 1)) 1 mem _ rfl hp) ?_
    refine RT.aload_n (pc := 1309) (k := 2) (x := 248) dL_law_1309 rfl ?_
    refine RT.aload_n (pc := 1310) (k := 0) (x := 40) dL_law_1310 rfl ?_
    refine RT.iload (pc := 1311) (k := 4) (x := i) dL_law_1311 rfl ?_
    refine RT.iconst (pc := 1313) (n := 1) dL_law_1313 ⟨by decide, by decide⟩ ?_
    refine RT.iadd (pc := 1314) dL_law_1314 ?_
    refine RT.sld (pc := 1315) (v := x 1) dL_law_1315 (hX 1 (by decide)) ?_
    refine RT.aload_n (pc := 1316) (k := 0) (x := 40) dL_law_1316 rfl ?_
    refine RT.iload (pc := 1317) (k := 4) (x := i) dL_law_1317 rfl ?_
    refine RT.iconst (pc := 1319) (n := 2) dL_law_1319 ⟨by decide, by decide⟩ ?_
    refine RT.iadd (pc := 1320) dL_law_1320 ?_
    refine RT.sld (pc := 1321) (v := x 2) dL_law_1321 (hX 2 (by decide)) ?_
    refine RT.if_eq (pc := 1322) (tgt := 1329) dL_law_1322 rfl (fun q => absurd q hb) (fun _ => ?_)
    refine RT.iconst (pc := 1325) (n := 1) dL_law_1325 ⟨by decide, by decide⟩ ?_
    refine RT.goto (pc := 1326) (tgt := 1330) dL_law_1326 rfl ?_
    refine RT.cV (pc := 1330) (M' := M_X12_mark) (ci := 12) (x := 248) (As := [(0, (x 1)), (0, 1)]) (st := [(0, p.1)]) (r := some (0, q.1)) (mem1 := q.2) (d' := d - 1) dL_law_1330 mw_X12_mark ml_L_158 mi_X12_mark rfl (Nat.le_of_ble_eq_true rfl) rfl rfl (Nat.le_of_ble_eq_true rfl) (Nat.le_of_ble_eq_true rfl) (by omega) (lc_room hk).1 (lc_room hk).2 (c_X12_mark (z := (301, k)) (Nat.le_of_ble_eq_true rfl) (by omega) 248 ((x 1)) 1 p.2 _ rfl hq) ?_
    refine RT.icmp_eq (pc := 1333) (tgt := 1363) dL_law_1333 rfl (fun _ => ?_) (fun z => absurd e.symm z)
    exact K q.2 hI1
theorem lc_1338 {G : rt_G} {Q : rt_P} {d n k : Nat} {mem : rt_M} (hd : 2048 ≤ d) (hk : k ≤ 512) (i : Int) (x : Nat → Int) (hX : lc_X G i x) (hI : rq_I n mem) (hc : n < 800000) (K : ∀ mem1, rq_I (n + 1) mem1 → RT G M_law d (41, 0) Q 1363 (lc_L i) [] (301, k) mem1) : RT G M_law d (41, 0) Q 1338 (lc_L i) [] (301, k) mem := by
  obtain ⟨p, hp, q, hq, e, hI1⟩ := L_count hI hc ((x 1))
  refine RT.aload_n (pc := 1338) (k := 1) (x := 41) dL_law_1338 rfl ?_
  refine RT.aload_n (pc := 1339) (k := 0) (x := 40) dL_law_1339 rfl ?_
  refine RT.iload (pc := 1340) (k := 4) (x := i) dL_law_1340 rfl ?_
  refine RT.iconst (pc := 1342) (n := 1) dL_law_1342 ⟨by decide, by decide⟩ ?_
  refine RT.iadd (pc := 1343) dL_law_1343 ?_
  refine RT.sld (pc := 1344) (v := x 1) dL_law_1344 (hX 1 (by decide)) ?_
  refine RT.cV (pc := 1345) (M' := M_X11_count) (ci := 11) (x := 41) (As := [(0, (x 1))]) (st := []) (r := some (0, p)) (mem1 := mem) (d' := d - 1) dL_law_1345 mw_X11_count ml_L_159 mi_X11_count rfl (Nat.le_of_ble_eq_true rfl) rfl rfl (Nat.le_of_ble_eq_true rfl) (Nat.le_of_ble_eq_true rfl) (by omega) (lc_room hk).1 (lc_room hk).2 (c_X11_count (z := (301, k)) (Nat.le_of_ble_eq_true rfl) (by omega) 41 ((x 1)) mem _ rfl hp) ?_
  refine RT.aload_n (pc := 1348) (k := 2) (x := 248) dL_law_1348 rfl ?_
  refine RT.aload_n (pc := 1349) (k := 0) (x := 40) dL_law_1349 rfl ?_
  refine RT.iload (pc := 1350) (k := 4) (x := i) dL_law_1350 rfl ?_
  refine RT.iconst (pc := 1352) (n := 1) dL_law_1352 ⟨by decide, by decide⟩ ?_
  refine RT.iadd (pc := 1353) dL_law_1353 ?_
  refine RT.sld (pc := 1354) (v := x 1) dL_law_1354 (hX 1 (by decide)) ?_
  refine RT.cV (pc := 1355) (M' := M_X12_count) (ci := 12) (x := 248) (As := [(0, (x 1))]) (st := [(0, p)]) (r := some (0, q.1)) (mem1 := q.2) (d' := d - 1) dL_law_1355 mw_X12_count ml_L_162 mi_X12_count rfl (Nat.le_of_ble_eq_true rfl) rfl rfl (Nat.le_of_ble_eq_true rfl) (Nat.le_of_ble_eq_true rfl) (by omega) (lc_room hk).1 (lc_room hk).2 (c_X12_count (z := (301, k)) (Nat.le_of_ble_eq_true rfl) (by omega) 248 ((x 1)) mem _ rfl hq) ?_
  refine RT.icmp_eq (pc := 1358) (tgt := 1363) dL_law_1358 rfl (fun _ => ?_) (fun z => absurd e.symm z)
  exact K q.2 hI1
