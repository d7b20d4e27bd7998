/-! SHAPES AND LINKS, ROW BY ROW: by program (wip/whole/gen_tab.py) -/
theorem s_62 : SH 62 = (11, 0) := by decide +kernel
theorem s_63 : SH 63 = (69, 2) := by decide +kernel
theorem s_64 : SH 64 = (61, 6) := by decide +kernel
theorem s_65 : SH 65 = (63, 15) := by decide +kernel
theorem s_66 : SH 66 = (63, 15) := by decide +kernel
theorem s_67 : SH 67 = (5, 0) := by decide +kernel
theorem s_68 : SH 68 = (50, 20) := by decide +kernel
theorem s_69 : SH 69 = (50, 20) := by decide +kernel
theorem s_70 : SH 70 = (50, 6) := by decide +kernel
theorem s_71 : SH 71 = (50, 6) := by decide +kernel
theorem s_72 : SH 72 = (50, 6) := by decide +kernel
theorem s_73 : SH 73 = (50, 6) := by decide +kernel
theorem s_74 : SH 74 = (50, 6) := by decide +kernel
theorem s_75 : SH 75 = (50, 6) := by decide +kernel
theorem s_76 : SH 76 = (1, 0) := by decide +kernel
theorem s_77 : SH 77 = (50, 10) := by decide +kernel
theorem s_78 : SH 78 = (50, 10) := by decide +kernel
theorem s_79 : SH 79 = (50, 10) := by decide +kernel
theorem s_80 : SH 80 = (51, 10) := by decide +kernel
theorem s_81 : SH 81 = (50, 600) := by decide +kernel
theorem s_82 : SH 82 = (6, 0) := by decide +kernel
theorem s_83 : SH 83 = (51, 29) := by decide +kernel
theorem s_84 : SH 84 = (50, 601) := by decide +kernel
theorem s_85 : SH 85 = (50, 601) := by decide +kernel
theorem s_86 : SH 86 = (50, 601) := by decide +kernel
theorem s_87 : SH 87 = (50, 64) := by decide +kernel
theorem s_88 : SH 88 = (8, 0) := by decide +kernel
theorem s_89 : SH 89 = (50, 6) := by decide +kernel
theorem s_90 : SH 90 = (9, 0) := by decide +kernel
theorem s_274 : SH 274 = (3, 0) := by decide +kernel
theorem s_275 : SH 275 = (80, 6) := by decide +kernel
theorem s_276 : SH 276 = (50, 8) := by decide +kernel
theorem s_277 : SH 277 = (50, 8) := by decide +kernel
theorem s_278 : SH 278 = (50, 8) := by decide +kernel
theorem s_279 : SH 279 = (50, 8) := by decide +kernel
theorem s_280 : SH 280 = (50, 8) := by decide +kernel
theorem s_281 : SH 281 = (50, 8) := by decide +kernel
theorem s_282 : SH 282 = (50, 8) := by decide +kernel
theorem s_283 : SH 283 = (50, 64) := by decide +kernel
theorem s_284 : SH 284 = (50, 6) := by decide +kernel
theorem s_285 : SH 285 = (50, 6) := by decide +kernel
theorem s_286 : SH 286 = (50, 6) := by decide +kernel
theorem s_287 : SH 287 = (51, 6) := by decide +kernel
theorem s_288 : SH 288 = (51, 6) := by decide +kernel
theorem s_289 : SH 289 = (51, 6) := by decide +kernel
theorem s_290 : SH 290 = (51, 6) := by decide +kernel
theorem s_291 : SH 291 = (7, 0) := by decide +kernel
theorem s_292 : SH 292 = (81, 6) := by decide +kernel
theorem s_293 : SH 293 = (51, 7) := by decide +kernel
theorem s_294 : SH 294 = (51, 7) := by decide +kernel
theorem s_295 : SH 295 = (51, 7) := by decide +kernel
theorem s_296 : SH 296 = (51, 7) := by decide +kernel
theorem s_297 : SH 297 = (51, 7) := by decide +kernel
theorem s_298 : SH 298 = (51, 7) := by decide +kernel
theorem s_299 : SH 299 = (50, 6) := by decide +kernel
theorem s_300 : SH 300 = (51, 6) := by decide +kernel
theorem s_301 : SH 301 = (12, 0) := by decide +kernel
theorem s_302 : SH 302 = (50, 720) := by decide +kernel
theorem s_303 : SH 303 = (50, 2) := by decide +kernel
theorem s_304 : SH 304 = (50, 4) := by decide +kernel
theorem s_305 : SH 305 = (50, 2) := by decide +kernel
theorem s_306 : SH 306 = (50, 24) := by decide +kernel
theorem s_307 : SH 307 = (50, 24) := by decide +kernel
theorem s_308 : SH 308 = (50, 24) := by decide +kernel
theorem s_309 : SH 309 = (50, 24) := by decide +kernel
theorem s_310 : SH 310 = (50, 24) := by decide +kernel
theorem s_311 : SH 311 = (50, 7) := by decide +kernel
theorem s_312 : SH 312 = (50, 140) := by decide +kernel
theorem s_313 : SH 313 = (50, 140) := by decide +kernel
theorem s_314 : SH 314 = (50, 140) := by decide +kernel
theorem s_315 : SH 315 = (50, 140) := by decide +kernel
theorem s_316 : SH 316 = (50, 140) := by decide +kernel
theorem s_317 : SH 317 = (50, 8540) := by decide +kernel
theorem s_318 : SH 318 = (50, 7) := by decide +kernel
theorem s_319 : SH 319 = (50, 7) := by decide +kernel
theorem s_320 : SH 320 = (50, 140) := by decide +kernel
theorem s_321 : SH 321 = (50, 140) := by decide +kernel
theorem s_322 : SH 322 = (50, 7) := by decide +kernel
theorem s_323 : SH 323 = (52, 7) := by decide +kernel
theorem s_324 : SH 324 = (52, 7) := by decide +kernel
theorem s_325 : SH 325 = (50, 37) := by decide +kernel
theorem s_326 : SH 326 = (50, 37) := by decide +kernel
theorem s_327 : SH 327 = (50, 740) := by decide +kernel
theorem s_328 : SH 328 = (50, 37) := by decide +kernel
theorem s_329 : SH 329 = (50, 222) := by decide +kernel
theorem s_330 : SH 330 = (50, 37) := by decide +kernel
theorem s_331 : SH 331 = (52, 37) := by decide +kernel
theorem s_332 : SH 332 = (50, 600) := by decide +kernel
theorem s_333 : SH 333 = (50, 620) := by decide +kernel
theorem s_334 : SH 334 = (50, 9) := by decide +kernel
theorem s_335 : SH 335 = (50, 6) := by decide +kernel
theorem s_336 : SH 336 = (50, 12) := by decide +kernel
theorem s_337 : SH 337 = (50, 12) := by decide +kernel
theorem s_338 : SH 338 = (50, 12) := by decide +kernel
theorem s_339 : SH 339 = (50, 12) := by decide +kernel
theorem s_340 : SH 340 = (50, 12) := by decide +kernel
theorem s_341 : SH 341 = (50, 36) := by decide +kernel
theorem s_342 : SH 342 = (50, 216) := by decide +kernel
theorem s_343 : SH 343 = (50, 36) := by decide +kernel
theorem s_344 : SH 344 = (52, 36) := by decide +kernel
theorem s_345 : SH 345 = (51, 6) := by decide +kernel
theorem s_346 : SH 346 = (51, 6) := by decide +kernel
theorem s_347 : SH 347 = (51, 6) := by decide +kernel
theorem s_348 : SH 348 = (51, 6) := by decide +kernel
theorem s_349 : SH 349 = (51, 42) := by decide +kernel
theorem s_350 : SH 350 = (50, 6) := by decide +kernel
theorem s_351 : SH 351 = (50, 20) := by decide +kernel
theorem s_352 : SH 352 = (50, 20) := by decide +kernel
theorem s_353 : SH 353 = (50, 6) := by decide +kernel
theorem s_354 : SH 354 = (50, 6) := by decide +kernel
theorem s_355 : SH 355 = (50, 6) := by decide +kernel
theorem s_356 : SH 356 = (50, 6) := by decide +kernel
theorem s_357 : SH 357 = (50, 6) := by decide +kernel
theorem s_358 : SH 358 = (50, 6) := by decide +kernel
theorem s_359 : SH 359 = (50, 10) := by decide +kernel
theorem s_360 : SH 360 = (50, 10) := by decide +kernel
theorem s_361 : SH 361 = (50, 10) := by decide +kernel
theorem s_362 : SH 362 = (51, 10) := by decide +kernel
theorem l_62_0 : LK 62 0 = some 63 := by decide +kernel
theorem l_62_1 : LK 62 1 = some 64 := by decide +kernel
theorem l_62_2 : LK 62 2 = some 65 := by decide +kernel
theorem l_62_3 : LK 62 3 = some 66 := by decide +kernel
theorem l_62_4 : LK 62 4 = some 67 := by decide +kernel
theorem l_62_5 : LK 62 5 = some 76 := by decide +kernel
theorem l_62_6 : LK 62 6 = some 81 := by decide +kernel
theorem l_62_7 : LK 62 7 = some 82 := by decide +kernel
theorem l_62_8 : LK 62 8 = some 274 := by decide +kernel
theorem l_62_9 : LK 62 9 = some 88 := by decide +kernel
theorem l_62_10 : LK 62 10 = some 90 := by decide +kernel
theorem l_63_0 : LK 63 0 = some 102 := by decide +kernel
theorem l_63_1 : LK 63 1 = some 119 := by decide +kernel
theorem l_66_0 : LK 66 0 = some 187 := by decide +kernel
theorem l_66_1 : LK 66 1 = some 193 := by decide +kernel
theorem l_66_2 : LK 66 2 = some 199 := by decide +kernel
theorem l_66_3 : LK 66 3 = some 205 := by decide +kernel
theorem l_66_4 : LK 66 4 = some 211 := by decide +kernel
theorem l_66_5 : LK 66 5 = some 217 := by decide +kernel
theorem l_66_6 : LK 66 6 = some 223 := by decide +kernel
theorem l_66_7 : LK 66 7 = some 229 := by decide +kernel
theorem l_66_8 : LK 66 8 = some 235 := by decide +kernel
theorem l_66_9 : LK 66 9 = some 241 := by decide +kernel
theorem l_66_10 : LK 66 10 = some 247 := by decide +kernel
theorem l_66_11 : LK 66 11 = some 253 := by decide +kernel
theorem l_66_12 : LK 66 12 = some 259 := by decide +kernel
theorem l_66_13 : LK 66 13 = some 265 := by decide +kernel
theorem l_66_14 : LK 66 14 = some 271 := by decide +kernel
theorem l_67_0 : LK 67 0 = some 68 := by decide +kernel
theorem l_67_1 : LK 67 1 = some 69 := by decide +kernel
theorem l_67_2 : LK 67 2 = some 70 := by decide +kernel
theorem l_67_3 : LK 67 3 = some 71 := by decide +kernel
theorem l_67_4 : LK 67 4 = some 72 := by decide +kernel
theorem l_67_5 : LK 67 5 = some 73 := by decide +kernel
theorem l_67_6 : LK 67 6 = some 74 := by decide +kernel
theorem l_67_7 : LK 67 7 = some 75 := by decide +kernel
theorem l_76_0 : LK 76 0 = some 77 := by decide +kernel
theorem l_76_1 : LK 76 1 = some 78 := by decide +kernel
theorem l_76_2 : LK 76 2 = some 79 := by decide +kernel
theorem l_76_3 : LK 76 3 = some 80 := by decide +kernel
theorem l_82_0 : LK 82 0 = some 83 := by decide +kernel
theorem l_82_1 : LK 82 1 = some 84 := by decide +kernel
theorem l_82_2 : LK 82 2 = some 85 := by decide +kernel
theorem l_82_3 : LK 82 3 = some 86 := by decide +kernel
theorem l_82_4 : LK 82 4 = some 87 := by decide +kernel
theorem l_88_0 : LK 88 0 = some 89 := by decide +kernel
theorem l_274_0 : LK 274 0 = some 64 := by decide +kernel
theorem l_274_1 : LK 274 1 = some 275 := by decide +kernel
theorem l_274_2 : LK 274 2 = some 282 := by decide +kernel
theorem l_274_3 : LK 274 3 = some 283 := by decide +kernel
theorem l_274_4 : LK 274 4 = some 284 := by decide +kernel
theorem l_274_5 : LK 274 5 = some 285 := by decide +kernel
theorem l_274_6 : LK 274 6 = some 286 := by decide +kernel
theorem l_274_7 : LK 274 7 = some 287 := by decide +kernel
theorem l_274_8 : LK 274 8 = some 288 := by decide +kernel
theorem l_274_9 : LK 274 9 = some 289 := by decide +kernel
theorem l_274_10 : LK 274 10 = some 290 := by decide +kernel
theorem l_274_11 : LK 274 11 = some 291 := by decide +kernel
theorem l_275_0 : LK 275 0 = some 276 := by decide +kernel
theorem l_275_1 : LK 275 1 = some 277 := by decide +kernel
theorem l_275_2 : LK 275 2 = some 278 := by decide +kernel
theorem l_275_3 : LK 275 3 = some 279 := by decide +kernel
theorem l_275_4 : LK 275 4 = some 280 := by decide +kernel
theorem l_275_5 : LK 275 5 = some 281 := by decide +kernel
theorem l_291_0 : LK 291 0 = some 292 := by decide +kernel
theorem l_291_1 : LK 291 1 = some 299 := by decide +kernel
theorem l_291_2 : LK 291 2 = some 300 := by decide +kernel
theorem l_301_0 : LK 301 0 = some 302 := by decide +kernel
theorem l_301_1 : LK 301 1 = some 303 := by decide +kernel
theorem l_301_2 : LK 301 2 = some 304 := by decide +kernel
theorem l_301_3 : LK 301 3 = some 305 := by decide +kernel
theorem l_301_4 : LK 301 4 = some 306 := by decide +kernel
theorem l_301_5 : LK 301 5 = some 307 := by decide +kernel
theorem l_301_6 : LK 301 6 = some 308 := by decide +kernel
theorem l_301_7 : LK 301 7 = some 309 := by decide +kernel
theorem l_301_8 : LK 301 8 = some 310 := by decide +kernel
theorem l_301_9 : LK 301 9 = some 311 := by decide +kernel
theorem l_301_10 : LK 301 10 = some 312 := by decide +kernel
theorem l_301_11 : LK 301 11 = some 313 := by decide +kernel
theorem l_301_12 : LK 301 12 = some 314 := by decide +kernel
theorem l_301_13 : LK 301 13 = some 315 := by decide +kernel
theorem l_301_14 : LK 301 14 = some 316 := by decide +kernel
theorem l_301_15 : LK 301 15 = some 317 := by decide +kernel
theorem l_301_16 : LK 301 16 = some 318 := by decide +kernel
theorem l_301_17 : LK 301 17 = some 319 := by decide +kernel
theorem l_301_18 : LK 301 18 = some 320 := by decide +kernel
theorem l_301_19 : LK 301 19 = some 321 := by decide +kernel
theorem l_301_20 : LK 301 20 = some 322 := by decide +kernel
theorem l_301_21 : LK 301 21 = some 323 := by decide +kernel
theorem l_301_22 : LK 301 22 = some 324 := by decide +kernel
theorem l_301_23 : LK 301 23 = some 325 := by decide +kernel
theorem l_301_24 : LK 301 24 = some 326 := by decide +kernel
theorem l_301_25 : LK 301 25 = some 327 := by decide +kernel
theorem l_301_26 : LK 301 26 = some 328 := by decide +kernel
theorem l_301_27 : LK 301 27 = some 329 := by decide +kernel
theorem l_301_28 : LK 301 28 = some 330 := by decide +kernel
theorem l_301_29 : LK 301 29 = some 331 := by decide +kernel
theorem l_301_30 : LK 301 30 = some 332 := by decide +kernel
theorem l_301_31 : LK 301 31 = some 333 := by decide +kernel
theorem l_301_32 : LK 301 32 = some 334 := by decide +kernel
theorem l_301_46 : LK 301 46 = some 335 := by decide +kernel
theorem l_301_47 : LK 301 47 = some 336 := by decide +kernel
theorem l_301_48 : LK 301 48 = some 337 := by decide +kernel
theorem l_301_49 : LK 301 49 = some 338 := by decide +kernel
theorem l_301_50 : LK 301 50 = some 339 := by decide +kernel
theorem l_301_51 : LK 301 51 = some 340 := by decide +kernel
theorem l_301_58 : LK 301 58 = some 341 := by decide +kernel
theorem l_301_59 : LK 301 59 = some 342 := by decide +kernel
theorem l_301_60 : LK 301 60 = some 343 := by decide +kernel
theorem l_301_61 : LK 301 61 = some 344 := by decide +kernel
theorem l_301_64 : LK 301 64 = some 345 := by decide +kernel
theorem l_301_65 : LK 301 65 = some 346 := by decide +kernel
theorem l_301_66 : LK 301 66 = some 347 := by decide +kernel
theorem l_301_67 : LK 301 67 = some 348 := by decide +kernel
theorem l_301_68 : LK 301 68 = some 349 := by decide +kernel
theorem l_301_69 : LK 301 69 = some 350 := by decide +kernel
theorem l_301_74 : LK 301 74 = some 351 := by decide +kernel
theorem l_301_75 : LK 301 75 = some 352 := by decide +kernel
theorem l_301_78 : LK 301 78 = some 353 := by decide +kernel
theorem l_301_79 : LK 301 79 = some 354 := by decide +kernel
theorem l_301_80 : LK 301 80 = some 355 := by decide +kernel
theorem l_301_81 : LK 301 81 = some 356 := by decide +kernel
theorem l_301_82 : LK 301 82 = some 357 := by decide +kernel
theorem l_301_83 : LK 301 83 = some 358 := by decide +kernel
theorem l_301_85 : LK 301 85 = some 359 := by decide +kernel
theorem l_301_86 : LK 301 86 = some 360 := by decide +kernel
theorem l_301_87 : LK 301 87 = some 361 := by decide +kernel
theorem l_301_88 : LK 301 88 = some 362 := by decide +kernel
/-- the objects that hold LAWS -/
def IsLaw (a : Nat) : Prop := a ∈ [91, 136, 144, 152, 160, 168, 176]
theorem IsLaw.all : ∀ a ∈ [91, 136, 144, 152, 160, 168, 176], SH a = (2, 0) ∧ SH (a + 1) = (50, 600) ∧ SH (a + 2) = (50, 20) ∧ SH (a + 3) = (50, 20) ∧ SH (a + 4) = (50, 20) ∧ SH (a + 5) = (50, 20) ∧ SH (a + 6) = (50, 20) ∧ SH (a + 7) = (50, 20) ∧ LK a 0 = some (a + 1) ∧ LK a 1 = some (a + 2) ∧ LK a 2 = some (a + 3) ∧ LK a 3 = some (a + 4) ∧ LK a 4 = some (a + 5) ∧ LK a 5 = some (a + 6) ∧ LK a 6 = some (a + 7) := by decide +kernel
theorem IsLaw.s {a : Nat} (h : IsLaw a) : SH a = (2, 0) := (IsLaw.all a h).1
theorem IsLaw.s1 {a : Nat} (h : IsLaw a) : SH (a + 1) = (50, 600) := (IsLaw.all a h).2.1
theorem IsLaw.s2 {a : Nat} (h : IsLaw a) : SH (a + 2) = (50, 20) := (IsLaw.all a h).2.2.1
theorem IsLaw.s3 {a : Nat} (h : IsLaw a) : SH (a + 3) = (50, 20) := (IsLaw.all a h).2.2.2.1
theorem IsLaw.s4 {a : Nat} (h : IsLaw a) : SH (a + 4) = (50, 20) := (IsLaw.all a h).2.2.2.2.1
theorem IsLaw.s5 {a : Nat} (h : IsLaw a) : SH (a + 5) = (50, 20) := (IsLaw.all a h).2.2.2.2.2.1
theorem IsLaw.s6 {a : Nat} (h : IsLaw a) : SH (a + 6) = (50, 20) := (IsLaw.all a h).2.2.2.2.2.2.1
theorem IsLaw.s7 {a : Nat} (h : IsLaw a) : SH (a + 7) = (50, 20) := (IsLaw.all a h).2.2.2.2.2.2.2.1
theorem IsLaw.l0 {a : Nat} (h : IsLaw a) : LK a 0 = some (a + 1) := (IsLaw.all a h).2.2.2.2.2.2.2.2.1
theorem IsLaw.l1 {a : Nat} (h : IsLaw a) : LK a 1 = some (a + 2) := (IsLaw.all a h).2.2.2.2.2.2.2.2.2.1
theorem IsLaw.l2 {a : Nat} (h : IsLaw a) : LK a 2 = some (a + 3) := (IsLaw.all a h).2.2.2.2.2.2.2.2.2.2.1
theorem IsLaw.l3 {a : Nat} (h : IsLaw a) : LK a 3 = some (a + 4) := (IsLaw.all a h).2.2.2.2.2.2.2.2.2.2.2.1
theorem IsLaw.l4 {a : Nat} (h : IsLaw a) : LK a 4 = some (a + 5) := (IsLaw.all a h).2.2.2.2.2.2.2.2.2.2.2.2.1
theorem IsLaw.l5 {a : Nat} (h : IsLaw a) : LK a 5 = some (a + 6) := (IsLaw.all a h).2.2.2.2.2.2.2.2.2.2.2.2.2.1
theorem IsLaw.l6 {a : Nat} (h : IsLaw a) : LK a 6 = some (a + 7) := (IsLaw.all a h).2.2.2.2.2.2.2.2.2.2.2.2.2.2
/-- the objects that hold PACTS -/
def IsPact (a : Nat) : Prop := a ∈ [99, 184, 190, 196, 202, 208, 214, 220, 226, 232, 238, 244, 250, 256, 262, 268, 187, 193, 199, 205, 211, 217, 223, 229, 235, 241, 247, 253, 259, 265, 271]
theorem IsPact.all : ∀ a ∈ [99, 184, 190, 196, 202, 208, 214, 220, 226, 232, 238, 244, 250, 256, 262, 268, 187, 193, 199, 205, 211, 217, 223, 229, 235, 241, 247, 253, 259, 265, 271], SH a = (4, 0) ∧ SH (a + 1) = (50, 20) ∧ SH (a + 2) = (50, 6) ∧ LK a 0 = some (a + 1) ∧ LK a 1 = some (a + 2) := by decide +kernel
theorem IsPact.s {a : Nat} (h : IsPact a) : SH a = (4, 0) := (IsPact.all a h).1
theorem IsPact.s1 {a : Nat} (h : IsPact a) : SH (a + 1) = (50, 20) := (IsPact.all a h).2.1
theorem IsPact.s2 {a : Nat} (h : IsPact a) : SH (a + 2) = (50, 6) := (IsPact.all a h).2.2.1
theorem IsPact.l0 {a : Nat} (h : IsPact a) : LK a 0 = some (a + 1) := (IsPact.all a h).2.2.2.1
theorem IsPact.l1 {a : Nat} (h : IsPact a) : LK a 1 = some (a + 2) := (IsPact.all a h).2.2.2.2
/-- the objects that hold what laws ask -/
def IsStay (a : Nat) : Prop := a ∈ [88, 104, 121]
theorem IsStay.all : ∀ a ∈ [88, 104, 121], SH a = (8, 0) ∧ SH (a + 1) = (50, 6) ∧ LK a 0 = some (a + 1) := by decide +kernel
theorem IsStay.s {a : Nat} (h : IsStay a) : SH a = (8, 0) := (IsStay.all a h).1
theorem IsStay.s1 {a : Nat} (h : IsStay a) : SH (a + 1) = (50, 6) := (IsStay.all a h).2.1
theorem IsStay.l0 {a : Nat} (h : IsStay a) : LK a 0 = some (a + 1) := (IsStay.all a h).2.2
/-- YEARS -/
def IsYear (a : Nat) : Prop := a ∈ [102, 119]
theorem IsYear.all : ∀ a ∈ [102, 119], SH a = (10, 0) ∧ SH (a + 1) = (50, 360) ∧ SH (a + 2) = (8, 0) ∧ SH (a + 3) = (50, 6) ∧ SH (a + 4) = (68, 12) ∧ LK a 0 = some (a + 1) ∧ LK a 1 = some (a + 2) ∧ LK a 2 = some (a + 4) := by decide +kernel
theorem IsYear.s {a : Nat} (h : IsYear a) : SH a = (10, 0) := (IsYear.all a h).1
theorem IsYear.s1 {a : Nat} (h : IsYear a) : SH (a + 1) = (50, 360) := (IsYear.all a h).2.1
theorem IsYear.s2 {a : Nat} (h : IsYear a) : SH (a + 2) = (8, 0) := (IsYear.all a h).2.2.1
theorem IsYear.s3 {a : Nat} (h : IsYear a) : SH (a + 3) = (50, 6) := (IsYear.all a h).2.2.2.1
theorem IsYear.s4 {a : Nat} (h : IsYear a) : SH (a + 4) = (68, 12) := (IsYear.all a h).2.2.2.2.1
theorem IsYear.l0 {a : Nat} (h : IsYear a) : LK a 0 = some (a + 1) := (IsYear.all a h).2.2.2.2.2.1
theorem IsYear.l1 {a : Nat} (h : IsYear a) : LK a 1 = some (a + 2) := (IsYear.all a h).2.2.2.2.2.2.1
theorem IsYear.l2 {a : Nat} (h : IsYear a) : LK a 2 = some (a + 4) := (IsYear.all a h).2.2.2.2.2.2.2
/-- SUMS -/
def IsSum (a : Nat) : Prop := a ∈ [90, 107, 108, 109, 110, 111, 112, 113, 114, 115, 116, 117, 118, 124, 125, 126, 127, 128, 129, 130, 131, 132, 133, 134, 135]
theorem IsSum.all : ∀ a ∈ [90, 107, 108, 109, 110, 111, 112, 113, 114, 115, 116, 117, 118, 124, 125, 126, 127, 128, 129, 130, 131, 132, 133, 134, 135], SH a = (9, 0) := by decide +kernel
theorem IsSum.s {a : Nat} (h : IsSum a) : SH a = (9, 0) := (IsSum.all a h)
/-- rows of facts -/
def IsFact (a : Nat) : Prop := a ∈ [276, 277, 278, 279, 280, 281]
theorem IsFact.all : ∀ a ∈ [276, 277, 278, 279, 280, 281], SH a = (50, 8) := by decide +kernel
theorem IsFact.s {a : Nat} (h : IsFact a) : SH a = (50, 8) := (IsFact.all a h)
/-- rows of the ring -/
def IsRow (a : Nat) : Prop := a ∈ [293, 294, 295, 296, 297, 298]
theorem IsRow.all : ∀ a ∈ [293, 294, 295, 296, 297, 298], SH a = (51, 7) := by decide +kernel
theorem IsRow.s {a : Nat} (h : IsRow a) : SH a = (51, 7) := (IsRow.all a h)
theorem IsLaw.of {a : Nat} (h : SH a = (2, 0)) : IsLaw a := by
  have q := SH_hi (a := a) (by rw [h]; intro z; cases z)
  have t := all_ids (P := fun a => decide (SH a = (2, 0) → a ∈ [91, 136, 144, 152, 160, 168, 176])) (by decide +kernel) q.2
  exact of_decide_eq_true t h
theorem IsPact.of {a : Nat} (h : SH a = (4, 0)) : IsPact a := by
  have q := SH_hi (a := a) (by rw [h]; intro z; cases z)
  have t := all_ids (P := fun a => decide (SH a = (4, 0) → a ∈ [99, 184, 190, 196, 202, 208, 214, 220, 226, 232, 238, 244, 250, 256, 262, 268, 187, 193, 199, 205, 211, 217, 223, 229, 235, 241, 247, 253, 259, 265, 271])) (by decide +kernel) q.2
  exact of_decide_eq_true t h
theorem lk_years : ∀ y, y < 2 → LK 63 y = some (102 + 17 * y) := by decide +kernel
theorem is_year : ∀ y, y < 2 → IsYear (102 + 17 * y) := by
  intro y hy
  have : y = 0 ∨ y = 1 := by omega
  rcases this with rfl | rfl <;> simp [IsYear]
theorem lk_sums : ∀ y, y < 2 → ∀ i, i < 12 → LK (106 + 17 * y) i = some (107 + 17 * y + i) := by decide +kernel
theorem is_sum : ∀ y, y < 2 → ∀ i, i < 12 → (107 + 17 * y + i) ∈ [90, 107, 108, 109, 110, 111, 112, 113, 114, 115, 116, 117, 118, 124, 125, 126, 127, 128, 129, 130, 131, 132, 133, 134, 135] := by decide +kernel
theorem lk_facts : ∀ l, l < 6 → LK 275 l = some (276 + l) := by decide +kernel
theorem is_fact : ∀ l, l < 6 → (276 + l) ∈ [276, 277, 278, 279, 280, 281] := by decide +kernel
theorem lk_amended : ∀ p, p < 15 → LK 66 p = some (187 + 6 * p) := by decide +kernel
