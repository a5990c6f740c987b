/-! walks: X4_states, X4_then, X4_thinks, X1_placeOfWrongLetter -/
def eX4_states_0 : List xI := [(.aload_n 0, 1, 0, 0, 0), (.getfield 61, 3, 4, 8, 0), (.istore_n 2, 1, 0, 0, 0), (.aload_n 0, 1, 0, 0, 0)]
theorem kX4_states_0 : xcode (xmb mX4_states) (xmo mX4_states) 0 eX4_states_0 = true := by decide +kernel
def eX4_states_9 : List xI := [(.istore_n 3, 1, 0, 0, 0), (.aload_n 0, 1, 0, 0, 0), (.dup, 1, 0, 0, 0), (.getfield 61, 3, 4, 8, 0), (.iconst 1, 1, 0, 0, (1)), (.iadd, 1, 0, 0, 0), (.putfield 61, 3, 4, 8, 0), (.iload_n 3, 1, 0, 0, 0)]
theorem kX4_states_9 : xcode (xmb mX4_states) (xmo mX4_states) 9 eX4_states_9 = true := by decide +kernel
def eX4_states_392 : List xI := [(.aload_n 0, 1, 0, 0, 0)]
theorem kX4_states_392 : xcode (xmb mX4_states) (xmo mX4_states) 392 eX4_states_392 = true := by decide +kernel
def eX4_states_396 : List xI := [(.istore 4, 2, 0, 0, 0), (.aload_n 0, 1, 0, 0, 0)]
theorem kX4_states_396 : xcode (xmb mX4_states) (xmo mX4_states) 396 eX4_states_396 = true := by decide +kernel
def eX4_states_402 : List xI := [(.istore 5, 2, 0, 0, 0), (.aload_n 0, 1, 0, 0, 0), (.iload 4, 2, 0, 0, 0), (.bipush 24, 2, 0, 0, (24))]
theorem kX4_states_402 : xcode (xmb mX4_states) (xmo mX4_states) 402 eX4_states_402 = true := by decide +kernel
def eX4_states_416 : List xI := [(.iconst 0, 1, 0, 0, (0))]
theorem kX4_states_416 : xcode (xmb mX4_states) (xmo mX4_states) 416 eX4_states_416 = true := by decide +kernel
def eX4_states_417 : List xI := [(.iload_n 2, 1, 0, 0, 0)]
theorem kX4_states_417 : xcode (xmb mX4_states) (xmo mX4_states) 417 eX4_states_417 = true := by decide +kernel
def eX4_states_421 : List xI := [(.iload_n 1, 1, 0, 0, 0)]
theorem kX4_states_421 : xcode (xmb mX4_states) (xmo mX4_states) 421 eX4_states_421 = true := by decide +kernel
def eX4_states_540 : List xI := [(.aload_n 0, 1, 0, 0, 0), (.bipush 59, 2, 0, 0, (59)), (.bipush 59, 2, 0, 0, (59))]
theorem kX4_states_540 : xcode (xmb mX4_states) (xmo mX4_states) 540 eX4_states_540 = true := by decide +kernel
def eX4_states_548 : List xI := [(.pop, 1, 0, 0, 0)]
theorem kX4_states_548 : xcode (xmb mX4_states) (xmo mX4_states) 548 eX4_states_548 = true := by decide +kernel
def eX4_states_425 : List xI := [(.aload_n 0, 1, 0, 0, 0), (.getfield 7, 3, 4, 1, 0), (.bipush 120, 2, 0, 0, (120)), (.iload 4, 2, 0, 0, 0), (.iadd, 1, 0, 0, 0), (.iload 5, 2, 0, 0, 0), (.iastore, 1, 0, 0, 0)]
theorem kX4_states_425 : xcode (xmb mX4_states) (xmo mX4_states) 425 eX4_states_425 = true := by decide +kernel
def eX4_states_412 : List xI := [(.iconst 1, 1, 0, 0, (1))]
theorem kX4_states_412 : xcode (xmb mX4_states) (xmo mX4_states) 412 eX4_states_412 = true := by decide +kernel
def eX4_states_513 : List xI := [(.iload_n 1, 1, 0, 0, 0)]
theorem kX4_states_513 : xcode (xmb mX4_states) (xmo mX4_states) 513 eX4_states_513 = true := by decide +kernel
def eX4_states_517 : List xI := [(.aload_n 0, 1, 0, 0, 0)]
theorem kX4_states_517 : xcode (xmb mX4_states) (xmo mX4_states) 517 eX4_states_517 = true := by decide +kernel
def eX4_states_521 : List xI := [(.pop, 1, 0, 0, 0)]
theorem kX4_states_521 : xcode (xmb mX4_states) (xmo mX4_states) 521 eX4_states_521 = true := by decide +kernel
def eX4_states_263 : List xI := [(.aload_n 0, 1, 0, 0, 0)]
theorem kX4_states_263 : xcode (xmb mX4_states) (xmo mX4_states) 263 eX4_states_263 = true := by decide +kernel
def eX4_states_267 : List xI := [(.istore 4, 2, 0, 0, 0), (.aload_n 0, 1, 0, 0, 0)]
theorem kX4_states_267 : xcode (xmb mX4_states) (xmo mX4_states) 267 eX4_states_267 = true := by decide +kernel
def eX4_states_273 : List xI := [(.istore 5, 2, 0, 0, 0), (.aload_n 0, 1, 0, 0, 0), (.bipush 97, 2, 0, 0, (97)), (.bipush 122, 2, 0, 0, (122))]
theorem kX4_states_273 : xcode (xmb mX4_states) (xmo mX4_states) 273 eX4_states_273 = true := by decide +kernel
def eX4_states_283 : List xI := [(.istore 6, 2, 0, 0, 0), (.aload_n 0, 1, 0, 0, 0)]
theorem kX4_states_283 : xcode (xmb mX4_states) (xmo mX4_states) 283 eX4_states_283 = true := by decide +kernel
def eX4_states_289 : List xI := [(.istore 7, 2, 0, 0, 0), (.aload_n 0, 1, 0, 0, 0), (.iload 5, 2, 0, 0, 0), (.bipush 6, 2, 0, 0, (6))]
theorem kX4_states_289 : xcode (xmb mX4_states) (xmo mX4_states) 289 eX4_states_289 = true := by decide +kernel
def eX4_states_303 : List xI := [(.iconst 0, 1, 0, 0, (0))]
theorem kX4_states_303 : xcode (xmb mX4_states) (xmo mX4_states) 303 eX4_states_303 = true := by decide +kernel
def eX4_states_304 : List xI := [(.iload_n 2, 1, 0, 0, 0)]
theorem kX4_states_304 : xcode (xmb mX4_states) (xmo mX4_states) 304 eX4_states_304 = true := by decide +kernel
def eX4_states_308 : List xI := [(.iload_n 1, 1, 0, 0, 0)]
theorem kX4_states_308 : xcode (xmb mX4_states) (xmo mX4_states) 308 eX4_states_308 = true := by decide +kernel
def eX4_states_312 : List xI := [(.aload_n 0, 1, 0, 0, 0), (.getfield 7, 3, 4, 1, 0), (.bipush 60, 2, 0, 0, (60)), (.bipush 6, 2, 0, 0, (6)), (.iload 4, 2, 0, 0, 0), (.imul, 1, 0, 0, 0), (.iadd, 1, 0, 0, 0), (.iload 5, 2, 0, 0, 0), (.iadd, 1, 0, 0, 0), (.bipush 26, 2, 0, 0, (26)), (.iload 7, 2, 0, 0, 0), (.imul, 1, 0, 0, 0), (.iload 6, 2, 0, 0, 0), (.iadd, 1, 0, 0, 0), (.iastore, 1, 0, 0, 0)]
theorem kX4_states_312 : xcode (xmb mX4_states) (xmo mX4_states) 312 eX4_states_312 = true := by decide +kernel
def eX4_states_299 : List xI := [(.iconst 1, 1, 0, 0, (1))]
theorem kX4_states_299 : xcode (xmb mX4_states) (xmo mX4_states) 299 eX4_states_299 = true := by decide +kernel
def eX4_states_128 : List xI := [(.aload_n 0, 1, 0, 0, 0)]
theorem kX4_states_128 : xcode (xmb mX4_states) (xmo mX4_states) 128 eX4_states_128 = true := by decide +kernel
def eX4_states_132 : List xI := [(.istore 4, 2, 0, 0, 0), (.aload_n 0, 1, 0, 0, 0), (.getfield 68, 3, 4, 9, 0)]
theorem kX4_states_132 : xcode (xmb mX4_states) (xmo mX4_states) 132 eX4_states_132 = true := by decide +kernel
def eX4_states_145 : List xI := [(.aload_n 0, 1, 0, 0, 0)]
theorem kX4_states_145 : xcode (xmb mX4_states) (xmo mX4_states) 145 eX4_states_145 = true := by decide +kernel
def eX4_states_149 : List xI := [(.istore 5, 2, 0, 0, 0), (.aload_n 0, 1, 0, 0, 0)]
theorem kX4_states_149 : xcode (xmb mX4_states) (xmo mX4_states) 149 eX4_states_149 = true := by decide +kernel
def eX4_states_155 : List xI := [(.istore 6, 2, 0, 0, 0), (.aload_n 0, 1, 0, 0, 0)]
theorem kX4_states_155 : xcode (xmb mX4_states) (xmo mX4_states) 155 eX4_states_155 = true := by decide +kernel
def eX4_states_161 : List xI := [(.istore 7, 2, 0, 0, 0), (.iload_n 1, 1, 0, 0, 0)]
theorem kX4_states_161 : xcode (xmb mX4_states) (xmo mX4_states) 161 eX4_states_161 = true := by decide +kernel
def eX4_states_167 : List xI := [(.aload_n 0, 1, 0, 0, 0), (.getfield 7, 3, 4, 1, 0), (.iconst 0, 1, 0, 0, (0)), (.iload 4, 2, 0, 0, 0), (.iadd, 1, 0, 0, 0), (.iload 5, 2, 0, 0, 0), (.iastore, 1, 0, 0, 0), (.aload_n 0, 1, 0, 0, 0), (.getfield 7, 3, 4, 1, 0), (.bipush 10, 2, 0, 0, (10)), (.iload 4, 2, 0, 0, 0), (.iadd, 1, 0, 0, 0), (.iload 6, 2, 0, 0, 0), (.iastore, 1, 0, 0, 0), (.aload_n 0, 1, 0, 0, 0), (.getfield 7, 3, 4, 1, 0), (.bipush 20, 2, 0, 0, (20)), (.iload 4, 2, 0, 0, 0), (.iadd, 1, 0, 0, 0), (.iload 7, 2, 0, 0, 0), (.iastore, 1, 0, 0, 0)]
theorem kX4_states_167 : xcode (xmb mX4_states) (xmo mX4_states) 167 eX4_states_167 = true := by decide +kernel
def eX4_states_141 : List xI := [(.iconst 0, 1, 0, 0, (0))]
theorem kX4_states_141 : xcode (xmb mX4_states) (xmo mX4_states) 141 eX4_states_141 = true := by decide +kernel
def eX4_states_440 : List xI := [(.aload_n 0, 1, 0, 0, 0)]
theorem kX4_states_440 : xcode (xmb mX4_states) (xmo mX4_states) 440 eX4_states_440 = true := by decide +kernel
def eX4_states_444 : List xI := [(.istore 4, 2, 0, 0, 0), (.aload_n 0, 1, 0, 0, 0), (.iload 4, 2, 0, 0, 0), (.bipush 24, 2, 0, 0, (24))]
theorem kX4_states_444 : xcode (xmb mX4_states) (xmo mX4_states) 444 eX4_states_444 = true := by decide +kernel
def eX4_states_458 : List xI := [(.iconst 0, 1, 0, 0, (0))]
theorem kX4_states_458 : xcode (xmb mX4_states) (xmo mX4_states) 458 eX4_states_458 = true := by decide +kernel
def eX4_states_459 : List xI := [(.iload_n 2, 1, 0, 0, 0)]
theorem kX4_states_459 : xcode (xmb mX4_states) (xmo mX4_states) 459 eX4_states_459 = true := by decide +kernel
def eX4_states_463 : List xI := [(.iload_n 1, 1, 0, 0, 0)]
theorem kX4_states_463 : xcode (xmb mX4_states) (xmo mX4_states) 463 eX4_states_463 = true := by decide +kernel
def eX4_states_467 : List xI := [(.aload_n 0, 1, 0, 0, 0), (.getfield 7, 3, 4, 1, 0), (.sipush 144, 3, 0, 0, (144)), (.dup2, 1, 0, 0, 0), (.iaload, 1, 0, 0, 0), (.iconst 1, 1, 0, 0, (1)), (.iload 4, 2, 0, 0, 0), (.ishl, 1, 0, 0, 0), (.ixor, 1, 0, 0, 0), (.iastore, 1, 0, 0, 0)]
theorem kX4_states_467 : xcode (xmb mX4_states) (xmo mX4_states) 467 eX4_states_467 = true := by decide +kernel
def eX4_states_454 : List xI := [(.iconst 1, 1, 0, 0, (1))]
theorem kX4_states_454 : xcode (xmb mX4_states) (xmo mX4_states) 454 eX4_states_454 = true := by decide +kernel
def eX4_states_205 : List xI := [(.aload_n 0, 1, 0, 0, 0)]
theorem kX4_states_205 : xcode (xmb mX4_states) (xmo mX4_states) 205 eX4_states_205 = true := by decide +kernel
def eX4_states_209 : List xI := [(.istore 4, 2, 0, 0, 0), (.aload_n 0, 1, 0, 0, 0)]
theorem kX4_states_209 : xcode (xmb mX4_states) (xmo mX4_states) 209 eX4_states_209 = true := by decide +kernel
def eX4_states_215 : List xI := [(.istore 5, 2, 0, 0, 0), (.aload_n 0, 1, 0, 0, 0)]
theorem kX4_states_215 : xcode (xmb mX4_states) (xmo mX4_states) 215 eX4_states_215 = true := by decide +kernel
def eX4_states_221 : List xI := [(.istore 6, 2, 0, 0, 0), (.aload_n 0, 1, 0, 0, 0), (.iload 5, 2, 0, 0, 0), (.iconst 3, 1, 0, 0, (3))]
theorem kX4_states_221 : xcode (xmb mX4_states) (xmo mX4_states) 221 eX4_states_221 = true := by decide +kernel
def eX4_states_234 : List xI := [(.iconst 0, 1, 0, 0, (0))]
theorem kX4_states_234 : xcode (xmb mX4_states) (xmo mX4_states) 234 eX4_states_234 = true := by decide +kernel
def eX4_states_235 : List xI := [(.iload_n 2, 1, 0, 0, 0)]
theorem kX4_states_235 : xcode (xmb mX4_states) (xmo mX4_states) 235 eX4_states_235 = true := by decide +kernel
def eX4_states_239 : List xI := [(.iload_n 1, 1, 0, 0, 0)]
theorem kX4_states_239 : xcode (xmb mX4_states) (xmo mX4_states) 239 eX4_states_239 = true := by decide +kernel
def eX4_states_243 : List xI := [(.aload_n 0, 1, 0, 0, 0), (.getfield 7, 3, 4, 1, 0), (.bipush 30, 2, 0, 0, (30)), (.iconst 3, 1, 0, 0, (3)), (.iload 4, 2, 0, 0, 0), (.imul, 1, 0, 0, 0), (.iadd, 1, 0, 0, 0), (.iload 5, 2, 0, 0, 0), (.iadd, 1, 0, 0, 0), (.iload 6, 2, 0, 0, 0), (.iastore, 1, 0, 0, 0)]
theorem kX4_states_243 : xcode (xmb mX4_states) (xmo mX4_states) 243 eX4_states_243 = true := by decide +kernel
def eX4_states_230 : List xI := [(.iconst 1, 1, 0, 0, (1))]
theorem kX4_states_230 : xcode (xmb mX4_states) (xmo mX4_states) 230 eX4_states_230 = true := by decide +kernel
def eX4_states_485 : List xI := [(.aload_n 0, 1, 0, 0, 0)]
theorem kX4_states_485 : xcode (xmb mX4_states) (xmo mX4_states) 485 eX4_states_485 = true := by decide +kernel
def eX4_states_489 : List xI := [(.istore 4, 2, 0, 0, 0), (.iload_n 1, 1, 0, 0, 0)]
theorem kX4_states_489 : xcode (xmb mX4_states) (xmo mX4_states) 489 eX4_states_489 = true := by decide +kernel
def eX4_states_495 : List xI := [(.aload_n 0, 1, 0, 0, 0), (.getfield 7, 3, 4, 1, 0), (.sipush 145, 3, 0, 0, (145)), (.dup2, 1, 0, 0, 0), (.iaload, 1, 0, 0, 0), (.iconst 1, 1, 0, 0, (1)), (.iload 4, 2, 0, 0, 0), (.ishl, 1, 0, 0, 0), (.ixor, 1, 0, 0, 0), (.iastore, 1, 0, 0, 0)]
theorem kX4_states_495 : xcode (xmb mX4_states) (xmo mX4_states) 495 eX4_states_495 = true := by decide +kernel
def eX4_states_339 : List xI := [(.aload_n 0, 1, 0, 0, 0)]
theorem kX4_states_339 : xcode (xmb mX4_states) (xmo mX4_states) 339 eX4_states_339 = true := by decide +kernel
def eX4_states_343 : List xI := [(.istore 4, 2, 0, 0, 0), (.aload_n 0, 1, 0, 0, 0)]
theorem kX4_states_343 : xcode (xmb mX4_states) (xmo mX4_states) 343 eX4_states_343 = true := by decide +kernel
def eX4_states_349 : List xI := [(.istore 5, 2, 0, 0, 0), (.aload_n 0, 1, 0, 0, 0), (.iload 5, 2, 0, 0, 0), (.bipush 6, 2, 0, 0, (6))]
theorem kX4_states_349 : xcode (xmb mX4_states) (xmo mX4_states) 349 eX4_states_349 = true := by decide +kernel
def eX4_states_363 : List xI := [(.iconst 0, 1, 0, 0, (0))]
theorem kX4_states_363 : xcode (xmb mX4_states) (xmo mX4_states) 363 eX4_states_363 = true := by decide +kernel
def eX4_states_364 : List xI := [(.iload_n 2, 1, 0, 0, 0)]
theorem kX4_states_364 : xcode (xmb mX4_states) (xmo mX4_states) 364 eX4_states_364 = true := by decide +kernel
def eX4_states_368 : List xI := [(.iload_n 1, 1, 0, 0, 0)]
theorem kX4_states_368 : xcode (xmb mX4_states) (xmo mX4_states) 368 eX4_states_368 = true := by decide +kernel
def eX4_states_372 : List xI := [(.aload_n 0, 1, 0, 0, 0), (.getfield 7, 3, 4, 1, 0), (.bipush 60, 2, 0, 0, (60)), (.bipush 6, 2, 0, 0, (6)), (.iload 4, 2, 0, 0, 0), (.imul, 1, 0, 0, 0), (.iadd, 1, 0, 0, 0), (.iload 5, 2, 0, 0, 0), (.iadd, 1, 0, 0, 0), (.iconst (-1), 1, 0, 0, (-1)), (.iastore, 1, 0, 0, 0)]
theorem kX4_states_372 : xcode (xmb mX4_states) (xmo mX4_states) 372 eX4_states_372 = true := by decide +kernel
def eX4_states_359 : List xI := [(.iconst 1, 1, 0, 0, (1))]
theorem kX4_states_359 : xcode (xmb mX4_states) (xmo mX4_states) 359 eX4_states_359 = true := by decide +kernel
def eX4_states_525 : List xI := [(.aload_n 0, 1, 0, 0, 0), (.dup, 1, 0, 0, 0), (.getfield 61, 3, 4, 8, 0), (.iconst 1, 1, 0, 0, (1)), (.isub, 1, 0, 0, 0), (.putfield 61, 3, 4, 8, 0), (.aload_n 0, 1, 0, 0, 0), (.iconst 1, 1, 0, 0, (1)), (.putfield 68, 3, 4, 9, 0)]
theorem kX4_states_525 : xcode (xmb mX4_states) (xmo mX4_states) 525 eX4_states_525 = true := by decide +kernel
def wX4_states_540 (p1 : Int32) (Q : xM → Prop) (M : xM) : Prop :=
    wX4_one M (59 : Int32) (59 : Int32) (fun r545 M545 => Q M545)
set_option maxHeartbeats 4000000 in
set_option maxRecDepth 100000 in
theorem tX4_states_540 {l : Launch} {E : xE} {p1 : Int32} {Q : xM → Prop} (M : xM) (h : wX4_states_540 p1 Q M ) : Gx l E mX4_states (xRv Q) 540 M [some (.ref 50), none, none, none, none, none, none, none] [] := by
  unfold wX4_states_540 at h
  refine Gx_run (es := eX4_states_540) (P := []) (M' := M) (L' := [some (.ref 50), none, none, none, none, none, none, none]) (st' := [.int (59 : Int32), .int (59 : Int32), .ref 50]) (pc' := 545) kX4_states_540 rfl trivial rfl ?_
  refine Gx_callV (As := [.int (59 : Int32), .int (59 : Int32)]) (by decide +kernel) ml_4_72 okX4_one mvX4_one rfl (by decide) (Nat.le_of_ble_eq_true rfl) rfl rfl rfl (tX4_one h) (fun rr M545 qq => ?_)
  obtain ⟨r545, rfl, h⟩ := qq
  show Gx l E mX4_states _ 548 M545 [some (.ref 50), none, none, none, none, none, none, none] [.int r545]
  refine Gx_run (es := eX4_states_548) (P := []) (M' := M545) (L' := [some (.ref 50), none, none, none, none, none, none, none]) (st' := []) (pc' := 549) kX4_states_548 rfl trivial rfl ?_
  exact Gx_vret (by decide +kernel) rfl ⟨rfl, h⟩
def wX4_states_417 (p1 : Int32) (Q : xM → Prop) (M : xM) (a2 : Int32) (a4 : Int32) (a5 : Int32) (s0 : Int32) : Prop :=
    wX4_must M s0 a2 (fun M418 => (((p1 = 0) → (wX4_states_540 p1 Q M418)) ∧ ((¬ p1 = 0) → ((vp_in ((120 : Int32) + a4) 147) ∧ wX4_states_540 p1 Q (xup M418 51 ((120 : Int32) + a4).toNatClampNeg a5)))))
set_option maxHeartbeats 4000000 in
set_option maxRecDepth 100000 in
theorem tX4_states_417 {l : Launch} {E : xE} {p1 : Int32} {Q : xM → Prop} (M : xM) (a2 : Int32) (a4 : Int32) (a5 : Int32) (s0 : Int32) (h : wX4_states_417 p1 Q M a2 a4 a5 s0) : Gx l E mX4_states (xRv Q) 417 M [some (.ref 50), some (.int p1), some (.int a2), none, some (.int a4), some (.int a5), none, none] [.int s0, .ref 50] := by
  unfold wX4_states_417 at h
  refine Gx_run (es := eX4_states_417) (P := []) (M' := M) (L' := [some (.ref 50), some (.int p1), some (.int a2), none, some (.int a4), some (.int a5), none, none]) (st' := [.int a2, .int s0, .ref 50]) (pc' := 418) kX4_states_417 rfl trivial rfl ?_
  refine Gx_callV (As := [.int s0, .int a2]) (by decide +kernel) ml_4_96 okX4_must mvX4_must rfl (by decide) (Nat.le_of_ble_eq_true rfl) rfl rfl rfl (tX4_must h) (fun rr M418 qq => ?_)
  obtain ⟨rfl, h⟩ := qq
  show Gx l E mX4_states _ 421 M418 [some (.ref 50), some (.int p1), some (.int a2), none, some (.int a4), some (.int a5), none, none] []
  refine Gx_run (es := eX4_states_421) (P := []) (M' := M418) (L' := [some (.ref 50), some (.int p1), some (.int a2), none, some (.int a4), some (.int a5), none, none]) (st' := [.int p1]) (pc' := 422) kX4_states_421 rfl trivial rfl ?_
  refine Gx_if_eq (off := 118) (tgt := 540) (by decide +kernel) (by decide) (fun z => ?_) (fun z => ?_)
  · have h := h.1 z
    refine Gx_mask [true, false, false, false, false, false, false, false] (L' := [some (.ref 50), none, none, none, none, none, none, none]) rfl ?_
    exact tX4_states_540  M418 h
  · have h := h.2 z
    obtain ⟨g425_0, h⟩ := h
    refine Gx_run (es := eX4_states_425) (P := [xkd 50 = 4, xkd 51 = 5, vp_in ((120 : Int32) + a4) (xln 51)]) (M' := (xup M418 51 ((120 : Int32) + a4).toNatClampNeg a5)) (L' := [some (.ref 50), some (.int p1), some (.int a2), none, some (.int a4), some (.int a5), none, none]) (st' := []) (pc' := 437) kX4_states_425 rfl ⟨rfl, rfl, g425_0, trivial⟩ rfl ?_
    refine Gx_goto (off := 103) (tgt := 540) (by decide +kernel) (by decide) ?_
    refine Gx_mask [true, false, false, false, false, false, false, false] (L' := [some (.ref 50), none, none, none, none, none, none, none]) rfl ?_
    exact tX4_states_540  (xup M418 51 ((120 : Int32) + a4).toNatClampNeg a5) h
def wX4_states_304 (p1 : Int32) (Q : xM → Prop) (M : xM) (a2 : Int32) (a4 : Int32) (a5 : Int32) (a6 : Int32) (a7 : Int32) (s0 : Int32) : Prop :=
    wX4_must M s0 a2 (fun M305 => (((p1 = 0) → (wX4_states_540 p1 Q M305)) ∧ ((¬ p1 = 0) → ((vp_in (((60 : Int32) + ((6 : Int32) * a4)) + a5) 147) ∧ wX4_states_540 p1 Q (xup M305 51 (((60 : Int32) + ((6 : Int32) * a4)) + a5).toNatClampNeg (((26 : Int32) * a7) + a6))))))
set_option maxHeartbeats 4000000 in
set_option maxRecDepth 100000 in
theorem tX4_states_304 {l : Launch} {E : xE} {p1 : Int32} {Q : xM → Prop} (M : xM) (a2 : Int32) (a4 : Int32) (a5 : Int32) (a6 : Int32) (a7 : Int32) (s0 : Int32) (h : wX4_states_304 p1 Q M a2 a4 a5 a6 a7 s0) : Gx l E mX4_states (xRv Q) 304 M [some (.ref 50), some (.int p1), some (.int a2), none, some (.int a4), some (.int a5), some (.int a6), some (.int a7)] [.int s0, .ref 50] := by
  unfold wX4_states_304 at h
  refine Gx_run (es := eX4_states_304) (P := []) (M' := M) (L' := [some (.ref 50), some (.int p1), some (.int a2), none, some (.int a4), some (.int a5), some (.int a6), some (.int a7)]) (st' := [.int a2, .int s0, .ref 50]) (pc' := 305) kX4_states_304 rfl trivial rfl ?_
  refine Gx_callV (As := [.int s0, .int a2]) (by decide +kernel) ml_4_96 okX4_must mvX4_must rfl (by decide) (Nat.le_of_ble_eq_true rfl) rfl rfl rfl (tX4_must h) (fun rr M305 qq => ?_)
  obtain ⟨rfl, h⟩ := qq
  show Gx l E mX4_states _ 308 M305 [some (.ref 50), some (.int p1), some (.int a2), none, some (.int a4), some (.int a5), some (.int a6), some (.int a7)] []
  refine Gx_run (es := eX4_states_308) (P := []) (M' := M305) (L' := [some (.ref 50), some (.int p1), some (.int a2), none, some (.int a4), some (.int a5), some (.int a6), some (.int a7)]) (st' := [.int p1]) (pc' := 309) kX4_states_308 rfl trivial rfl ?_
  refine Gx_if_eq (off := 231) (tgt := 540) (by decide +kernel) (by decide) (fun z => ?_) (fun z => ?_)
  · have h := h.1 z
    refine Gx_mask [true, false, false, false, false, false, false, false] (L' := [some (.ref 50), none, none, none, none, none, none, none]) rfl ?_
    exact tX4_states_540  M305 h
  · have h := h.2 z
    obtain ⟨g312_0, h⟩ := h
    refine Gx_run (es := eX4_states_312) (P := [xkd 50 = 4, xkd 51 = 5, vp_in (((60 : Int32) + ((6 : Int32) * a4)) + a5) (xln 51)]) (M' := (xup M305 51 (((60 : Int32) + ((6 : Int32) * a4)) + a5).toNatClampNeg (((26 : Int32) * a7) + a6))) (L' := [some (.ref 50), some (.int p1), some (.int a2), none, some (.int a4), some (.int a5), some (.int a6), some (.int a7)]) (st' := []) (pc' := 336) kX4_states_312 rfl ⟨rfl, rfl, g312_0, trivial⟩ rfl ?_
    refine Gx_goto (off := 204) (tgt := 540) (by decide +kernel) (by decide) ?_
    refine Gx_mask [true, false, false, false, false, false, false, false] (L' := [some (.ref 50), none, none, none, none, none, none, none]) rfl ?_
    exact tX4_states_540  (xup M305 51 (((60 : Int32) + ((6 : Int32) * a4)) + a5).toNatClampNeg (((26 : Int32) * a7) + a6)) h
def wX4_states_149 (p1 : Int32) (Q : xM → Prop) (M : xM) (a4 : Int32) (s0 : Int32) : Prop :=
    wX4_digit M (fun r152 M152 => wX4_digit M152 (fun r158 M158 => (((p1 = 0) → (wX4_states_540 p1 Q M158)) ∧ ((¬ p1 = 0) → ((vp_in ((0 : Int32) + a4) 147) ∧ (vp_in ((10 : Int32) + a4) 147) ∧ (vp_in ((20 : Int32) + a4) 147) ∧ wX4_states_540 p1 Q (xup (xup (xup M158 51 ((0 : Int32) + a4).toNatClampNeg s0) 51 ((10 : Int32) + a4).toNatClampNeg r152) 51 ((20 : Int32) + a4).toNatClampNeg r158))))))
set_option maxHeartbeats 4000000 in
set_option maxRecDepth 100000 in
theorem tX4_states_149 {l : Launch} {E : xE} {p1 : Int32} {Q : xM → Prop} (M : xM) (a4 : Int32) (s0 : Int32) (h : wX4_states_149 p1 Q M a4 s0) : Gx l E mX4_states (xRv Q) 149 M [some (.ref 50), some (.int p1), none, none, some (.int a4), none, none, none] [.int s0] := by
  unfold wX4_states_149 at h
  refine Gx_run (es := eX4_states_149) (P := []) (M' := M) (L' := [some (.ref 50), some (.int p1), none, none, some (.int a4), some (.int s0), none, none]) (st' := [.ref 50]) (pc' := 152) kX4_states_149 rfl trivial rfl ?_
  refine Gx_callV (As := []) (by decide +kernel) ml_4_76 okX4_digit mvX4_digit rfl (by decide) (Nat.le_of_ble_eq_true rfl) rfl rfl rfl (tX4_digit h) (fun rr M152 qq => ?_)
  obtain ⟨r152, rfl, h⟩ := qq
  show Gx l E mX4_states _ 155 M152 [some (.ref 50), some (.int p1), none, none, some (.int a4), some (.int s0), none, none] [.int r152]
  refine Gx_run (es := eX4_states_155) (P := []) (M' := M152) (L' := [some (.ref 50), some (.int p1), none, none, some (.int a4), some (.int s0), some (.int r152), none]) (st' := [.ref 50]) (pc' := 158) kX4_states_155 rfl trivial rfl ?_
  refine Gx_callV (As := []) (by decide +kernel) ml_4_76 okX4_digit mvX4_digit rfl (by decide) (Nat.le_of_ble_eq_true rfl) rfl rfl rfl (tX4_digit h) (fun rr M158 qq => ?_)
  obtain ⟨r158, rfl, h⟩ := qq
  show Gx l E mX4_states _ 161 M158 [some (.ref 50), some (.int p1), none, none, some (.int a4), some (.int s0), some (.int r152), none] [.int r158]
  refine Gx_run (es := eX4_states_161) (P := []) (M' := M158) (L' := [some (.ref 50), some (.int p1), none, none, some (.int a4), some (.int s0), some (.int r152), some (.int r158)]) (st' := [.int p1]) (pc' := 164) kX4_states_161 rfl trivial rfl ?_
  refine Gx_if_eq (off := 376) (tgt := 540) (by decide +kernel) (by decide) (fun z => ?_) (fun z => ?_)
  · have h := h.1 z
    refine Gx_mask [true, false, false, false, false, false, false, false] (L' := [some (.ref 50), none, none, none, none, none, none, none]) rfl ?_
    exact tX4_states_540  M158 h
  · have h := h.2 z
    obtain ⟨g167_0, g167_1, g167_2, h⟩ := h
    refine Gx_run (es := eX4_states_167) (P := [xkd 50 = 4, xkd 51 = 5, vp_in ((0 : Int32) + a4) (xln 51), xkd 50 = 4, xkd 51 = 5, vp_in ((10 : Int32) + a4) (xln 51), xkd 50 = 4, xkd 51 = 5, vp_in ((20 : Int32) + a4) (xln 51)]) (M' := (xup (xup (xup M158 51 ((0 : Int32) + a4).toNatClampNeg s0) 51 ((10 : Int32) + a4).toNatClampNeg r152) 51 ((20 : Int32) + a4).toNatClampNeg r158)) (L' := [some (.ref 50), some (.int p1), none, none, some (.int a4), some (.int s0), some (.int r152), some (.int r158)]) (st' := []) (pc' := 202) kX4_states_167 rfl ⟨rfl, rfl, g167_0, rfl, rfl, g167_1, rfl, rfl, g167_2, trivial⟩ rfl ?_
    refine Gx_goto (off := 338) (tgt := 540) (by decide +kernel) (by decide) ?_
    refine Gx_mask [true, false, false, false, false, false, false, false] (L' := [some (.ref 50), none, none, none, none, none, none, none]) rfl ?_
    exact tX4_states_540  (xup (xup (xup M158 51 ((0 : Int32) + a4).toNatClampNeg s0) 51 ((10 : Int32) + a4).toNatClampNeg r152) 51 ((20 : Int32) + a4).toNatClampNeg r158) h
def wX4_states_459 (p1 : Int32) (Q : xM → Prop) (M : xM) (a2 : Int32) (a4 : Int32) (s0 : Int32) : Prop :=
    wX4_must M s0 a2 (fun M460 => (((p1 = 0) → (wX4_states_540 p1 Q M460)) ∧ ((¬ p1 = 0) → ((vp_in (144 : Int32) 147) ∧ wX4_states_540 p1 Q (xup M460 51 (144 : Int32).toNatClampNeg ((M460 51 (144 : Int32).toNatClampNeg) ^^^ ((1 : Int32) <<< (a4 &&& 31))))))))
set_option maxHeartbeats 4000000 in
set_option maxRecDepth 100000 in
theorem tX4_states_459 {l : Launch} {E : xE} {p1 : Int32} {Q : xM → Prop} (M : xM) (a2 : Int32) (a4 : Int32) (s0 : Int32) (h : wX4_states_459 p1 Q M a2 a4 s0) : Gx l E mX4_states (xRv Q) 459 M [some (.ref 50), some (.int p1), some (.int a2), none, some (.int a4), none, none, none] [.int s0, .ref 50] := by
  unfold wX4_states_459 at h
  refine Gx_run (es := eX4_states_459) (P := []) (M' := M) (L' := [some (.ref 50), some (.int p1), some (.int a2), none, some (.int a4), none, none, none]) (st' := [.int a2, .int s0, .ref 50]) (pc' := 460) kX4_states_459 rfl trivial rfl ?_
  refine Gx_callV (As := [.int s0, .int a2]) (by decide +kernel) ml_4_96 okX4_must mvX4_must rfl (by decide) (Nat.le_of_ble_eq_true rfl) rfl rfl rfl (tX4_must h) (fun rr M460 qq => ?_)
  obtain ⟨rfl, h⟩ := qq
  show Gx l E mX4_states _ 463 M460 [some (.ref 50), some (.int p1), some (.int a2), none, some (.int a4), none, none, none] []
  refine Gx_run (es := eX4_states_463) (P := []) (M' := M460) (L' := [some (.ref 50), some (.int p1), some (.int a2), none, some (.int a4), none, none, none]) (st' := [.int p1]) (pc' := 464) kX4_states_463 rfl trivial rfl ?_
  refine Gx_if_eq (off := 76) (tgt := 540) (by decide +kernel) (by decide) (fun z => ?_) (fun z => ?_)
  · have h := h.1 z
    refine Gx_mask [true, false, false, false, false, false, false, false] (L' := [some (.ref 50), none, none, none, none, none, none, none]) rfl ?_
    exact tX4_states_540  M460 h
  · have h := h.2 z
    obtain ⟨g467_0, h⟩ := h
    refine Gx_run (es := eX4_states_467) (P := [xkd 50 = 4, xkd 51 = 5, vp_in (144 : Int32) (xln 51), xkd 51 = 5, vp_in (144 : Int32) (xln 51)]) (M' := (xup M460 51 (144 : Int32).toNatClampNeg ((M460 51 (144 : Int32).toNatClampNeg) ^^^ ((1 : Int32) <<< (a4 &&& 31))))) (L' := [some (.ref 50), some (.int p1), some (.int a2), none, some (.int a4), none, none, none]) (st' := []) (pc' := 482) kX4_states_467 rfl ⟨rfl, rfl, g467_0, rfl, g467_0, trivial⟩ rfl ?_
    refine Gx_goto (off := 58) (tgt := 540) (by decide +kernel) (by decide) ?_
    refine Gx_mask [true, false, false, false, false, false, false, false] (L' := [some (.ref 50), none, none, none, none, none, none, none]) rfl ?_
    exact tX4_states_540  (xup M460 51 (144 : Int32).toNatClampNeg ((M460 51 (144 : Int32).toNatClampNeg) ^^^ ((1 : Int32) <<< (a4 &&& 31)))) h
def wX4_states_235 (p1 : Int32) (Q : xM → Prop) (M : xM) (a2 : Int32) (a4 : Int32) (a5 : Int32) (a6 : Int32) (s0 : Int32) : Prop :=
    wX4_must M s0 a2 (fun M236 => (((p1 = 0) → (wX4_states_540 p1 Q M236)) ∧ ((¬ p1 = 0) → ((vp_in (((30 : Int32) + ((3 : Int32) * a4)) + a5) 147) ∧ wX4_states_540 p1 Q (xup M236 51 (((30 : Int32) + ((3 : Int32) * a4)) + a5).toNatClampNeg a6)))))
set_option maxHeartbeats 4000000 in
set_option maxRecDepth 100000 in
theorem tX4_states_235 {l : Launch} {E : xE} {p1 : Int32} {Q : xM → Prop} (M : xM) (a2 : Int32) (a4 : Int32) (a5 : Int32) (a6 : Int32) (s0 : Int32) (h : wX4_states_235 p1 Q M a2 a4 a5 a6 s0) : Gx l E mX4_states (xRv Q) 235 M [some (.ref 50), some (.int p1), some (.int a2), none, some (.int a4), some (.int a5), some (.int a6), none] [.int s0, .ref 50] := by
  unfold wX4_states_235 at h
  refine Gx_run (es := eX4_states_235) (P := []) (M' := M) (L' := [some (.ref 50), some (.int p1), some (.int a2), none, some (.int a4), some (.int a5), some (.int a6), none]) (st' := [.int a2, .int s0, .ref 50]) (pc' := 236) kX4_states_235 rfl trivial rfl ?_
  refine Gx_callV (As := [.int s0, .int a2]) (by decide +kernel) ml_4_96 okX4_must mvX4_must rfl (by decide) (Nat.le_of_ble_eq_true rfl) rfl rfl rfl (tX4_must h) (fun rr M236 qq => ?_)
  obtain ⟨rfl, h⟩ := qq
  show Gx l E mX4_states _ 239 M236 [some (.ref 50), some (.int p1), some (.int a2), none, some (.int a4), some (.int a5), some (.int a6), none] []
  refine Gx_run (es := eX4_states_239) (P := []) (M' := M236) (L' := [some (.ref 50), some (.int p1), some (.int a2), none, some (.int a4), some (.int a5), some (.int a6), none]) (st' := [.int p1]) (pc' := 240) kX4_states_239 rfl trivial rfl ?_
  refine Gx_if_eq (off := 300) (tgt := 540) (by decide +kernel) (by decide) (fun z => ?_) (fun z => ?_)
  · have h := h.1 z
    refine Gx_mask [true, false, false, false, false, false, false, false] (L' := [some (.ref 50), none, none, none, none, none, none, none]) rfl ?_
    exact tX4_states_540  M236 h
  · have h := h.2 z
    obtain ⟨g243_0, h⟩ := h
    refine Gx_run (es := eX4_states_243) (P := [xkd 50 = 4, xkd 51 = 5, vp_in (((30 : Int32) + ((3 : Int32) * a4)) + a5) (xln 51)]) (M' := (xup M236 51 (((30 : Int32) + ((3 : Int32) * a4)) + a5).toNatClampNeg a6)) (L' := [some (.ref 50), some (.int p1), some (.int a2), none, some (.int a4), some (.int a5), some (.int a6), none]) (st' := []) (pc' := 260) kX4_states_243 rfl ⟨rfl, rfl, g243_0, trivial⟩ rfl ?_
    refine Gx_goto (off := 280) (tgt := 540) (by decide +kernel) (by decide) ?_
    refine Gx_mask [true, false, false, false, false, false, false, false] (L' := [some (.ref 50), none, none, none, none, none, none, none]) rfl ?_
    exact tX4_states_540  (xup M236 51 (((30 : Int32) + ((3 : Int32) * a4)) + a5).toNatClampNeg a6) h
def wX4_states_364 (p1 : Int32) (Q : xM → Prop) (M : xM) (a2 : Int32) (a4 : Int32) (a5 : Int32) (s0 : Int32) : Prop :=
    wX4_must M s0 a2 (fun M365 => (((p1 = 0) → (wX4_states_540 p1 Q M365)) ∧ ((¬ p1 = 0) → ((vp_in (((60 : Int32) + ((6 : Int32) * a4)) + a5) 147) ∧ wX4_states_540 p1 Q (xup M365 51 (((60 : Int32) + ((6 : Int32) * a4)) + a5).toNatClampNeg (-1 : Int32))))))
set_option maxHeartbeats 4000000 in
set_option maxRecDepth 100000 in
theorem tX4_states_364 {l : Launch} {E : xE} {p1 : Int32} {Q : xM → Prop} (M : xM) (a2 : Int32) (a4 : Int32) (a5 : Int32) (s0 : Int32) (h : wX4_states_364 p1 Q M a2 a4 a5 s0) : Gx l E mX4_states (xRv Q) 364 M [some (.ref 50), some (.int p1), some (.int a2), none, some (.int a4), some (.int a5), none, none] [.int s0, .ref 50] := by
  unfold wX4_states_364 at h
  refine Gx_run (es := eX4_states_364) (P := []) (M' := M) (L' := [some (.ref 50), some (.int p1), some (.int a2), none, some (.int a4), some (.int a5), none, none]) (st' := [.int a2, .int s0, .ref 50]) (pc' := 365) kX4_states_364 rfl trivial rfl ?_
  refine Gx_callV (As := [.int s0, .int a2]) (by decide +kernel) ml_4_96 okX4_must mvX4_must rfl (by decide) (Nat.le_of_ble_eq_true rfl) rfl rfl rfl (tX4_must h) (fun rr M365 qq => ?_)
  obtain ⟨rfl, h⟩ := qq
  show Gx l E mX4_states _ 368 M365 [some (.ref 50), some (.int p1), some (.int a2), none, some (.int a4), some (.int a5), none, none] []
  refine Gx_run (es := eX4_states_368) (P := []) (M' := M365) (L' := [some (.ref 50), some (.int p1), some (.int a2), none, some (.int a4), some (.int a5), none, none]) (st' := [.int p1]) (pc' := 369) kX4_states_368 rfl trivial rfl ?_
  refine Gx_if_eq (off := 171) (tgt := 540) (by decide +kernel) (by decide) (fun z => ?_) (fun z => ?_)
  · have h := h.1 z
    refine Gx_mask [true, false, false, false, false, false, false, false] (L' := [some (.ref 50), none, none, none, none, none, none, none]) rfl ?_
    exact tX4_states_540  M365 h
  · have h := h.2 z
    obtain ⟨g372_0, h⟩ := h
    refine Gx_run (es := eX4_states_372) (P := [xkd 50 = 4, xkd 51 = 5, vp_in (((60 : Int32) + ((6 : Int32) * a4)) + a5) (xln 51)]) (M' := (xup M365 51 (((60 : Int32) + ((6 : Int32) * a4)) + a5).toNatClampNeg (-1 : Int32))) (L' := [some (.ref 50), some (.int p1), some (.int a2), none, some (.int a4), some (.int a5), none, none]) (st' := []) (pc' := 389) kX4_states_372 rfl ⟨rfl, rfl, g372_0, trivial⟩ rfl ?_
    refine Gx_goto (off := 151) (tgt := 540) (by decide +kernel) (by decide) ?_
    refine Gx_mask [true, false, false, false, false, false, false, false] (L' := [some (.ref 50), none, none, none, none, none, none, none]) rfl ?_
    exact tX4_states_540  (xup M365 51 (((60 : Int32) + ((6 : Int32) * a4)) + a5).toNatClampNeg (-1 : Int32)) h
def wX4_states (M : xM) (p1 : Int32) (Q : xM → Prop) : Prop :=
    wX4_here M (fun r6 M6 => (((r6 = (98 : Int32)) → (wX4_twoDigits (xup M6 50 8 ((M6 50 8) + (1 : Int32))) (fun r393 M393 => wX4_twoDigits M393 (fun r399 M399 => ((((24 : Int32) ≤ r393) → (wX4_states_417 p1 Q M399 (M 50 8) r393 r399 (0 : Int32))) ∧ ((¬ (24 : Int32) ≤ r393) → (wX4_states_417 p1 Q M399 (M 50 8) r393 r399 (1 : Int32)))))))) ∧ ((¬ r6 = (98 : Int32)) → (((r6 = (99 : Int32)) → ((((p1 = 0) → (wX4_states_540 p1 Q (xup M6 50 8 ((M6 50 8) + (1 : Int32))))) ∧ ((¬ p1 = 0) → (wX4_checks (xup M6 50 8 ((M6 50 8) + (1 : Int32))) (fun r518 M518 => wX4_states_540 p1 Q M518)))))) ∧ ((¬ r6 = (99 : Int32)) → (((r6 = (101 : Int32)) → (wX4_digit (xup M6 50 8 ((M6 50 8) + (1 : Int32))) (fun r264 M264 => wX4_digit M264 (fun r270 M270 => wX4_one M270 (97 : Int32) (122 : Int32) (fun r280 M280 => wX4_digit M280 (fun r286 M286 => ((((6 : Int32) ≤ r270) → (wX4_states_304 p1 Q M286 (M 50 8) r264 r270 r280 r286 (0 : Int32))) ∧ ((¬ (6 : Int32) ≤ r270) → (wX4_states_304 p1 Q M286 (M 50 8) r264 r270 r280 r286 (1 : Int32)))))))))) ∧ ((¬ r6 = (101 : Int32)) → (((r6 = (105 : Int32)) → (wX4_digit (xup M6 50 8 ((M6 50 8) + (1 : Int32))) (fun r129 M129 => ((((M129 50 9) = 0) → (wX4_kindLetter M129 (fun r146 M146 => wX4_states_149 p1 Q M146 r129 r146))) ∧ ((¬ (M129 50 9) = 0) → (wX4_states_149 p1 Q M129 r129 (0 : Int32))))))) ∧ ((¬ r6 = (105 : Int32)) → (((r6 = (109 : Int32)) → (wX4_twoDigits (xup M6 50 8 ((M6 50 8) + (1 : Int32))) (fun r441 M441 => ((((24 : Int32) ≤ r441) → (wX4_states_459 p1 Q M441 (M 50 8) r441 (0 : Int32))) ∧ ((¬ (24 : Int32) ≤ r441) → (wX4_states_459 p1 Q M441 (M 50 8) r441 (1 : Int32))))))) ∧ ((¬ r6 = (109 : Int32)) → (((r6 = (112 : Int32)) → (wX4_digit (xup M6 50 8 ((M6 50 8) + (1 : Int32))) (fun r206 M206 => wX4_digit M206 (fun r212 M212 => wX4_twoDigits M212 (fun r218 M218 => ((((3 : Int32) ≤ r212) → (wX4_states_235 p1 Q M218 (M 50 8) r206 r212 r218 (0 : Int32))) ∧ ((¬ (3 : Int32) ≤ r212) → (wX4_states_235 p1 Q M218 (M 50 8) r206 r212 r218 (1 : Int32))))))))) ∧ ((¬ r6 = (112 : Int32)) → (((r6 = (117 : Int32)) → (wX4_digit (xup M6 50 8 ((M6 50 8) + (1 : Int32))) (fun r486 M486 => (((p1 = 0) → (wX4_states_540 p1 Q M486)) ∧ ((¬ p1 = 0) → ((vp_in (145 : Int32) 147) ∧ wX4_states_540 p1 Q (xup M486 51 (145 : Int32).toNatClampNeg ((M486 51 (145 : Int32).toNatClampNeg) ^^^ ((1 : Int32) <<< (r486 &&& 31)))))))))) ∧ ((¬ r6 = (117 : Int32)) → (((r6 = (120 : Int32)) → (wX4_digit (xup M6 50 8 ((M6 50 8) + (1 : Int32))) (fun r340 M340 => wX4_digit M340 (fun r346 M346 => ((((6 : Int32) ≤ r346) → (wX4_states_364 p1 Q M346 (M 50 8) r340 r346 (0 : Int32))) ∧ ((¬ (6 : Int32) ≤ r346) → (wX4_states_364 p1 Q M346 (M 50 8) r340 r346 (1 : Int32)))))))) ∧ ((¬ r6 = (120 : Int32)) → (wX4_states_540 p1 Q (xup (xup (xup M6 50 8 ((M6 50 8) + (1 : Int32))) 50 8 (((xup M6 50 8 ((M6 50 8) + (1 : Int32))) 50 8) - (1 : Int32))) 50 9 (1 : Int32))))))))))))))))))))
set_option maxHeartbeats 4000000 in
set_option maxRecDepth 100000 in
theorem tX4_states {l : Launch} {E : xE} {M : xM} {p1 : Int32} {Q : xM → Prop} (h : wX4_states M p1 Q) : Ct l E mX4_states [.ref 50, .int p1] M (xRv Q) := by
  refine Ct_of (by decide +kernel) rfl (Nat.le_of_ble_eq_true rfl) ?_
  unfold wX4_states at h
  show Gx l E mX4_states (xRv Q) 0 M [some (.ref 50), some (.int p1), none, none, none, none, none, none] []
  refine Gx_run (es := eX4_states_0) (P := [xkd 50 = 4]) (M' := M) (L' := [some (.ref 50), some (.int p1), some (.int (M 50 8)), none, none, none, none, none]) (st' := [.ref 50]) (pc' := 6) kX4_states_0 rfl ⟨rfl, trivial⟩ rfl ?_
  refine Gx_callV (As := []) (by decide +kernel) ml_4_64 okX4_here mvX4_here rfl (by decide) (Nat.le_of_ble_eq_true rfl) rfl rfl rfl (tX4_here h) (fun rr M6 qq => ?_)
  obtain ⟨r6, rfl, h⟩ := qq
  show Gx l E mX4_states _ 9 M6 [some (.ref 50), some (.int p1), some (.int (M 50 8)), none, none, none, none, none] [.int r6]
  refine Gx_run (es := eX4_states_9) (P := [xkd 50 = 4, xkd 50 = 4]) (M' := (xup M6 50 8 ((M6 50 8) + (1 : Int32)))) (L' := [some (.ref 50), some (.int p1), some (.int (M 50 8)), some (.int r6), none, none, none, none]) (st' := [.int r6]) (pc' := 21) kX4_states_9 rfl ⟨rfl, rfl, trivial⟩ rfl ?_
  by_cases z98 : r6 = (98 : Int32)
  · have h := h.1 z98
    refine Gx_tabAt (dflt := 504) (lo := 98) (hi := 120) (offs := #[371, 492, 504, 242, 504, 504, 504, 107, 504, 504, 504, 419, 504, 504, 184, 504, 504, 504, 504, 464, 504, 504, 318]) (len := 107) z98 (by decide +kernel) (by decide) (by decide) (off := 371) (tgt := 392) rfl (by decide) ?_
    refine Gx_run (es := eX4_states_392) (P := []) (M' := (xup M6 50 8 ((M6 50 8) + (1 : Int32)))) (L' := [some (.ref 50), some (.int p1), some (.int (M 50 8)), some (.int r6), none, none, none, none]) (st' := [.ref 50]) (pc' := 393) kX4_states_392 rfl trivial rfl ?_
    refine Gx_callV (As := []) (by decide +kernel) ml_4_93 okX4_twoDigits mvX4_twoDigits rfl (by decide) (Nat.le_of_ble_eq_true rfl) rfl rfl rfl (tX4_twoDigits h) (fun rr M393 qq => ?_)
    obtain ⟨r393, rfl, h⟩ := qq
    show Gx l E mX4_states _ 396 M393 [some (.ref 50), some (.int p1), some (.int (M 50 8)), some (.int r6), none, none, none, none] [.int r393]
    refine Gx_run (es := eX4_states_396) (P := []) (M' := M393) (L' := [some (.ref 50), some (.int p1), some (.int (M 50 8)), some (.int r6), some (.int r393), none, none, none]) (st' := [.ref 50]) (pc' := 399) kX4_states_396 rfl trivial rfl ?_
    refine Gx_callV (As := []) (by decide +kernel) ml_4_93 okX4_twoDigits mvX4_twoDigits rfl (by decide) (Nat.le_of_ble_eq_true rfl) rfl rfl rfl (tX4_twoDigits h) (fun rr M399 qq => ?_)
    obtain ⟨r399, rfl, h⟩ := qq
    show Gx l E mX4_states _ 402 M399 [some (.ref 50), some (.int p1), some (.int (M 50 8)), some (.int r6), some (.int r393), none, none, none] [.int r399]
    refine Gx_run (es := eX4_states_402) (P := []) (M' := M399) (L' := [some (.ref 50), some (.int p1), some (.int (M 50 8)), some (.int r6), some (.int r393), some (.int r399), none, none]) (st' := [.int (24 : Int32), .int r393, .ref 50]) (pc' := 409) kX4_states_402 rfl trivial rfl ?_
    refine Gx_icmp_ge (off := 7) (tgt := 416) (by decide +kernel) (by decide) (fun z => ?_) (fun z => ?_)
    · have h := h.1 z
      refine Gx_run (es := eX4_states_416) (P := []) (M' := M399) (L' := [some (.ref 50), some (.int p1), some (.int (M 50 8)), some (.int r6), some (.int r393), some (.int r399), none, none]) (st' := [.int (0 : Int32), .ref 50]) (pc' := 417) kX4_states_416 rfl trivial rfl ?_
      refine Gx_mask [true, true, true, false, true, true, false, false] (L' := [some (.ref 50), some (.int p1), some (.int (M 50 8)), none, some (.int r393), some (.int r399), none, none]) rfl ?_
      exact tX4_states_417  M399 (M 50 8) r393 r399 (0 : Int32) h
    · have h := h.2 z
      refine Gx_run (es := eX4_states_412) (P := []) (M' := M399) (L' := [some (.ref 50), some (.int p1), some (.int (M 50 8)), some (.int r6), some (.int r393), some (.int r399), none, none]) (st' := [.int (1 : Int32), .ref 50]) (pc' := 413) kX4_states_412 rfl trivial rfl ?_
      refine Gx_goto (off := 4) (tgt := 417) (by decide +kernel) (by decide) ?_
      refine Gx_mask [true, true, true, false, true, true, false, false] (L' := [some (.ref 50), some (.int p1), some (.int (M 50 8)), none, some (.int r393), some (.int r399), none, none]) rfl ?_
      exact tX4_states_417  M399 (M 50 8) r393 r399 (1 : Int32) h
  replace h := h.2 z98
  by_cases z99 : r6 = (99 : Int32)
  · have h := h.1 z99
    refine Gx_tabAt (dflt := 504) (lo := 98) (hi := 120) (offs := #[371, 492, 504, 242, 504, 504, 504, 107, 504, 504, 504, 419, 504, 504, 184, 504, 504, 504, 504, 464, 504, 504, 318]) (len := 107) z99 (by decide +kernel) (by decide) (by decide) (off := 492) (tgt := 513) rfl (by decide) ?_
    refine Gx_run (es := eX4_states_513) (P := []) (M' := (xup M6 50 8 ((M6 50 8) + (1 : Int32)))) (L' := [some (.ref 50), some (.int p1), some (.int (M 50 8)), some (.int r6), none, none, none, none]) (st' := [.int p1]) (pc' := 514) kX4_states_513 rfl trivial rfl ?_
    refine Gx_if_eq (off := 26) (tgt := 540) (by decide +kernel) (by decide) (fun z => ?_) (fun z => ?_)
    · have h := h.1 z
      refine Gx_mask [true, false, false, false, false, false, false, false] (L' := [some (.ref 50), none, none, none, none, none, none, none]) rfl ?_
      exact tX4_states_540  (xup M6 50 8 ((M6 50 8) + (1 : Int32))) h
    · have h := h.2 z
      refine Gx_run (es := eX4_states_517) (P := []) (M' := (xup M6 50 8 ((M6 50 8) + (1 : Int32)))) (L' := [some (.ref 50), some (.int p1), some (.int (M 50 8)), some (.int r6), none, none, none, none]) (st' := [.ref 50]) (pc' := 518) kX4_states_517 rfl trivial rfl ?_
      refine Gx_callV (As := []) (by decide +kernel) ml_4_100 okX4_checks mvX4_checks rfl (by decide) (Nat.le_of_ble_eq_true rfl) rfl rfl rfl (tX4_checks h) (fun rr M518 qq => ?_)
      obtain ⟨r518, rfl, h⟩ := qq
      show Gx l E mX4_states _ 521 M518 [some (.ref 50), some (.int p1), some (.int (M 50 8)), some (.int r6), none, none, none, none] [.int r518]
      refine Gx_run (es := eX4_states_521) (P := []) (M' := M518) (L' := [some (.ref 50), some (.int p1), some (.int (M 50 8)), some (.int r6), none, none, none, none]) (st' := []) (pc' := 522) kX4_states_521 rfl trivial rfl ?_
      refine Gx_goto (off := 18) (tgt := 540) (by decide +kernel) (by decide) ?_
      refine Gx_mask [true, false, false, false, false, false, false, false] (L' := [some (.ref 50), none, none, none, none, none, none, none]) rfl ?_
      exact tX4_states_540  M518 h
  replace h := h.2 z99
  by_cases z101 : r6 = (101 : Int32)
  · have h := h.1 z101
    refine Gx_tabAt (dflt := 504) (lo := 98) (hi := 120) (offs := #[371, 492, 504, 242, 504, 504, 504, 107, 504, 504, 504, 419, 504, 504, 184, 504, 504, 504, 504, 464, 504, 504, 318]) (len := 107) z101 (by decide +kernel) (by decide) (by decide) (off := 242) (tgt := 263) rfl (by decide) ?_
    refine Gx_run (es := eX4_states_263) (P := []) (M' := (xup M6 50 8 ((M6 50 8) + (1 : Int32)))) (L' := [some (.ref 50), some (.int p1), some (.int (M 50 8)), some (.int r6), none, none, none, none]) (st' := [.ref 50]) (pc' := 264) kX4_states_263 rfl trivial rfl ?_
    refine Gx_callV (As := []) (by decide +kernel) ml_4_76 okX4_digit mvX4_digit rfl (by decide) (Nat.le_of_ble_eq_true rfl) rfl rfl rfl (tX4_digit h) (fun rr M264 qq => ?_)
    obtain ⟨r264, rfl, h⟩ := qq
    show Gx l E mX4_states _ 267 M264 [some (.ref 50), some (.int p1), some (.int (M 50 8)), some (.int r6), none, none, none, none] [.int r264]
    refine Gx_run (es := eX4_states_267) (P := []) (M' := M264) (L' := [some (.ref 50), some (.int p1), some (.int (M 50 8)), some (.int r6), some (.int r264), none, none, none]) (st' := [.ref 50]) (pc' := 270) kX4_states_267 rfl trivial rfl ?_
    refine Gx_callV (As := []) (by decide +kernel) ml_4_76 okX4_digit mvX4_digit rfl (by decide) (Nat.le_of_ble_eq_true rfl) rfl rfl rfl (tX4_digit h) (fun rr M270 qq => ?_)
    obtain ⟨r270, rfl, h⟩ := qq
    show Gx l E mX4_states _ 273 M270 [some (.ref 50), some (.int p1), some (.int (M 50 8)), some (.int r6), some (.int r264), none, none, none] [.int r270]
    refine Gx_run (es := eX4_states_273) (P := []) (M' := M270) (L' := [some (.ref 50), some (.int p1), some (.int (M 50 8)), some (.int r6), some (.int r264), some (.int r270), none, none]) (st' := [.int (122 : Int32), .int (97 : Int32), .ref 50]) (pc' := 280) kX4_states_273 rfl trivial rfl ?_
    refine Gx_callV (As := [.int (97 : Int32), .int (122 : Int32)]) (by decide +kernel) ml_4_72 okX4_one mvX4_one rfl (by decide) (Nat.le_of_ble_eq_true rfl) rfl rfl rfl (tX4_one h) (fun rr M280 qq => ?_)
    obtain ⟨r280, rfl, h⟩ := qq
    show Gx l E mX4_states _ 283 M280 [some (.ref 50), some (.int p1), some (.int (M 50 8)), some (.int r6), some (.int r264), some (.int r270), none, none] [.int r280]
    refine Gx_run (es := eX4_states_283) (P := []) (M' := M280) (L' := [some (.ref 50), some (.int p1), some (.int (M 50 8)), some (.int r6), some (.int r264), some (.int r270), some (.int r280), none]) (st' := [.ref 50]) (pc' := 286) kX4_states_283 rfl trivial rfl ?_
    refine Gx_callV (As := []) (by decide +kernel) ml_4_76 okX4_digit mvX4_digit rfl (by decide) (Nat.le_of_ble_eq_true rfl) rfl rfl rfl (tX4_digit h) (fun rr M286 qq => ?_)
    obtain ⟨r286, rfl, h⟩ := qq
    show Gx l E mX4_states _ 289 M286 [some (.ref 50), some (.int p1), some (.int (M 50 8)), some (.int r6), some (.int r264), some (.int r270), some (.int r280), none] [.int r286]
    refine Gx_run (es := eX4_states_289) (P := []) (M' := M286) (L' := [some (.ref 50), some (.int p1), some (.int (M 50 8)), some (.int r6), some (.int r264), some (.int r270), some (.int r280), some (.int r286)]) (st' := [.int (6 : Int32), .int r270, .ref 50]) (pc' := 296) kX4_states_289 rfl trivial rfl ?_
    refine Gx_icmp_ge (off := 7) (tgt := 303) (by decide +kernel) (by decide) (fun z => ?_) (fun z => ?_)
    · have h := h.1 z
      refine Gx_run (es := eX4_states_303) (P := []) (M' := M286) (L' := [some (.ref 50), some (.int p1), some (.int (M 50 8)), some (.int r6), some (.int r264), some (.int r270), some (.int r280), some (.int r286)]) (st' := [.int (0 : Int32), .ref 50]) (pc' := 304) kX4_states_303 rfl trivial rfl ?_
      refine Gx_mask [true, true, true, false, true, true, true, true] (L' := [some (.ref 50), some (.int p1), some (.int (M 50 8)), none, some (.int r264), some (.int r270), some (.int r280), some (.int r286)]) rfl ?_
      exact tX4_states_304  M286 (M 50 8) r264 r270 r280 r286 (0 : Int32) h
    · have h := h.2 z
      refine Gx_run (es := eX4_states_299) (P := []) (M' := M286) (L' := [some (.ref 50), some (.int p1), some (.int (M 50 8)), some (.int r6), some (.int r264), some (.int r270), some (.int r280), some (.int r286)]) (st' := [.int (1 : Int32), .ref 50]) (pc' := 300) kX4_states_299 rfl trivial rfl ?_
      refine Gx_goto (off := 4) (tgt := 304) (by decide +kernel) (by decide) ?_
      refine Gx_mask [true, true, true, false, true, true, true, true] (L' := [some (.ref 50), some (.int p1), some (.int (M 50 8)), none, some (.int r264), some (.int r270), some (.int r280), some (.int r286)]) rfl ?_
      exact tX4_states_304  M286 (M 50 8) r264 r270 r280 r286 (1 : Int32) h
  replace h := h.2 z101
  by_cases z105 : r6 = (105 : Int32)
  · have h := h.1 z105
    refine Gx_tabAt (dflt := 504) (lo := 98) (hi := 120) (offs := #[371, 492, 504, 242, 504, 504, 504, 107, 504, 504, 504, 419, 504, 504, 184, 504, 504, 504, 504, 464, 504, 504, 318]) (len := 107) z105 (by decide +kernel) (by decide) (by decide) (off := 107) (tgt := 128) rfl (by decide) ?_
    refine Gx_run (es := eX4_states_128) (P := []) (M' := (xup M6 50 8 ((M6 50 8) + (1 : Int32)))) (L' := [some (.ref 50), some (.int p1), some (.int (M 50 8)), some (.int r6), none, none, none, none]) (st' := [.ref 50]) (pc' := 129) kX4_states_128 rfl trivial rfl ?_
    refine Gx_callV (As := []) (by decide +kernel) ml_4_76 okX4_digit mvX4_digit rfl (by decide) (Nat.le_of_ble_eq_true rfl) rfl rfl rfl (tX4_digit h) (fun rr M129 qq => ?_)
    obtain ⟨r129, rfl, h⟩ := qq
    show Gx l E mX4_states _ 132 M129 [some (.ref 50), some (.int p1), some (.int (M 50 8)), some (.int r6), none, none, none, none] [.int r129]
    refine Gx_run (es := eX4_states_132) (P := [xkd 50 = 4]) (M' := M129) (L' := [some (.ref 50), some (.int p1), some (.int (M 50 8)), some (.int r6), some (.int r129), none, none, none]) (st' := [.int (M129 50 9)]) (pc' := 138) kX4_states_132 rfl ⟨rfl, trivial⟩ rfl ?_
    refine Gx_if_eq (off := 7) (tgt := 145) (by decide +kernel) (by decide) (fun z => ?_) (fun z => ?_)
    · have h := h.1 z
      refine Gx_run (es := eX4_states_145) (P := []) (M' := M129) (L' := [some (.ref 50), some (.int p1), some (.int (M 50 8)), some (.int r6), some (.int r129), none, none, none]) (st' := [.ref 50]) (pc' := 146) kX4_states_145 rfl trivial rfl ?_
      refine Gx_callV (As := []) (by decide +kernel) ml_4_90 okX4_kindLetter mvX4_kindLetter rfl (by decide) (Nat.le_of_ble_eq_true rfl) rfl rfl rfl (tX4_kindLetter h) (fun rr M146 qq => ?_)
      obtain ⟨r146, rfl, h⟩ := qq
      show Gx l E mX4_states _ 149 M146 [some (.ref 50), some (.int p1), some (.int (M 50 8)), some (.int r6), some (.int r129), none, none, none] [.int r146]
      refine Gx_mask [true, true, false, false, true, false, false, false] (L' := [some (.ref 50), some (.int p1), none, none, some (.int r129), none, none, none]) rfl ?_
      exact tX4_states_149  M146 r129 r146 h
    · have h := h.2 z
      refine Gx_run (es := eX4_states_141) (P := []) (M' := M129) (L' := [some (.ref 50), some (.int p1), some (.int (M 50 8)), some (.int r6), some (.int r129), none, none, none]) (st' := [.int (0 : Int32)]) (pc' := 142) kX4_states_141 rfl trivial rfl ?_
      refine Gx_goto (off := 7) (tgt := 149) (by decide +kernel) (by decide) ?_
      refine Gx_mask [true, true, false, false, true, false, false, false] (L' := [some (.ref 50), some (.int p1), none, none, some (.int r129), none, none, none]) rfl ?_
      exact tX4_states_149  M129 r129 (0 : Int32) h
  replace h := h.2 z105
  by_cases z109 : r6 = (109 : Int32)
  · have h := h.1 z109
    refine Gx_tabAt (dflt := 504) (lo := 98) (hi := 120) (offs := #[371, 492, 504, 242, 504, 504, 504, 107, 504, 504, 504, 419, 504, 504, 184, 504, 504, 504, 504, 464, 504, 504, 318]) (len := 107) z109 (by decide +kernel) (by decide) (by decide) (off := 419) (tgt := 440) rfl (by decide) ?_
    refine Gx_run (es := eX4_states_440) (P := []) (M' := (xup M6 50 8 ((M6 50 8) + (1 : Int32)))) (L' := [some (.ref 50), some (.int p1), some (.int (M 50 8)), some (.int r6), none, none, none, none]) (st' := [.ref 50]) (pc' := 441) kX4_states_440 rfl trivial rfl ?_
    refine Gx_callV (As := []) (by decide +kernel) ml_4_93 okX4_twoDigits mvX4_twoDigits rfl (by decide) (Nat.le_of_ble_eq_true rfl) rfl rfl rfl (tX4_twoDigits h) (fun rr M441 qq => ?_)
    obtain ⟨r441, rfl, h⟩ := qq
    show Gx l E mX4_states _ 444 M441 [some (.ref 50), some (.int p1), some (.int (M 50 8)), some (.int r6), none, none, none, none] [.int r441]
    refine Gx_run (es := eX4_states_444) (P := []) (M' := M441) (L' := [some (.ref 50), some (.int p1), some (.int (M 50 8)), some (.int r6), some (.int r441), none, none, none]) (st' := [.int (24 : Int32), .int r441, .ref 50]) (pc' := 451) kX4_states_444 rfl trivial rfl ?_
    refine Gx_icmp_ge (off := 7) (tgt := 458) (by decide +kernel) (by decide) (fun z => ?_) (fun z => ?_)
    · have h := h.1 z
      refine Gx_run (es := eX4_states_458) (P := []) (M' := M441) (L' := [some (.ref 50), some (.int p1), some (.int (M 50 8)), some (.int r6), some (.int r441), none, none, none]) (st' := [.int (0 : Int32), .ref 50]) (pc' := 459) kX4_states_458 rfl trivial rfl ?_
      refine Gx_mask [true, true, true, false, true, false, false, false] (L' := [some (.ref 50), some (.int p1), some (.int (M 50 8)), none, some (.int r441), none, none, none]) rfl ?_
      exact tX4_states_459  M441 (M 50 8) r441 (0 : Int32) h
    · have h := h.2 z
      refine Gx_run (es := eX4_states_454) (P := []) (M' := M441) (L' := [some (.ref 50), some (.int p1), some (.int (M 50 8)), some (.int r6), some (.int r441), none, none, none]) (st' := [.int (1 : Int32), .ref 50]) (pc' := 455) kX4_states_454 rfl trivial rfl ?_
      refine Gx_goto (off := 4) (tgt := 459) (by decide +kernel) (by decide) ?_
      refine Gx_mask [true, true, true, false, true, false, false, false] (L' := [some (.ref 50), some (.int p1), some (.int (M 50 8)), none, some (.int r441), none, none, none]) rfl ?_
      exact tX4_states_459  M441 (M 50 8) r441 (1 : Int32) h
  replace h := h.2 z109
  by_cases z112 : r6 = (112 : Int32)
  · have h := h.1 z112
    refine Gx_tabAt (dflt := 504) (lo := 98) (hi := 120) (offs := #[371, 492, 504, 242, 504, 504, 504, 107, 504, 504, 504, 419, 504, 504, 184, 504, 504, 504, 504, 464, 504, 504, 318]) (len := 107) z112 (by decide +kernel) (by decide) (by decide) (off := 184) (tgt := 205) rfl (by decide) ?_
    refine Gx_run (es := eX4_states_205) (P := []) (M' := (xup M6 50 8 ((M6 50 8) + (1 : Int32)))) (L' := [some (.ref 50), some (.int p1), some (.int (M 50 8)), some (.int r6), none, none, none, none]) (st' := [.ref 50]) (pc' := 206) kX4_states_205 rfl trivial rfl ?_
    refine Gx_callV (As := []) (by decide +kernel) ml_4_76 okX4_digit mvX4_digit rfl (by decide) (Nat.le_of_ble_eq_true rfl) rfl rfl rfl (tX4_digit h) (fun rr M206 qq => ?_)
    obtain ⟨r206, rfl, h⟩ := qq
    show Gx l E mX4_states _ 209 M206 [some (.ref 50), some (.int p1), some (.int (M 50 8)), some (.int r6), none, none, none, none] [.int r206]
    refine Gx_run (es := eX4_states_209) (P := []) (M' := M206) (L' := [some (.ref 50), some (.int p1), some (.int (M 50 8)), some (.int r6), some (.int r206), none, none, none]) (st' := [.ref 50]) (pc' := 212) kX4_states_209 rfl trivial rfl ?_
    refine Gx_callV (As := []) (by decide +kernel) ml_4_76 okX4_digit mvX4_digit rfl (by decide) (Nat.le_of_ble_eq_true rfl) rfl rfl rfl (tX4_digit h) (fun rr M212 qq => ?_)
    obtain ⟨r212, rfl, h⟩ := qq
    show Gx l E mX4_states _ 215 M212 [some (.ref 50), some (.int p1), some (.int (M 50 8)), some (.int r6), some (.int r206), none, none, none] [.int r212]
    refine Gx_run (es := eX4_states_215) (P := []) (M' := M212) (L' := [some (.ref 50), some (.int p1), some (.int (M 50 8)), some (.int r6), some (.int r206), some (.int r212), none, none]) (st' := [.ref 50]) (pc' := 218) kX4_states_215 rfl trivial rfl ?_
    refine Gx_callV (As := []) (by decide +kernel) ml_4_93 okX4_twoDigits mvX4_twoDigits rfl (by decide) (Nat.le_of_ble_eq_true rfl) rfl rfl rfl (tX4_twoDigits h) (fun rr M218 qq => ?_)
    obtain ⟨r218, rfl, h⟩ := qq
    show Gx l E mX4_states _ 221 M218 [some (.ref 50), some (.int p1), some (.int (M 50 8)), some (.int r6), some (.int r206), some (.int r212), none, none] [.int r218]
    refine Gx_run (es := eX4_states_221) (P := []) (M' := M218) (L' := [some (.ref 50), some (.int p1), some (.int (M 50 8)), some (.int r6), some (.int r206), some (.int r212), some (.int r218), none]) (st' := [.int (3 : Int32), .int r212, .ref 50]) (pc' := 227) kX4_states_221 rfl trivial rfl ?_
    refine Gx_icmp_ge (off := 7) (tgt := 234) (by decide +kernel) (by decide) (fun z => ?_) (fun z => ?_)
    · have h := h.1 z
      refine Gx_run (es := eX4_states_234) (P := []) (M' := M218) (L' := [some (.ref 50), some (.int p1), some (.int (M 50 8)), some (.int r6), some (.int r206), some (.int r212), some (.int r218), none]) (st' := [.int (0 : Int32), .ref 50]) (pc' := 235) kX4_states_234 rfl trivial rfl ?_
      refine Gx_mask [true, true, true, false, true, true, true, false] (L' := [some (.ref 50), some (.int p1), some (.int (M 50 8)), none, some (.int r206), some (.int r212), some (.int r218), none]) rfl ?_
      exact tX4_states_235  M218 (M 50 8) r206 r212 r218 (0 : Int32) h
    · have h := h.2 z
      refine Gx_run (es := eX4_states_230) (P := []) (M' := M218) (L' := [some (.ref 50), some (.int p1), some (.int (M 50 8)), some (.int r6), some (.int r206), some (.int r212), some (.int r218), none]) (st' := [.int (1 : Int32), .ref 50]) (pc' := 231) kX4_states_230 rfl trivial rfl ?_
      refine Gx_goto (off := 4) (tgt := 235) (by decide +kernel) (by decide) ?_
      refine Gx_mask [true, true, true, false, true, true, true, false] (L' := [some (.ref 50), some (.int p1), some (.int (M 50 8)), none, some (.int r206), some (.int r212), some (.int r218), none]) rfl ?_
      exact tX4_states_235  M218 (M 50 8) r206 r212 r218 (1 : Int32) h
  replace h := h.2 z112
  by_cases z117 : r6 = (117 : Int32)
  · have h := h.1 z117
    refine Gx_tabAt (dflt := 504) (lo := 98) (hi := 120) (offs := #[371, 492, 504, 242, 504, 504, 504, 107, 504, 504, 504, 419, 504, 504, 184, 504, 504, 504, 504, 464, 504, 504, 318]) (len := 107) z117 (by decide +kernel) (by decide) (by decide) (off := 464) (tgt := 485) rfl (by decide) ?_
    refine Gx_run (es := eX4_states_485) (P := []) (M' := (xup M6 50 8 ((M6 50 8) + (1 : Int32)))) (L' := [some (.ref 50), some (.int p1), some (.int (M 50 8)), some (.int r6), none, none, none, none]) (st' := [.ref 50]) (pc' := 486) kX4_states_485 rfl trivial rfl ?_
    refine Gx_callV (As := []) (by decide +kernel) ml_4_76 okX4_digit mvX4_digit rfl (by decide) (Nat.le_of_ble_eq_true rfl) rfl rfl rfl (tX4_digit h) (fun rr M486 qq => ?_)
    obtain ⟨r486, rfl, h⟩ := qq
    show Gx l E mX4_states _ 489 M486 [some (.ref 50), some (.int p1), some (.int (M 50 8)), some (.int r6), none, none, none, none] [.int r486]
    refine Gx_run (es := eX4_states_489) (P := []) (M' := M486) (L' := [some (.ref 50), some (.int p1), some (.int (M 50 8)), some (.int r6), some (.int r486), none, none, none]) (st' := [.int p1]) (pc' := 492) kX4_states_489 rfl trivial rfl ?_
    refine Gx_if_eq (off := 48) (tgt := 540) (by decide +kernel) (by decide) (fun z => ?_) (fun z => ?_)
    · have h := h.1 z
      refine Gx_mask [true, false, false, false, false, false, false, false] (L' := [some (.ref 50), none, none, none, none, none, none, none]) rfl ?_
      exact tX4_states_540  M486 h
    · have h := h.2 z
      obtain ⟨g495_0, h⟩ := h
      refine Gx_run (es := eX4_states_495) (P := [xkd 50 = 4, xkd 51 = 5, vp_in (145 : Int32) (xln 51), xkd 51 = 5, vp_in (145 : Int32) (xln 51)]) (M' := (xup M486 51 (145 : Int32).toNatClampNeg ((M486 51 (145 : Int32).toNatClampNeg) ^^^ ((1 : Int32) <<< (r486 &&& 31))))) (L' := [some (.ref 50), some (.int p1), some (.int (M 50 8)), some (.int r6), some (.int r486), none, none, none]) (st' := []) (pc' := 510) kX4_states_495 rfl ⟨rfl, rfl, g495_0, rfl, g495_0, trivial⟩ rfl ?_
      refine Gx_goto (off := 30) (tgt := 540) (by decide +kernel) (by decide) ?_
      refine Gx_mask [true, false, false, false, false, false, false, false] (L' := [some (.ref 50), none, none, none, none, none, none, none]) rfl ?_
      exact tX4_states_540  (xup M486 51 (145 : Int32).toNatClampNeg ((M486 51 (145 : Int32).toNatClampNeg) ^^^ ((1 : Int32) <<< (r486 &&& 31)))) h
  replace h := h.2 z117
  by_cases z120 : r6 = (120 : Int32)
  · have h := h.1 z120
    refine Gx_tabAt (dflt := 504) (lo := 98) (hi := 120) (offs := #[371, 492, 504, 242, 504, 504, 504, 107, 504, 504, 504, 419, 504, 504, 184, 504, 504, 504, 504, 464, 504, 504, 318]) (len := 107) z120 (by decide +kernel) (by decide) (by decide) (off := 318) (tgt := 339) rfl (by decide) ?_
    refine Gx_run (es := eX4_states_339) (P := []) (M' := (xup M6 50 8 ((M6 50 8) + (1 : Int32)))) (L' := [some (.ref 50), some (.int p1), some (.int (M 50 8)), some (.int r6), none, none, none, none]) (st' := [.ref 50]) (pc' := 340) kX4_states_339 rfl trivial rfl ?_
    refine Gx_callV (As := []) (by decide +kernel) ml_4_76 okX4_digit mvX4_digit rfl (by decide) (Nat.le_of_ble_eq_true rfl) rfl rfl rfl (tX4_digit h) (fun rr M340 qq => ?_)
    obtain ⟨r340, rfl, h⟩ := qq
    show Gx l E mX4_states _ 343 M340 [some (.ref 50), some (.int p1), some (.int (M 50 8)), some (.int r6), none, none, none, none] [.int r340]
    refine Gx_run (es := eX4_states_343) (P := []) (M' := M340) (L' := [some (.ref 50), some (.int p1), some (.int (M 50 8)), some (.int r6), some (.int r340), none, none, none]) (st' := [.ref 50]) (pc' := 346) kX4_states_343 rfl trivial rfl ?_
    refine Gx_callV (As := []) (by decide +kernel) ml_4_76 okX4_digit mvX4_digit rfl (by decide) (Nat.le_of_ble_eq_true rfl) rfl rfl rfl (tX4_digit h) (fun rr M346 qq => ?_)
    obtain ⟨r346, rfl, h⟩ := qq
    show Gx l E mX4_states _ 349 M346 [some (.ref 50), some (.int p1), some (.int (M 50 8)), some (.int r6), some (.int r340), none, none, none] [.int r346]
    refine Gx_run (es := eX4_states_349) (P := []) (M' := M346) (L' := [some (.ref 50), some (.int p1), some (.int (M 50 8)), some (.int r6), some (.int r340), some (.int r346), none, none]) (st' := [.int (6 : Int32), .int r346, .ref 50]) (pc' := 356) kX4_states_349 rfl trivial rfl ?_
    refine Gx_icmp_ge (off := 7) (tgt := 363) (by decide +kernel) (by decide) (fun z => ?_) (fun z => ?_)
    · have h := h.1 z
      refine Gx_run (es := eX4_states_363) (P := []) (M' := M346) (L' := [some (.ref 50), some (.int p1), some (.int (M 50 8)), some (.int r6), some (.int r340), some (.int r346), none, none]) (st' := [.int (0 : Int32), .ref 50]) (pc' := 364) kX4_states_363 rfl trivial rfl ?_
      refine Gx_mask [true, true, true, false, true, true, false, false] (L' := [some (.ref 50), some (.int p1), some (.int (M 50 8)), none, some (.int r340), some (.int r346), none, none]) rfl ?_
      exact tX4_states_364  M346 (M 50 8) r340 r346 (0 : Int32) h
    · have h := h.2 z
      refine Gx_run (es := eX4_states_359) (P := []) (M' := M346) (L' := [some (.ref 50), some (.int p1), some (.int (M 50 8)), some (.int r6), some (.int r340), some (.int r346), none, none]) (st' := [.int (1 : Int32), .ref 50]) (pc' := 360) kX4_states_359 rfl trivial rfl ?_
      refine Gx_goto (off := 4) (tgt := 364) (by decide +kernel) (by decide) ?_
      refine Gx_mask [true, true, true, false, true, true, false, false] (L' := [some (.ref 50), some (.int p1), some (.int (M 50 8)), none, some (.int r340), some (.int r346), none, none]) rfl ?_
      exact tX4_states_364  M346 (M 50 8) r340 r346 (1 : Int32) h
  replace h := h.2 z120
  suffices hk : Gx l E mX4_states _ 525 (xup M6 50 8 ((M6 50 8) + (1 : Int32))) [some (.ref 50), some (.int p1), some (.int (M 50 8)), some (.int r6), none, none, none, none] [] by
    by_cases z100 : r6 = (100 : Int32)
    · exact Gx_tabAt (dflt := 504) (lo := 98) (hi := 120) (offs := #[371, 492, 504, 242, 504, 504, 504, 107, 504, 504, 504, 419, 504, 504, 184, 504, 504, 504, 504, 464, 504, 504, 318]) (len := 107) z100 (by decide +kernel) (by decide) (by decide) (off := 504) (tgt := 525) rfl (by decide) hk
    by_cases z102 : r6 = (102 : Int32)
    · exact Gx_tabAt (dflt := 504) (lo := 98) (hi := 120) (offs := #[371, 492, 504, 242, 504, 504, 504, 107, 504, 504, 504, 419, 504, 504, 184, 504, 504, 504, 504, 464, 504, 504, 318]) (len := 107) z102 (by decide +kernel) (by decide) (by decide) (off := 504) (tgt := 525) rfl (by decide) hk
    by_cases z103 : r6 = (103 : Int32)
    · exact Gx_tabAt (dflt := 504) (lo := 98) (hi := 120) (offs := #[371, 492, 504, 242, 504, 504, 504, 107, 504, 504, 504, 419, 504, 504, 184, 504, 504, 504, 504, 464, 504, 504, 318]) (len := 107) z103 (by decide +kernel) (by decide) (by decide) (off := 504) (tgt := 525) rfl (by decide) hk
    by_cases z104 : r6 = (104 : Int32)
    · exact Gx_tabAt (dflt := 504) (lo := 98) (hi := 120) (offs := #[371, 492, 504, 242, 504, 504, 504, 107, 504, 504, 504, 419, 504, 504, 184, 504, 504, 504, 504, 464, 504, 504, 318]) (len := 107) z104 (by decide +kernel) (by decide) (by decide) (off := 504) (tgt := 525) rfl (by decide) hk
    by_cases z106 : r6 = (106 : Int32)
    · exact Gx_tabAt (dflt := 504) (lo := 98) (hi := 120) (offs := #[371, 492, 504, 242, 504, 504, 504, 107, 504, 504, 504, 419, 504, 504, 184, 504, 504, 504, 504, 464, 504, 504, 318]) (len := 107) z106 (by decide +kernel) (by decide) (by decide) (off := 504) (tgt := 525) rfl (by decide) hk
    by_cases z107 : r6 = (107 : Int32)
    · exact Gx_tabAt (dflt := 504) (lo := 98) (hi := 120) (offs := #[371, 492, 504, 242, 504, 504, 504, 107, 504, 504, 504, 419, 504, 504, 184, 504, 504, 504, 504, 464, 504, 504, 318]) (len := 107) z107 (by decide +kernel) (by decide) (by decide) (off := 504) (tgt := 525) rfl (by decide) hk
    by_cases z108 : r6 = (108 : Int32)
    · exact Gx_tabAt (dflt := 504) (lo := 98) (hi := 120) (offs := #[371, 492, 504, 242, 504, 504, 504, 107, 504, 504, 504, 419, 504, 504, 184, 504, 504, 504, 504, 464, 504, 504, 318]) (len := 107) z108 (by decide +kernel) (by decide) (by decide) (off := 504) (tgt := 525) rfl (by decide) hk
    by_cases z110 : r6 = (110 : Int32)
    · exact Gx_tabAt (dflt := 504) (lo := 98) (hi := 120) (offs := #[371, 492, 504, 242, 504, 504, 504, 107, 504, 504, 504, 419, 504, 504, 184, 504, 504, 504, 504, 464, 504, 504, 318]) (len := 107) z110 (by decide +kernel) (by decide) (by decide) (off := 504) (tgt := 525) rfl (by decide) hk
    by_cases z111 : r6 = (111 : Int32)
    · exact Gx_tabAt (dflt := 504) (lo := 98) (hi := 120) (offs := #[371, 492, 504, 242, 504, 504, 504, 107, 504, 504, 504, 419, 504, 504, 184, 504, 504, 504, 504, 464, 504, 504, 318]) (len := 107) z111 (by decide +kernel) (by decide) (by decide) (off := 504) (tgt := 525) rfl (by decide) hk
    by_cases z113 : r6 = (113 : Int32)
    · exact Gx_tabAt (dflt := 504) (lo := 98) (hi := 120) (offs := #[371, 492, 504, 242, 504, 504, 504, 107, 504, 504, 504, 419, 504, 504, 184, 504, 504, 504, 504, 464, 504, 504, 318]) (len := 107) z113 (by decide +kernel) (by decide) (by decide) (off := 504) (tgt := 525) rfl (by decide) hk
    by_cases z114 : r6 = (114 : Int32)
    · exact Gx_tabAt (dflt := 504) (lo := 98) (hi := 120) (offs := #[371, 492, 504, 242, 504, 504, 504, 107, 504, 504, 504, 419, 504, 504, 184, 504, 504, 504, 504, 464, 504, 504, 318]) (len := 107) z114 (by decide +kernel) (by decide) (by decide) (off := 504) (tgt := 525) rfl (by decide) hk
    by_cases z115 : r6 = (115 : Int32)
    · exact Gx_tabAt (dflt := 504) (lo := 98) (hi := 120) (offs := #[371, 492, 504, 242, 504, 504, 504, 107, 504, 504, 504, 419, 504, 504, 184, 504, 504, 504, 504, 464, 504, 504, 318]) (len := 107) z115 (by decide +kernel) (by decide) (by decide) (off := 504) (tgt := 525) rfl (by decide) hk
    by_cases z116 : r6 = (116 : Int32)
    · exact Gx_tabAt (dflt := 504) (lo := 98) (hi := 120) (offs := #[371, 492, 504, 242, 504, 504, 504, 107, 504, 504, 504, 419, 504, 504, 184, 504, 504, 504, 504, 464, 504, 504, 318]) (len := 107) z116 (by decide +kernel) (by decide) (by decide) (off := 504) (tgt := 525) rfl (by decide) hk
    by_cases z118 : r6 = (118 : Int32)
    · exact Gx_tabAt (dflt := 504) (lo := 98) (hi := 120) (offs := #[371, 492, 504, 242, 504, 504, 504, 107, 504, 504, 504, 419, 504, 504, 184, 504, 504, 504, 504, 464, 504, 504, 318]) (len := 107) z118 (by decide +kernel) (by decide) (by decide) (off := 504) (tgt := 525) rfl (by decide) hk
    by_cases z119 : r6 = (119 : Int32)
    · exact Gx_tabAt (dflt := 504) (lo := 98) (hi := 120) (offs := #[371, 492, 504, 242, 504, 504, 504, 107, 504, 504, 504, 419, 504, 504, 184, 504, 504, 504, 504, 464, 504, 504, 318]) (len := 107) z119 (by decide +kernel) (by decide) (by decide) (off := 504) (tgt := 525) rfl (by decide) hk
    refine Gx_tableOut (dflt := 504) (lo := 98) (hi := 120) (offs := #[371, 492, 504, 242, 504, 504, 504, 107, 504, 504, 504, 419, 504, 504, 184, 504, 504, 504, 504, 464, 504, 504, 318]) (len := 107) (tgt := 525) (by decide +kernel) ?_ (by decide) hk
    have n98 := lv_neT (a := 98) z98 (by decide)
    have n99 := lv_neT (a := 99) z99 (by decide)
    have n100 := lv_neT (a := 100) z100 (by decide)
    have n101 := lv_neT (a := 101) z101 (by decide)
    have n102 := lv_neT (a := 102) z102 (by decide)
    have n103 := lv_neT (a := 103) z103 (by decide)
    have n104 := lv_neT (a := 104) z104 (by decide)
    have n105 := lv_neT (a := 105) z105 (by decide)
    have n106 := lv_neT (a := 106) z106 (by decide)
    have n107 := lv_neT (a := 107) z107 (by decide)
    have n108 := lv_neT (a := 108) z108 (by decide)
    have n109 := lv_neT (a := 109) z109 (by decide)
    have n110 := lv_neT (a := 110) z110 (by decide)
    have n111 := lv_neT (a := 111) z111 (by decide)
    have n112 := lv_neT (a := 112) z112 (by decide)
    have n113 := lv_neT (a := 113) z113 (by decide)
    have n114 := lv_neT (a := 114) z114 (by decide)
    have n115 := lv_neT (a := 115) z115 (by decide)
    have n116 := lv_neT (a := 116) z116 (by decide)
    have n117 := lv_neT (a := 117) z117 (by decide)
    have n118 := lv_neT (a := 118) z118 (by decide)
    have n119 := lv_neT (a := 119) z119 (by decide)
    have n120 := lv_neT (a := 120) z120 (by decide)
    omega
  refine Gx_run (es := eX4_states_525) (P := [xkd 50 = 4, xkd 50 = 4, xkd 50 = 4, (1 : Int32) = 0 ∨ (1 : Int32) = 1]) (M' := (xup (xup (xup M6 50 8 ((M6 50 8) + (1 : Int32))) 50 8 (((xup M6 50 8 ((M6 50 8) + (1 : Int32))) 50 8) - (1 : Int32))) 50 9 (1 : Int32))) (L' := [some (.ref 50), some (.int p1), some (.int (M 50 8)), some (.int r6), none, none, none, none]) (st' := []) (pc' := 540) kX4_states_525 rfl ⟨rfl, rfl, rfl, (Or.inr rfl), trivial⟩ rfl ?_
  refine Gx_mask [true, false, false, false, false, false, false, false] (L' := [some (.ref 50), none, none, none, none, none, none, none]) rfl ?_
  exact tX4_states_540  (xup (xup (xup M6 50 8 ((M6 50 8) + (1 : Int32))) 50 8 (((xup M6 50 8 ((M6 50 8) + (1 : Int32))) 50 8) - (1 : Int32))) 50 9 (1 : Int32)) h
def eX4_then_0 : List xI := [(.iload_n 1, 1, 0, 0, 0)]
theorem kX4_then_0 : xcode (xmb mX4_then) (xmo mX4_then) 0 eX4_then_0 = true := by decide +kernel
def eX4_then_13 : List xI := [(.iload_n 2, 1, 0, 0, 0), (.iconst 0, 1, 0, 0, (0)), (.iconst 5, 1, 0, 0, (5))]
theorem kX4_then_13 : xcode (xmb mX4_then) (xmo mX4_then) 13 eX4_then_13 = true := by decide +kernel
def eX4_then_29 : List xI := [(.aload_n 0, 1, 0, 0, 0)]
theorem kX4_then_29 : xcode (xmb mX4_then) (xmo mX4_then) 29 eX4_then_29 = true := by decide +kernel
def eX4_then_33 : List xI := [(.aload_n 0, 1, 0, 0, 0)]
theorem kX4_then_33 : xcode (xmb mX4_then) (xmo mX4_then) 33 eX4_then_33 = true := by decide +kernel
def eX4_then_37 : List xI := [(.pop, 1, 0, 0, 0), (.aload_n 0, 1, 0, 0, 0), (.iload_n 1, 1, 0, 0, 0), (.iload_n 2, 1, 0, 0, 0)]
theorem kX4_then_37 : xcode (xmb mX4_then) (xmo mX4_then) 37 eX4_then_37 = true := by decide +kernel
def eX4_then_44 : List xI := [(.istore_n 3, 1, 0, 0, 0), (.aload_n 0, 1, 0, 0, 0)]
theorem kX4_then_44 : xcode (xmb mX4_then) (xmo mX4_then) 44 eX4_then_44 = true := by decide +kernel
def eX4_then_49 : List xI := [(.iload_n 3, 1, 0, 0, 0)]
theorem kX4_then_49 : xcode (xmb mX4_then) (xmo mX4_then) 49 eX4_then_49 = true := by decide +kernel
def eX4_then_22 : List xI := [(.aload_n 0, 1, 0, 0, 0), (.bipush (-2), 2, 0, 0, (-2))]
theorem kX4_then_22 : xcode (xmb mX4_then) (xmo mX4_then) 22 eX4_then_22 = true := by decide +kernel
def eX4_then_7 : List xI := [(.aload_n 0, 1, 0, 0, 0), (.iconst (-1), 1, 0, 0, (-1))]
theorem kX4_then_7 : xcode (xmb mX4_then) (xmo mX4_then) 7 eX4_then_7 = true := by decide +kernel
def wX4_then (M : xM) (p1 : Int32) (p2 : Int32) (Q : Int32 → xM → Prop) : Prop :=
    wX4_isInode M p1 (fun r1 M1 => (((¬ r1 = 0) → (wX4_in M1 p2 (0 : Int32) (5 : Int32) (fun r16 M16 => (((¬ r16 = 0) → (wX4_keeps M16 (fun M30 => wX4_checks M30 (fun r34 M34 => wX4_thenOf M34 p1 p2 (fun r41 M41 => wX4_goesBack M41 (fun M46 => Q r41 M46)))))) ∧ ((r16 = 0) → (wX4_refused M16 (-2 : Int32) (fun r25 M25 => Q r25 M25))))))) ∧ ((r1 = 0) → (wX4_refused M1 (-1 : Int32) (fun r9 M9 => Q r9 M9)))))
set_option maxHeartbeats 4000000 in
set_option maxRecDepth 100000 in
theorem tX4_then {l : Launch} {E : xE} {M : xM} {p1 : Int32} {p2 : Int32} {Q : Int32 → xM → Prop} (h : wX4_then M p1 p2 Q) : Ct l E mX4_then [.ref 50, .int p1, .int p2] M (xRi Q) := by
  refine Ct_of (by decide +kernel) rfl (Nat.le_of_ble_eq_true rfl) ?_
  unfold wX4_then at h
  show Gx l E mX4_then (xRi Q) 0 M [some (.ref 50), some (.int p1), some (.int p2), none] []
  refine Gx_run (es := eX4_then_0) (P := []) (M' := M) (L' := [some (.ref 50), some (.int p1), some (.int p2), none]) (st' := [.int p1]) (pc' := 1) kX4_then_0 rfl trivial rfl ?_
  refine Gx_callS (As := [.int p1]) (by decide +kernel) ml_4_111 okX4_isInode mvX4_isInode rfl (by decide) (Nat.le_of_ble_eq_true rfl) (tX4_isInode h) (fun rr M1 qq => ?_)
  obtain ⟨r1, rfl, h⟩ := qq
  show Gx l E mX4_then _ 4 M1 [some (.ref 50), some (.int p1), some (.int p2), none] [.int r1]
  refine Gx_if_ne (off := 9) (tgt := 13) (by decide +kernel) (by decide) (fun z => ?_) (fun z => ?_)
  · have h := h.1 z
    refine Gx_run (es := eX4_then_13) (P := []) (M' := M1) (L' := [some (.ref 50), some (.int p1), some (.int p2), none]) (st' := [.int (5 : Int32), .int (0 : Int32), .int p2]) (pc' := 16) kX4_then_13 rfl trivial rfl ?_
    refine Gx_callS (As := [.int p2, .int (0 : Int32), .int (5 : Int32)]) (by decide +kernel) ml_4_43 okX4_in mvX4_in rfl (by decide) (Nat.le_of_ble_eq_true rfl) (tX4_in h) (fun rr M16 qq => ?_)
    obtain ⟨r16, rfl, h⟩ := qq
    show Gx l E mX4_then _ 19 M16 [some (.ref 50), some (.int p1), some (.int p2), none] [.int r16]
    refine Gx_if_ne (off := 10) (tgt := 29) (by decide +kernel) (by decide) (fun z => ?_) (fun z => ?_)
    · have h := h.1 z
      refine Gx_run (es := eX4_then_29) (P := []) (M' := M16) (L' := [some (.ref 50), some (.int p1), some (.int p2), none]) (st' := [.ref 50]) (pc' := 30) kX4_then_29 rfl trivial rfl ?_
      refine Gx_callV (As := []) (by decide +kernel) ml_4_196 okX4_keeps mvX4_keeps rfl (by decide) (Nat.le_of_ble_eq_true rfl) rfl rfl rfl (tX4_keeps h) (fun rr M30 qq => ?_)
      obtain ⟨rfl, h⟩ := qq
      show Gx l E mX4_then _ 33 M30 [some (.ref 50), some (.int p1), some (.int p2), none] []
      refine Gx_run (es := eX4_then_33) (P := []) (M' := M30) (L' := [some (.ref 50), some (.int p1), some (.int p2), none]) (st' := [.ref 50]) (pc' := 34) kX4_then_33 rfl trivial rfl ?_
      refine Gx_callV (As := []) (by decide +kernel) ml_4_100 okX4_checks mvX4_checks rfl (by decide) (Nat.le_of_ble_eq_true rfl) rfl rfl rfl (tX4_checks h) (fun rr M34 qq => ?_)
      obtain ⟨r34, rfl, h⟩ := qq
      show Gx l E mX4_then _ 37 M34 [some (.ref 50), some (.int p1), some (.int p2), none] [.int r34]
      refine Gx_run (es := eX4_then_37) (P := []) (M' := M34) (L' := [some (.ref 50), some (.int p1), some (.int p2), none]) (st' := [.int p2, .int p1, .ref 50]) (pc' := 41) kX4_then_37 rfl trivial rfl ?_
      refine Gx_callV (As := [.int p1, .int p2]) (by decide +kernel) ml_4_220 okX4_thenOf mvX4_thenOf rfl (by decide) (Nat.le_of_ble_eq_true rfl) rfl rfl rfl (tX4_thenOf h) (fun rr M41 qq => ?_)
      obtain ⟨r41, rfl, h⟩ := qq
      show Gx l E mX4_then _ 44 M41 [some (.ref 50), some (.int p1), some (.int p2), none] [.int r41]
      refine Gx_run (es := eX4_then_44) (P := []) (M' := M41) (L' := [some (.ref 50), some (.int p1), some (.int p2), some (.int r41)]) (st' := [.ref 50]) (pc' := 46) kX4_then_44 rfl trivial rfl ?_
      refine Gx_callV (As := []) (by decide +kernel) ml_4_199 okX4_goesBack mvX4_goesBack rfl (by decide) (Nat.le_of_ble_eq_true rfl) rfl rfl rfl (tX4_goesBack h) (fun rr M46 qq => ?_)
      obtain ⟨rfl, h⟩ := qq
      show Gx l E mX4_then _ 49 M46 [some (.ref 50), some (.int p1), some (.int p2), some (.int r41)] []
      refine Gx_run (es := eX4_then_49) (P := []) (M' := M46) (L' := [some (.ref 50), some (.int p1), some (.int p2), some (.int r41)]) (st' := [.int r41]) (pc' := 50) kX4_then_49 rfl trivial rfl ?_
      exact Gx_iret (by decide +kernel) rfl rfl ⟨_, rfl, h⟩
    · have h := h.2 z
      refine Gx_run (es := eX4_then_22) (P := []) (M' := M16) (L' := [some (.ref 50), some (.int p1), some (.int p2), none]) (st' := [.int (-2 : Int32), .ref 50]) (pc' := 25) kX4_then_22 rfl trivial rfl ?_
      refine Gx_callV (As := [.int (-2 : Int32)]) (by decide +kernel) ml_4_55 okX4_refused mvX4_refused rfl (by decide) (Nat.le_of_ble_eq_true rfl) rfl rfl rfl (tX4_refused h) (fun rr M25 qq => ?_)
      obtain ⟨r25, rfl, h⟩ := qq
      show Gx l E mX4_then _ 28 M25 [some (.ref 50), some (.int p1), some (.int p2), none] [.int r25]
      exact Gx_iret (by decide +kernel) rfl rfl ⟨_, rfl, h⟩
  · have h := h.2 z
    refine Gx_run (es := eX4_then_7) (P := []) (M' := M1) (L' := [some (.ref 50), some (.int p1), some (.int p2), none]) (st' := [.int (-1 : Int32), .ref 50]) (pc' := 9) kX4_then_7 rfl trivial rfl ?_
    refine Gx_callV (As := [.int (-1 : Int32)]) (by decide +kernel) ml_4_55 okX4_refused mvX4_refused rfl (by decide) (Nat.le_of_ble_eq_true rfl) rfl rfl rfl (tX4_refused h) (fun rr M9 qq => ?_)
    obtain ⟨r9, rfl, h⟩ := qq
    show Gx l E mX4_then _ 12 M9 [some (.ref 50), some (.int p1), some (.int p2), none] [.int r9]
    exact Gx_iret (by decide +kernel) rfl rfl ⟨_, rfl, h⟩
def eX4_thinks_0 : List xI := [(.aload_n 0, 1, 0, 0, 0)]
theorem kX4_thinks_0 : xcode (xmb mX4_thinks) (xmo mX4_thinks) 0 eX4_thinks_0 = true := by decide +kernel
def eX4_thinks_4 : List xI := [(.aload_n 0, 1, 0, 0, 0)]
theorem kX4_thinks_4 : xcode (xmb mX4_thinks) (xmo mX4_thinks) 4 eX4_thinks_4 = true := by decide +kernel
def eX4_thinks_8 : List xI := [(.pop, 1, 0, 0, 0), (.aload_n 0, 1, 0, 0, 0)]
theorem kX4_thinks_8 : xcode (xmb mX4_thinks) (xmo mX4_thinks) 8 eX4_thinks_8 = true := by decide +kernel
def wX4_thinks (M : xM) (Q : xM → Prop) : Prop :=
    wX4_keeps M (fun M1 => wX4_checks M1 (fun r5 M5 => wX4_goesBack M5 (fun M10 => Q M10)))
set_option maxHeartbeats 4000000 in
set_option maxRecDepth 100000 in
theorem tX4_thinks {l : Launch} {E : xE} {M : xM} {Q : xM → Prop} (h : wX4_thinks M  Q) : Ct l E mX4_thinks [.ref 50] M (xRv Q) := by
  refine Ct_of (by decide +kernel) rfl (Nat.le_of_ble_eq_true rfl) ?_
  unfold wX4_thinks at h
  show Gx l E mX4_thinks (xRv Q) 0 M [some (.ref 50)] []
  refine Gx_run (es := eX4_thinks_0) (P := []) (M' := M) (L' := [some (.ref 50)]) (st' := [.ref 50]) (pc' := 1) kX4_thinks_0 rfl trivial rfl ?_
  refine Gx_callV (As := []) (by decide +kernel) ml_4_196 okX4_keeps mvX4_keeps rfl (by decide) (Nat.le_of_ble_eq_true rfl) rfl rfl rfl (tX4_keeps h) (fun rr M1 qq => ?_)
  obtain ⟨rfl, h⟩ := qq
  show Gx l E mX4_thinks _ 4 M1 [some (.ref 50)] []
  refine Gx_run (es := eX4_thinks_4) (P := []) (M' := M1) (L' := [some (.ref 50)]) (st' := [.ref 50]) (pc' := 5) kX4_thinks_4 rfl trivial rfl ?_
  refine Gx_callV (As := []) (by decide +kernel) ml_4_100 okX4_checks mvX4_checks rfl (by decide) (Nat.le_of_ble_eq_true rfl) rfl rfl rfl (tX4_checks h) (fun rr M5 qq => ?_)
  obtain ⟨r5, rfl, h⟩ := qq
  show Gx l E mX4_thinks _ 8 M5 [some (.ref 50)] [.int r5]
  refine Gx_run (es := eX4_thinks_8) (P := []) (M' := M5) (L' := [some (.ref 50)]) (st' := [.ref 50]) (pc' := 10) kX4_thinks_8 rfl trivial rfl ?_
  refine Gx_callV (As := []) (by decide +kernel) ml_4_199 okX4_goesBack mvX4_goesBack rfl (by decide) (Nat.le_of_ble_eq_true rfl) rfl rfl rfl (tX4_goesBack h) (fun rr M10 qq => ?_)
  obtain ⟨rfl, h⟩ := qq
  show Gx l E mX4_thinks _ 13 M10 [some (.ref 50)] []
  exact Gx_vret (by decide +kernel) rfl ⟨rfl, h⟩
def eX1_placeOfWrongLetter_0 : List xI := [(.aload_n 0, 1, 0, 0, 0), (.getfield 15, 3, 1, 1, 0)]
theorem kX1_placeOfWrongLetter_0 : xcode (xmb mX1_placeOfWrongLetter) (xmo mX1_placeOfWrongLetter) 0 eX1_placeOfWrongLetter_0 = true := by decide +kernel
def eX1_placeOfWrongLetter_9 : List xI := [(.bipush (-9), 2, 0, 0, (-9)), (.istore_n 1, 1, 0, 0, 0), (.iconst 0, 1, 0, 0, (0)), (.istore_n 2, 1, 0, 0, 0), (.iconst 0, 1, 0, 0, (0)), (.istore_n 3, 1, 0, 0, 0)]
theorem kX1_placeOfWrongLetter_9 : xcode (xmb mX1_placeOfWrongLetter) (xmo mX1_placeOfWrongLetter) 9 eX1_placeOfWrongLetter_9 = true := by decide +kernel
def eX1_placeOfWrongLetter_16 : List xI := [(.iload_n 3, 1, 0, 0, 0), (.bipush 96, 2, 0, 0, (96))]
theorem kX1_placeOfWrongLetter_16 : xcode (xmb mX1_placeOfWrongLetter) (xmo mX1_placeOfWrongLetter) 16 eX1_placeOfWrongLetter_16 = true := by decide +kernel
def eX1_placeOfWrongLetter_56 : List xI := [(.iload_n 1, 1, 0, 0, 0)]
theorem kX1_placeOfWrongLetter_56 : xcode (xmb mX1_placeOfWrongLetter) (xmo mX1_placeOfWrongLetter) 56 eX1_placeOfWrongLetter_56 = true := by decide +kernel
def eX1_placeOfWrongLetter_22 : List xI := [(.iload_n 2, 1, 0, 0, 0), (.aload_n 0, 1, 0, 0, 0), (.getfield 15, 3, 1, 1, 0)]
theorem kX1_placeOfWrongLetter_22 : xcode (xmb mX1_placeOfWrongLetter) (xmo mX1_placeOfWrongLetter) 22 eX1_placeOfWrongLetter_22 = true := by decide +kernel
def eX1_placeOfWrongLetter_30 : List xI := [(.iload_n 1, 1, 0, 0, 0), (.bipush (-9), 2, 0, 0, (-9))]
theorem kX1_placeOfWrongLetter_30 : xcode (xmb mX1_placeOfWrongLetter) (xmo mX1_placeOfWrongLetter) 30 eX1_placeOfWrongLetter_30 = true := by decide +kernel
def eX1_placeOfWrongLetter_36 : List xI := [(.aload_n 0, 1, 0, 0, 0), (.iload_n 2, 1, 0, 0, 0)]
theorem kX1_placeOfWrongLetter_36 : xcode (xmb mX1_placeOfWrongLetter) (xmo mX1_placeOfWrongLetter) 36 eX1_placeOfWrongLetter_36 = true := by decide +kernel
def eX1_placeOfWrongLetter_41 : List xI := [(.istore_n 1, 1, 0, 0, 0), (.iload_n 2, 1, 0, 0, 0), (.aload_n 0, 1, 0, 0, 0), (.iload_n 2, 1, 0, 0, 0)]
theorem kX1_placeOfWrongLetter_41 : xcode (xmb mX1_placeOfWrongLetter) (xmo mX1_placeOfWrongLetter) 41 eX1_placeOfWrongLetter_41 = true := by decide +kernel
def eX1_placeOfWrongLetter_48 : List xI := [(.iadd, 1, 0, 0, 0), (.istore_n 2, 1, 0, 0, 0), (.iinc 3 1, 3, 0, 0, (1))]
theorem kX1_placeOfWrongLetter_48 : xcode (xmb mX1_placeOfWrongLetter) (xmo mX1_placeOfWrongLetter) 48 eX1_placeOfWrongLetter_48 = true := by decide +kernel
def eX1_placeOfWrongLetter_7 : List xI := [(.iconst 0, 1, 0, 0, (0))]
theorem kX1_placeOfWrongLetter_7 : xcode (xmb mX1_placeOfWrongLetter) (xmo mX1_placeOfWrongLetter) 7 eX1_placeOfWrongLetter_7 = true := by decide +kernel
def wX1_placeOfWrongLetter_56 (Q : Int32 → xM → Prop) (M : xM) (a1 : Int32) : Prop :=
    Q a1 M
set_option maxHeartbeats 4000000 in
set_option maxRecDepth 100000 in
theorem tX1_placeOfWrongLetter_56 {l : Launch} {E : xE} {Q : Int32 → xM → Prop} (M : xM) (a1 : Int32) (h : wX1_placeOfWrongLetter_56  Q M a1) : Gx l E mX1_placeOfWrongLetter (xRi Q) 56 M [none, some (.int a1), none, none] [] := by
  unfold wX1_placeOfWrongLetter_56 at h
  refine Gx_run (es := eX1_placeOfWrongLetter_56) (P := []) (M' := M) (L' := [none, some (.int a1), none, none]) (st' := [.int a1]) (pc' := 57) kX1_placeOfWrongLetter_56 rfl trivial rfl ?_
  exact Gx_iret (by decide +kernel) rfl rfl ⟨_, rfl, h⟩
def lX1_placeOfWrongLetter_16 (Q : Int32 → xM → Prop) : Nat → xM → Int32 → Int32 → Int32 → Prop
  | 0 => fun _ _ _ _ => False
  | n + 1 => let k16 := lX1_placeOfWrongLetter_16  Q n; fun M a1 a2 a3 =>
    ((((96 : Int32) ≤ a3) → (wX1_placeOfWrongLetter_56  Q M a1)) ∧ ((¬ (96 : Int32) ≤ a3) → (((((M 46 1) ≤ a2) → (wX1_placeOfWrongLetter_56  Q M a1)) ∧ ((¬ (M 46 1) ≤ a2) → ((((¬ a1 = (-9 : Int32)) → (wX1_placeOfWrongLetter_56  Q M a1)) ∧ ((a1 = (-9 : Int32)) → (wX1_wrongLetterOf M a2 (fun r38 M38 => wX1_lengthAt M38 a2 (fun r45 M45 => k16 M45 r38 (a2 + r45) (a3 + (1 : Int32)))))))))))))
set_option maxHeartbeats 4000000 in
set_option maxRecDepth 100000 in
theorem tX1_placeOfWrongLetter_16 {l : Launch} {E : xE} {Q : Int32 → xM → Prop} (n : Nat) : ∀ (M : xM) (a1 : Int32) (a2 : Int32) (a3 : Int32), lX1_placeOfWrongLetter_16  Q n M a1 a2 a3 → Gx l E mX1_placeOfWrongLetter (xRi Q) 16 M [some (.ref 46), some (.int a1), some (.int a2), some (.int a3)] [] := by
  induction n with
  | zero => intro M a1 a2 a3 h; exact h.elim
  | succ n hk16 =>
      intro M a1 a2 a3 h
      unfold lX1_placeOfWrongLetter_16 at h
      dsimp only at h
      refine Gx_run (es := eX1_placeOfWrongLetter_16) (P := []) (M' := M) (L' := [some (.ref 46), some (.int a1), some (.int a2), some (.int a3)]) (st' := [.int (96 : Int32), .int a3]) (pc' := 19) kX1_placeOfWrongLetter_16 rfl trivial rfl ?_
      refine Gx_icmp_ge (off := 37) (tgt := 56) (by decide +kernel) (by decide) (fun z => ?_) (fun z => ?_)
      · have h := h.1 z
        refine Gx_mask [false, true, false, false] (L' := [none, some (.int a1), none, none]) rfl ?_
        exact tX1_placeOfWrongLetter_56  M a1 h
      · have h := h.2 z
        refine Gx_run (es := eX1_placeOfWrongLetter_22) (P := [xkd 46 = 1]) (M' := M) (L' := [some (.ref 46), some (.int a1), some (.int a2), some (.int a3)]) (st' := [.int (M 46 1), .int a2]) (pc' := 27) kX1_placeOfWrongLetter_22 rfl ⟨rfl, trivial⟩ rfl ?_
        refine Gx_icmp_ge (off := 29) (tgt := 56) (by decide +kernel) (by decide) (fun z => ?_) (fun z => ?_)
        · have h := h.1 z
          refine Gx_mask [false, true, false, false] (L' := [none, some (.int a1), none, none]) rfl ?_
          exact tX1_placeOfWrongLetter_56  M a1 h
        · have h := h.2 z
          refine Gx_run (es := eX1_placeOfWrongLetter_30) (P := []) (M' := M) (L' := [some (.ref 46), some (.int a1), some (.int a2), some (.int a3)]) (st' := [.int (-9 : Int32), .int a1]) (pc' := 33) kX1_placeOfWrongLetter_30 rfl trivial rfl ?_
          refine Gx_icmp_ne (off := 23) (tgt := 56) (by decide +kernel) (by decide) (fun z => ?_) (fun z => ?_)
          · have h := h.1 z
            refine Gx_mask [false, true, false, false] (L' := [none, some (.int a1), none, none]) rfl ?_
            exact tX1_placeOfWrongLetter_56  M a1 h
          · have h := h.2 z
            refine Gx_run (es := eX1_placeOfWrongLetter_36) (P := []) (M' := M) (L' := [some (.ref 46), some (.int a1), some (.int a2), some (.int a3)]) (st' := [.int a2, .ref 46]) (pc' := 38) kX1_placeOfWrongLetter_36 rfl trivial rfl ?_
            refine Gx_callV (As := [.int a2]) (by decide +kernel) ml_1_47 okX1_wrongLetterOf mvX1_wrongLetterOf rfl (by decide) (Nat.le_of_ble_eq_true rfl) rfl rfl rfl (tX1_wrongLetterOf h) (fun rr M38 qq => ?_)
            obtain ⟨r38, rfl, h⟩ := qq
            show Gx l E mX1_placeOfWrongLetter _ 41 M38 [some (.ref 46), some (.int a1), some (.int a2), some (.int a3)] [.int r38]
            refine Gx_run (es := eX1_placeOfWrongLetter_41) (P := []) (M' := M38) (L' := [some (.ref 46), some (.int r38), some (.int a2), some (.int a3)]) (st' := [.int a2, .ref 46, .int a2]) (pc' := 45) kX1_placeOfWrongLetter_41 rfl trivial rfl ?_
            refine Gx_callV (As := [.int a2]) (by decide +kernel) ml_1_50 okX1_lengthAt mvX1_lengthAt rfl (by decide) (Nat.le_of_ble_eq_true rfl) rfl rfl rfl (tX1_lengthAt h) (fun rr M45 qq => ?_)
            obtain ⟨r45, rfl, h⟩ := qq
            show Gx l E mX1_placeOfWrongLetter _ 48 M45 [some (.ref 46), some (.int r38), some (.int a2), some (.int a3)] [.int r45, .int a2]
            refine Gx_run (es := eX1_placeOfWrongLetter_48) (P := []) (M' := M45) (L' := [some (.ref 46), some (.int r38), some (.int (a2 + r45)), some (.int (a3 + (1 : Int32)))]) (st' := []) (pc' := 53) kX1_placeOfWrongLetter_48 rfl trivial rfl ?_
            refine Gx_goto (off := -37) (tgt := 16) (by decide +kernel) (by decide) ?_
            refine Gx_mask [true, true, true, true] (L' := [some (.ref 46), some (.int r38), some (.int (a2 + r45)), some (.int (a3 + (1 : Int32)))]) rfl ?_
            exact hk16 M45 r38 (a2 + r45) (a3 + (1 : Int32)) h
def wX1_placeOfWrongLetter (M : xM) (Q : Int32 → xM → Prop) : Prop :=
    (((¬ (M 46 1) = 0) → ((∃ n : Nat, lX1_placeOfWrongLetter_16  Q n M (-9 : Int32) (0 : Int32) (0 : Int32)))) ∧ (((M 46 1) = 0) → (Q (0 : Int32) M)))
set_option maxHeartbeats 4000000 in
set_option maxRecDepth 100000 in
theorem tX1_placeOfWrongLetter {l : Launch} {E : xE} {M : xM} {Q : Int32 → xM → Prop} (h : wX1_placeOfWrongLetter M  Q) : Ct l E mX1_placeOfWrongLetter [.ref 46] M (xRi Q) := by
  refine Ct_of (by decide +kernel) rfl (Nat.le_of_ble_eq_true rfl) ?_
  unfold wX1_placeOfWrongLetter at h
  show Gx l E mX1_placeOfWrongLetter (xRi Q) 0 M [some (.ref 46), none, none, none] []
  refine Gx_run (es := eX1_placeOfWrongLetter_0) (P := [xkd 46 = 1]) (M' := M) (L' := [some (.ref 46), none, none, none]) (st' := [.int (M 46 1)]) (pc' := 4) kX1_placeOfWrongLetter_0 rfl ⟨rfl, trivial⟩ rfl ?_
  refine Gx_if_ne (off := 5) (tgt := 9) (by decide +kernel) (by decide) (fun z => ?_) (fun z => ?_)
  · have h := h.1 z
    refine Gx_run (es := eX1_placeOfWrongLetter_9) (P := []) (M' := M) (L' := [some (.ref 46), some (.int (-9 : Int32)), some (.int (0 : Int32)), some (.int (0 : Int32))]) (st' := []) (pc' := 16) kX1_placeOfWrongLetter_9 rfl trivial rfl ?_
    refine Gx_mask [true, true, true, true] (L' := [some (.ref 46), some (.int (-9 : Int32)), some (.int (0 : Int32)), some (.int (0 : Int32))]) rfl ?_
    obtain ⟨n, h⟩ := h
    exact tX1_placeOfWrongLetter_16  n M (-9 : Int32) (0 : Int32) (0 : Int32) h
  · have h := h.2 z
    refine Gx_run (es := eX1_placeOfWrongLetter_7) (P := []) (M' := M) (L' := [some (.ref 46), none, none, none]) (st' := [.int (0 : Int32)]) (pc' := 8) kX1_placeOfWrongLetter_7 rfl trivial rfl ?_
    exact Gx_iret (by decide +kernel) rfl rfl ⟨_, rfl, h⟩
