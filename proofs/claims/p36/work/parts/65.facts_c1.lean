theorem dm_init_339 : dn tm_init 339 (.dup) 1 340 := ⟨o_89 (oW (K := 320) (r := 19) wi_m_init_320 (by decide +kernel)), rfl⟩
theorem dm_init_340 : dn tm_init 340 (.bipush 46) 2 342 := ⟨o_16 46 46 (oWd (K := 320) (r := 20) wi_m_init_320 (by decide +kernel)), rfl⟩
theorem dm_init_342 : dn tm_init 342 (.bipush 111) 2 344 := ⟨o_16 111 111 (oWd (K := 320) (r := 22) wi_m_init_320 (by decide +kernel)), rfl⟩
theorem dm_init_344 : dn tm_init 344 (.iastore) 1 345 := ⟨o_79 (oW (K := 320) (r := 24) wi_m_init_320 (by decide +kernel)), rfl⟩
theorem dm_init_345 : dn tm_init 345 (.dup) 1 346 := ⟨o_89 (oW (K := 320) (r := 25) wi_m_init_320 (by decide +kernel)), rfl⟩
theorem dm_init_346 : dn tm_init 346 (.bipush 47) 2 348 := ⟨o_16 47 47 (oWd (K := 320) (r := 26) wi_m_init_320 (by decide +kernel)), rfl⟩
theorem dm_init_348 : dn tm_init 348 (.bipush 110) 2 350 := ⟨o_16 110 110 (oWd (K := 320) (r := 28) wi_m_init_320 (by decide +kernel)), rfl⟩
theorem dm_init_350 : dn tm_init 350 (.iastore) 1 351 := ⟨o_79 (oW (K := 320) (r := 30) wi_m_init_320 (by decide +kernel)), rfl⟩
theorem dm_init_351 : dn tm_init 351 (.dup) 1 352 := ⟨o_89 (oW (K := 320) (r := 31) wi_m_init_320 (by decide +kernel)), rfl⟩
def wl_m_init_352 : List Nat := [16, 48, 16, 100, 79, 89, 16, 49, 16, 115, 79, 89, 16, 50, 16, 32, 79, 89, 16, 51, 16, 116, 79, 89, 16, 52, 16, 101, 79, 89, 16, 53, 16, 101, 79, 89, 16, 54]
theorem wi_m_init_352 : oC tm_init.2.1 352 wl_m_init_352 = true := by decide +kernel
theorem dm_init_352 : dn tm_init 352 (.bipush 48) 2 354 := ⟨o_16 48 48 (oWd (K := 352) (r := 0) wi_m_init_352 (by decide +kernel)), rfl⟩
theorem dm_init_354 : dn tm_init 354 (.bipush 100) 2 356 := ⟨o_16 100 100 (oWd (K := 352) (r := 2) wi_m_init_352 (by decide +kernel)), rfl⟩
theorem dm_init_356 : dn tm_init 356 (.iastore) 1 357 := ⟨o_79 (oW (K := 352) (r := 4) wi_m_init_352 (by decide +kernel)), rfl⟩
theorem dm_init_357 : dn tm_init 357 (.dup) 1 358 := ⟨o_89 (oW (K := 352) (r := 5) wi_m_init_352 (by decide +kernel)), rfl⟩
theorem dm_init_358 : dn tm_init 358 (.bipush 49) 2 360 := ⟨o_16 49 49 (oWd (K := 352) (r := 6) wi_m_init_352 (by decide +kernel)), rfl⟩
theorem dm_init_360 : dn tm_init 360 (.bipush 115) 2 362 := ⟨o_16 115 115 (oWd (K := 352) (r := 8) wi_m_init_352 (by decide +kernel)), rfl⟩
theorem dm_init_362 : dn tm_init 362 (.iastore) 1 363 := ⟨o_79 (oW (K := 352) (r := 10) wi_m_init_352 (by decide +kernel)), rfl⟩
theorem dm_init_363 : dn tm_init 363 (.dup) 1 364 := ⟨o_89 (oW (K := 352) (r := 11) wi_m_init_352 (by decide +kernel)), rfl⟩
theorem dm_init_364 : dn tm_init 364 (.bipush 50) 2 366 := ⟨o_16 50 50 (oWd (K := 352) (r := 12) wi_m_init_352 (by decide +kernel)), rfl⟩
theorem dm_init_366 : dn tm_init 366 (.bipush 32) 2 368 := ⟨o_16 32 32 (oWd (K := 352) (r := 14) wi_m_init_352 (by decide +kernel)), rfl⟩
theorem dm_init_368 : dn tm_init 368 (.iastore) 1 369 := ⟨o_79 (oW (K := 352) (r := 16) wi_m_init_352 (by decide +kernel)), rfl⟩
theorem dm_init_369 : dn tm_init 369 (.dup) 1 370 := ⟨o_89 (oW (K := 352) (r := 17) wi_m_init_352 (by decide +kernel)), rfl⟩
theorem dm_init_370 : dn tm_init 370 (.bipush 51) 2 372 := ⟨o_16 51 51 (oWd (K := 352) (r := 18) wi_m_init_352 (by decide +kernel)), rfl⟩
theorem dm_init_372 : dn tm_init 372 (.bipush 116) 2 374 := ⟨o_16 116 116 (oWd (K := 352) (r := 20) wi_m_init_352 (by decide +kernel)), rfl⟩
theorem dm_init_374 : dn tm_init 374 (.iastore) 1 375 := ⟨o_79 (oW (K := 352) (r := 22) wi_m_init_352 (by decide +kernel)), rfl⟩
theorem dm_init_375 : dn tm_init 375 (.dup) 1 376 := ⟨o_89 (oW (K := 352) (r := 23) wi_m_init_352 (by decide +kernel)), rfl⟩
theorem dm_init_376 : dn tm_init 376 (.bipush 52) 2 378 := ⟨o_16 52 52 (oWd (K := 352) (r := 24) wi_m_init_352 (by decide +kernel)), rfl⟩
theorem dm_init_378 : dn tm_init 378 (.bipush 101) 2 380 := ⟨o_16 101 101 (oWd (K := 352) (r := 26) wi_m_init_352 (by decide +kernel)), rfl⟩
theorem dm_init_380 : dn tm_init 380 (.iastore) 1 381 := ⟨o_79 (oW (K := 352) (r := 28) wi_m_init_352 (by decide +kernel)), rfl⟩
theorem dm_init_381 : dn tm_init 381 (.dup) 1 382 := ⟨o_89 (oW (K := 352) (r := 29) wi_m_init_352 (by decide +kernel)), rfl⟩
theorem dm_init_382 : dn tm_init 382 (.bipush 53) 2 384 := ⟨o_16 53 53 (oWd (K := 352) (r := 30) wi_m_init_352 (by decide +kernel)), rfl⟩
def wl_m_init_384 : List Nat := [16, 101, 79, 89, 16, 54, 16, 116, 79, 89, 16, 55, 16, 104, 79, 89, 16, 56, 16, 32, 79, 89, 16, 57, 16, 104, 79, 89, 16, 58, 16, 97, 79, 89, 16, 59, 16, 114]
theorem wi_m_init_384 : oC tm_init.2.1 384 wl_m_init_384 = true := by decide +kernel
theorem dm_init_384 : dn tm_init 384 (.bipush 101) 2 386 := ⟨o_16 101 101 (oWd (K := 384) (r := 0) wi_m_init_384 (by decide +kernel)), rfl⟩
theorem dm_init_386 : dn tm_init 386 (.iastore) 1 387 := ⟨o_79 (oW (K := 384) (r := 2) wi_m_init_384 (by decide +kernel)), rfl⟩
theorem dm_init_387 : dn tm_init 387 (.dup) 1 388 := ⟨o_89 (oW (K := 384) (r := 3) wi_m_init_384 (by decide +kernel)), rfl⟩
theorem dm_init_388 : dn tm_init 388 (.bipush 54) 2 390 := ⟨o_16 54 54 (oWd (K := 384) (r := 4) wi_m_init_384 (by decide +kernel)), rfl⟩
theorem dm_init_390 : dn tm_init 390 (.bipush 116) 2 392 := ⟨o_16 116 116 (oWd (K := 384) (r := 6) wi_m_init_384 (by decide +kernel)), rfl⟩
theorem dm_init_392 : dn tm_init 392 (.iastore) 1 393 := ⟨o_79 (oW (K := 384) (r := 8) wi_m_init_384 (by decide +kernel)), rfl⟩
theorem dm_init_393 : dn tm_init 393 (.dup) 1 394 := ⟨o_89 (oW (K := 384) (r := 9) wi_m_init_384 (by decide +kernel)), rfl⟩
theorem dm_init_394 : dn tm_init 394 (.bipush 55) 2 396 := ⟨o_16 55 55 (oWd (K := 384) (r := 10) wi_m_init_384 (by decide +kernel)), rfl⟩
theorem dm_init_396 : dn tm_init 396 (.bipush 104) 2 398 := ⟨o_16 104 104 (oWd (K := 384) (r := 12) wi_m_init_384 (by decide +kernel)), rfl⟩
theorem dm_init_398 : dn tm_init 398 (.iastore) 1 399 := ⟨o_79 (oW (K := 384) (r := 14) wi_m_init_384 (by decide +kernel)), rfl⟩
theorem dm_init_399 : dn tm_init 399 (.dup) 1 400 := ⟨o_89 (oW (K := 384) (r := 15) wi_m_init_384 (by decide +kernel)), rfl⟩
theorem dm_init_400 : dn tm_init 400 (.bipush 56) 2 402 := ⟨o_16 56 56 (oWd (K := 384) (r := 16) wi_m_init_384 (by decide +kernel)), rfl⟩
theorem dm_init_402 : dn tm_init 402 (.bipush 32) 2 404 := ⟨o_16 32 32 (oWd (K := 384) (r := 18) wi_m_init_384 (by decide +kernel)), rfl⟩
theorem dm_init_404 : dn tm_init 404 (.iastore) 1 405 := ⟨o_79 (oW (K := 384) (r := 20) wi_m_init_384 (by decide +kernel)), rfl⟩
theorem dm_init_405 : dn tm_init 405 (.dup) 1 406 := ⟨o_89 (oW (K := 384) (r := 21) wi_m_init_384 (by decide +kernel)), rfl⟩
theorem dm_init_406 : dn tm_init 406 (.bipush 57) 2 408 := ⟨o_16 57 57 (oWd (K := 384) (r := 22) wi_m_init_384 (by decide +kernel)), rfl⟩
theorem dm_init_408 : dn tm_init 408 (.bipush 104) 2 410 := ⟨o_16 104 104 (oWd (K := 384) (r := 24) wi_m_init_384 (by decide +kernel)), rfl⟩
theorem dm_init_410 : dn tm_init 410 (.iastore) 1 411 := ⟨o_79 (oW (K := 384) (r := 26) wi_m_init_384 (by decide +kernel)), rfl⟩
theorem dm_init_411 : dn tm_init 411 (.dup) 1 412 := ⟨o_89 (oW (K := 384) (r := 27) wi_m_init_384 (by decide +kernel)), rfl⟩
theorem dm_init_412 : dn tm_init 412 (.bipush 58) 2 414 := ⟨o_16 58 58 (oWd (K := 384) (r := 28) wi_m_init_384 (by decide +kernel)), rfl⟩
theorem dm_init_414 : dn tm_init 414 (.bipush 97) 2 416 := ⟨o_16 97 97 (oWd (K := 384) (r := 30) wi_m_init_384 (by decide +kernel)), rfl⟩
def wl_m_init_416 : List Nat := [79, 89, 16, 59, 16, 114, 79, 89, 16, 60, 16, 100, 79, 89, 16, 61, 16, 32, 79, 89, 16, 62, 16, 105, 79, 89, 16, 63, 16, 99, 79, 89, 16, 64, 16, 105, 79, 89]
theorem wi_m_init_416 : oC tm_init.2.1 416 wl_m_init_416 = true := by decide +kernel
theorem dm_init_416 : dn tm_init 416 (.iastore) 1 417 := ⟨o_79 (oW (K := 416) (r := 0) wi_m_init_416 (by decide +kernel)), rfl⟩
theorem dm_init_417 : dn tm_init 417 (.dup) 1 418 := ⟨o_89 (oW (K := 416) (r := 1) wi_m_init_416 (by decide +kernel)), rfl⟩
theorem dm_init_418 : dn tm_init 418 (.bipush 59) 2 420 := ⟨o_16 59 59 (oWd (K := 416) (r := 2) wi_m_init_416 (by decide +kernel)), rfl⟩
theorem dm_init_420 : dn tm_init 420 (.bipush 114) 2 422 := ⟨o_16 114 114 (oWd (K := 416) (r := 4) wi_m_init_416 (by decide +kernel)), rfl⟩
theorem dm_init_422 : dn tm_init 422 (.iastore) 1 423 := ⟨o_79 (oW (K := 416) (r := 6) wi_m_init_416 (by decide +kernel)), rfl⟩
theorem dm_init_423 : dn tm_init 423 (.dup) 1 424 := ⟨o_89 (oW (K := 416) (r := 7) wi_m_init_416 (by decide +kernel)), rfl⟩
theorem dm_init_424 : dn tm_init 424 (.bipush 60) 2 426 := ⟨o_16 60 60 (oWd (K := 416) (r := 8) wi_m_init_416 (by decide +kernel)), rfl⟩
theorem dm_init_426 : dn tm_init 426 (.bipush 100) 2 428 := ⟨o_16 100 100 (oWd (K := 416) (r := 10) wi_m_init_416 (by decide +kernel)), rfl⟩
theorem dm_init_428 : dn tm_init 428 (.iastore) 1 429 := ⟨o_79 (oW (K := 416) (r := 12) wi_m_init_416 (by decide +kernel)), rfl⟩
theorem dm_init_429 : dn tm_init 429 (.dup) 1 430 := ⟨o_89 (oW (K := 416) (r := 13) wi_m_init_416 (by decide +kernel)), rfl⟩
theorem dm_init_430 : dn tm_init 430 (.bipush 61) 2 432 := ⟨o_16 61 61 (oWd (K := 416) (r := 14) wi_m_init_416 (by decide +kernel)), rfl⟩
theorem dm_init_432 : dn tm_init 432 (.bipush 32) 2 434 := ⟨o_16 32 32 (oWd (K := 416) (r := 16) wi_m_init_416 (by decide +kernel)), rfl⟩
theorem dm_init_434 : dn tm_init 434 (.iastore) 1 435 := ⟨o_79 (oW (K := 416) (r := 18) wi_m_init_416 (by decide +kernel)), rfl⟩
theorem dm_init_435 : dn tm_init 435 (.dup) 1 436 := ⟨o_89 (oW (K := 416) (r := 19) wi_m_init_416 (by decide +kernel)), rfl⟩
theorem dm_init_436 : dn tm_init 436 (.bipush 62) 2 438 := ⟨o_16 62 62 (oWd (K := 416) (r := 20) wi_m_init_416 (by decide +kernel)), rfl⟩
theorem dm_init_438 : dn tm_init 438 (.bipush 105) 2 440 := ⟨o_16 105 105 (oWd (K := 416) (r := 22) wi_m_init_416 (by decide +kernel)), rfl⟩
theorem dm_init_440 : dn tm_init 440 (.iastore) 1 441 := ⟨o_79 (oW (K := 416) (r := 24) wi_m_init_416 (by decide +kernel)), rfl⟩
theorem dm_init_441 : dn tm_init 441 (.dup) 1 442 := ⟨o_89 (oW (K := 416) (r := 25) wi_m_init_416 (by decide +kernel)), rfl⟩
theorem dm_init_442 : dn tm_init 442 (.bipush 63) 2 444 := ⟨o_16 63 63 (oWd (K := 416) (r := 26) wi_m_init_416 (by decide +kernel)), rfl⟩
theorem dm_init_444 : dn tm_init 444 (.bipush 99) 2 446 := ⟨o_16 99 99 (oWd (K := 416) (r := 28) wi_m_init_416 (by decide +kernel)), rfl⟩
theorem dm_init_446 : dn tm_init 446 (.iastore) 1 447 := ⟨o_79 (oW (K := 416) (r := 30) wi_m_init_416 (by decide +kernel)), rfl⟩
theorem dm_init_447 : dn tm_init 447 (.dup) 1 448 := ⟨o_89 (oW (K := 416) (r := 31) wi_m_init_416 (by decide +kernel)), rfl⟩
def wl_m_init_448 : List Nat := [16, 64, 16, 105, 79, 89, 16, 65, 16, 110, 79, 89, 16, 66, 16, 103, 79, 89, 16, 67, 16, 32, 79, 89, 16, 68, 16, 108, 79, 89, 16, 69, 16, 111, 79, 89, 16, 70]
theorem wi_m_init_448 : oC tm_init.2.1 448 wl_m_init_448 = true := by decide +kernel
theorem dm_init_448 : dn tm_init 448 (.bipush 64) 2 450 := ⟨o_16 64 64 (oWd (K := 448) (r := 0) wi_m_init_448 (by decide +kernel)), rfl⟩
theorem dm_init_450 : dn tm_init 450 (.bipush 105) 2 452 := ⟨o_16 105 105 (oWd (K := 448) (r := 2) wi_m_init_448 (by decide +kernel)), rfl⟩
theorem dm_init_452 : dn tm_init 452 (.iastore) 1 453 := ⟨o_79 (oW (K := 448) (r := 4) wi_m_init_448 (by decide +kernel)), rfl⟩
theorem dm_init_453 : dn tm_init 453 (.dup) 1 454 := ⟨o_89 (oW (K := 448) (r := 5) wi_m_init_448 (by decide +kernel)), rfl⟩
theorem dm_init_454 : dn tm_init 454 (.bipush 65) 2 456 := ⟨o_16 65 65 (oWd (K := 448) (r := 6) wi_m_init_448 (by decide +kernel)), rfl⟩
theorem dm_init_456 : dn tm_init 456 (.bipush 110) 2 458 := ⟨o_16 110 110 (oWd (K := 448) (r := 8) wi_m_init_448 (by decide +kernel)), rfl⟩
theorem dm_init_458 : dn tm_init 458 (.iastore) 1 459 := ⟨o_79 (oW (K := 448) (r := 10) wi_m_init_448 (by decide +kernel)), rfl⟩
theorem dm_init_459 : dn tm_init 459 (.dup) 1 460 := ⟨o_89 (oW (K := 448) (r := 11) wi_m_init_448 (by decide +kernel)), rfl⟩
theorem dm_init_460 : dn tm_init 460 (.bipush 66) 2 462 := ⟨o_16 66 66 (oWd (K := 448) (r := 12) wi_m_init_448 (by decide +kernel)), rfl⟩
theorem dm_init_462 : dn tm_init 462 (.bipush 103) 2 464 := ⟨o_16 103 103 (oWd (K := 448) (r := 14) wi_m_init_448 (by decide +kernel)), rfl⟩
theorem dm_init_464 : dn tm_init 464 (.iastore) 1 465 := ⟨o_79 (oW (K := 448) (r := 16) wi_m_init_448 (by decide +kernel)), rfl⟩
theorem dm_init_465 : dn tm_init 465 (.dup) 1 466 := ⟨o_89 (oW (K := 448) (r := 17) wi_m_init_448 (by decide +kernel)), rfl⟩
theorem dm_init_466 : dn tm_init 466 (.bipush 67) 2 468 := ⟨o_16 67 67 (oWd (K := 448) (r := 18) wi_m_init_448 (by decide +kernel)), rfl⟩
theorem dm_init_468 : dn tm_init 468 (.bipush 32) 2 470 := ⟨o_16 32 32 (oWd (K := 448) (r := 20) wi_m_init_448 (by decide +kernel)), rfl⟩
theorem dm_init_470 : dn tm_init 470 (.iastore) 1 471 := ⟨o_79 (oW (K := 448) (r := 22) wi_m_init_448 (by decide +kernel)), rfl⟩
theorem dm_init_471 : dn tm_init 471 (.dup) 1 472 := ⟨o_89 (oW (K := 448) (r := 23) wi_m_init_448 (by decide +kernel)), rfl⟩
theorem dm_init_472 : dn tm_init 472 (.bipush 68) 2 474 := ⟨o_16 68 68 (oWd (K := 448) (r := 24) wi_m_init_448 (by decide +kernel)), rfl⟩
theorem dm_init_474 : dn tm_init 474 (.bipush 108) 2 476 := ⟨o_16 108 108 (oWd (K := 448) (r := 26) wi_m_init_448 (by decide +kernel)), rfl⟩
theorem dm_init_476 : dn tm_init 476 (.iastore) 1 477 := ⟨o_79 (oW (K := 448) (r := 28) wi_m_init_448 (by decide +kernel)), rfl⟩
theorem dm_init_477 : dn tm_init 477 (.dup) 1 478 := ⟨o_89 (oW (K := 448) (r := 29) wi_m_init_448 (by decide +kernel)), rfl⟩
theorem dm_init_478 : dn tm_init 478 (.bipush 69) 2 480 := ⟨o_16 69 69 (oWd (K := 448) (r := 30) wi_m_init_448 (by decide +kernel)), rfl⟩
def wl_m_init_480 : List Nat := [16, 111, 79, 89, 16, 70, 16, 100, 79, 89, 16, 71, 16, 103, 79, 89, 16, 72, 16, 101, 79, 89, 16, 73, 16, 114, 79, 89, 16, 74, 16, 115, 79, 89, 16, 75, 16, 32]
theorem wi_m_init_480 : oC tm_init.2.1 480 wl_m_init_480 = true := by decide +kernel
theorem dm_init_480 : dn tm_init 480 (.bipush 111) 2 482 := ⟨o_16 111 111 (oWd (K := 480) (r := 0) wi_m_init_480 (by decide +kernel)), rfl⟩
theorem dm_init_482 : dn tm_init 482 (.iastore) 1 483 := ⟨o_79 (oW (K := 480) (r := 2) wi_m_init_480 (by decide +kernel)), rfl⟩
theorem dm_init_483 : dn tm_init 483 (.dup) 1 484 := ⟨o_89 (oW (K := 480) (r := 3) wi_m_init_480 (by decide +kernel)), rfl⟩
theorem dm_init_484 : dn tm_init 484 (.bipush 70) 2 486 := ⟨o_16 70 70 (oWd (K := 480) (r := 4) wi_m_init_480 (by decide +kernel)), rfl⟩
theorem dm_init_486 : dn tm_init 486 (.bipush 100) 2 488 := ⟨o_16 100 100 (oWd (K := 480) (r := 6) wi_m_init_480 (by decide +kernel)), rfl⟩
theorem dm_init_488 : dn tm_init 488 (.iastore) 1 489 := ⟨o_79 (oW (K := 480) (r := 8) wi_m_init_480 (by decide +kernel)), rfl⟩
theorem dm_init_489 : dn tm_init 489 (.dup) 1 490 := ⟨o_89 (oW (K := 480) (r := 9) wi_m_init_480 (by decide +kernel)), rfl⟩
theorem dm_init_490 : dn tm_init 490 (.bipush 71) 2 492 := ⟨o_16 71 71 (oWd (K := 480) (r := 10) wi_m_init_480 (by decide +kernel)), rfl⟩
theorem dm_init_492 : dn tm_init 492 (.bipush 103) 2 494 := ⟨o_16 103 103 (oWd (K := 480) (r := 12) wi_m_init_480 (by decide +kernel)), rfl⟩
theorem dm_init_494 : dn tm_init 494 (.iastore) 1 495 := ⟨o_79 (oW (K := 480) (r := 14) wi_m_init_480 (by decide +kernel)), rfl⟩
theorem dm_init_495 : dn tm_init 495 (.dup) 1 496 := ⟨o_89 (oW (K := 480) (r := 15) wi_m_init_480 (by decide +kernel)), rfl⟩
theorem dm_init_496 : dn tm_init 496 (.bipush 72) 2 498 := ⟨o_16 72 72 (oWd (K := 480) (r := 16) wi_m_init_480 (by decide +kernel)), rfl⟩
theorem dm_init_498 : dn tm_init 498 (.bipush 101) 2 500 := ⟨o_16 101 101 (oWd (K := 480) (r := 18) wi_m_init_480 (by decide +kernel)), rfl⟩
theorem dm_init_500 : dn tm_init 500 (.iastore) 1 501 := ⟨o_79 (oW (K := 480) (r := 20) wi_m_init_480 (by decide +kernel)), rfl⟩
theorem dm_init_501 : dn tm_init 501 (.dup) 1 502 := ⟨o_89 (oW (K := 480) (r := 21) wi_m_init_480 (by decide +kernel)), rfl⟩
theorem dm_init_502 : dn tm_init 502 (.bipush 73) 2 504 := ⟨o_16 73 73 (oWd (K := 480) (r := 22) wi_m_init_480 (by decide +kernel)), rfl⟩
theorem dm_init_504 : dn tm_init 504 (.bipush 114) 2 506 := ⟨o_16 114 114 (oWd (K := 480) (r := 24) wi_m_init_480 (by decide +kernel)), rfl⟩
theorem dm_init_506 : dn tm_init 506 (.iastore) 1 507 := ⟨o_79 (oW (K := 480) (r := 26) wi_m_init_480 (by decide +kernel)), rfl⟩
theorem dm_init_507 : dn tm_init 507 (.dup) 1 508 := ⟨o_89 (oW (K := 480) (r := 27) wi_m_init_480 (by decide +kernel)), rfl⟩
theorem dm_init_508 : dn tm_init 508 (.bipush 74) 2 510 := ⟨o_16 74 74 (oWd (K := 480) (r := 28) wi_m_init_480 (by decide +kernel)), rfl⟩
theorem dm_init_510 : dn tm_init 510 (.bipush 115) 2 512 := ⟨o_16 115 115 (oWd (K := 480) (r := 30) wi_m_init_480 (by decide +kernel)), rfl⟩
def wl_m_init_512 : List Nat := [79, 89, 16, 75, 16, 32, 79, 89, 16, 76, 16, 100, 79, 89, 16, 77, 16, 111, 79, 89, 16, 78, 16, 111, 79, 89, 16, 79, 16, 114, 79, 89, 16, 80, 16, 32, 79, 89]
theorem wi_m_init_512 : oC tm_init.2.1 512 wl_m_init_512 = true := by decide +kernel
theorem dm_init_512 : dn tm_init 512 (.iastore) 1 513 := ⟨o_79 (oW (K := 512) (r := 0) wi_m_init_512 (by decide +kernel)), rfl⟩
theorem dm_init_513 : dn tm_init 513 (.dup) 1 514 := ⟨o_89 (oW (K := 512) (r := 1) wi_m_init_512 (by decide +kernel)), rfl⟩
theorem dm_init_514 : dn tm_init 514 (.bipush 75) 2 516 := ⟨o_16 75 75 (oWd (K := 512) (r := 2) wi_m_init_512 (by decide +kernel)), rfl⟩
theorem dm_init_516 : dn tm_init 516 (.bipush 32) 2 518 := ⟨o_16 32 32 (oWd (K := 512) (r := 4) wi_m_init_512 (by decide +kernel)), rfl⟩
theorem dm_init_518 : dn tm_init 518 (.iastore) 1 519 := ⟨o_79 (oW (K := 512) (r := 6) wi_m_init_512 (by decide +kernel)), rfl⟩
theorem dm_init_519 : dn tm_init 519 (.dup) 1 520 := ⟨o_89 (oW (K := 512) (r := 7) wi_m_init_512 (by decide +kernel)), rfl⟩
theorem dm_init_520 : dn tm_init 520 (.bipush 76) 2 522 := ⟨o_16 76 76 (oWd (K := 512) (r := 8) wi_m_init_512 (by decide +kernel)), rfl⟩
theorem dm_init_522 : dn tm_init 522 (.bipush 100) 2 524 := ⟨o_16 100 100 (oWd (K := 512) (r := 10) wi_m_init_512 (by decide +kernel)), rfl⟩
theorem dm_init_524 : dn tm_init 524 (.iastore) 1 525 := ⟨o_79 (oW (K := 512) (r := 12) wi_m_init_512 (by decide +kernel)), rfl⟩
theorem dm_init_525 : dn tm_init 525 (.dup) 1 526 := ⟨o_89 (oW (K := 512) (r := 13) wi_m_init_512 (by decide +kernel)), rfl⟩
theorem dm_init_526 : dn tm_init 526 (.bipush 77) 2 528 := ⟨o_16 77 77 (oWd (K := 512) (r := 14) wi_m_init_512 (by decide +kernel)), rfl⟩
theorem dm_init_528 : dn tm_init 528 (.bipush 111) 2 530 := ⟨o_16 111 111 (oWd (K := 512) (r := 16) wi_m_init_512 (by decide +kernel)), rfl⟩
theorem dm_init_530 : dn tm_init 530 (.iastore) 1 531 := ⟨o_79 (oW (K := 512) (r := 18) wi_m_init_512 (by decide +kernel)), rfl⟩
theorem dm_init_531 : dn tm_init 531 (.dup) 1 532 := ⟨o_89 (oW (K := 512) (r := 19) wi_m_init_512 (by decide +kernel)), rfl⟩
theorem dm_init_532 : dn tm_init 532 (.bipush 78) 2 534 := ⟨o_16 78 78 (oWd (K := 512) (r := 20) wi_m_init_512 (by decide +kernel)), rfl⟩
theorem dm_init_534 : dn tm_init 534 (.bipush 111) 2 536 := ⟨o_16 111 111 (oWd (K := 512) (r := 22) wi_m_init_512 (by decide +kernel)), rfl⟩
theorem dm_init_536 : dn tm_init 536 (.iastore) 1 537 := ⟨o_79 (oW (K := 512) (r := 24) wi_m_init_512 (by decide +kernel)), rfl⟩
theorem dm_init_537 : dn tm_init 537 (.dup) 1 538 := ⟨o_89 (oW (K := 512) (r := 25) wi_m_init_512 (by decide +kernel)), rfl⟩
theorem dm_init_538 : dn tm_init 538 (.bipush 79) 2 540 := ⟨o_16 79 79 (oWd (K := 512) (r := 26) wi_m_init_512 (by decide +kernel)), rfl⟩
theorem dm_init_540 : dn tm_init 540 (.bipush 114) 2 542 := ⟨o_16 114 114 (oWd (K := 512) (r := 28) wi_m_init_512 (by decide +kernel)), rfl⟩
theorem dm_init_542 : dn tm_init 542 (.iastore) 1 543 := ⟨o_79 (oW (K := 512) (r := 30) wi_m_init_512 (by decide +kernel)), rfl⟩
theorem dm_init_543 : dn tm_init 543 (.dup) 1 544 := ⟨o_89 (oW (K := 512) (r := 31) wi_m_init_512 (by decide +kernel)), rfl⟩
def wl_m_init_544 : List Nat := [16, 80, 16, 32, 79, 89, 16, 81, 16, 97, 79, 89, 16, 82, 16, 103, 79, 89, 16, 83, 16, 101, 79, 89, 16, 84, 16, 32, 79, 89, 16, 85, 16, 114, 79, 89, 16, 86]
theorem wi_m_init_544 : oC tm_init.2.1 544 wl_m_init_544 = true := by decide +kernel
theorem dm_init_544 : dn tm_init 544 (.bipush 80) 2 546 := ⟨o_16 80 80 (oWd (K := 544) (r := 0) wi_m_init_544 (by decide +kernel)), rfl⟩
theorem dm_init_546 : dn tm_init 546 (.bipush 32) 2 548 := ⟨o_16 32 32 (oWd (K := 544) (r := 2) wi_m_init_544 (by decide +kernel)), rfl⟩
theorem dm_init_548 : dn tm_init 548 (.iastore) 1 549 := ⟨o_79 (oW (K := 544) (r := 4) wi_m_init_544 (by decide +kernel)), rfl⟩
theorem dm_init_549 : dn tm_init 549 (.dup) 1 550 := ⟨o_89 (oW (K := 544) (r := 5) wi_m_init_544 (by decide +kernel)), rfl⟩
theorem dm_init_550 : dn tm_init 550 (.bipush 81) 2 552 := ⟨o_16 81 81 (oWd (K := 544) (r := 6) wi_m_init_544 (by decide +kernel)), rfl⟩
theorem dm_init_552 : dn tm_init 552 (.bipush 97) 2 554 := ⟨o_16 97 97 (oWd (K := 544) (r := 8) wi_m_init_544 (by decide +kernel)), rfl⟩
theorem dm_init_554 : dn tm_init 554 (.iastore) 1 555 := ⟨o_79 (oW (K := 544) (r := 10) wi_m_init_544 (by decide +kernel)), rfl⟩
theorem dm_init_555 : dn tm_init 555 (.dup) 1 556 := ⟨o_89 (oW (K := 544) (r := 11) wi_m_init_544 (by decide +kernel)), rfl⟩
theorem dm_init_556 : dn tm_init 556 (.bipush 82) 2 558 := ⟨o_16 82 82 (oWd (K := 544) (r := 12) wi_m_init_544 (by decide +kernel)), rfl⟩
theorem dm_init_558 : dn tm_init 558 (.bipush 103) 2 560 := ⟨o_16 103 103 (oWd (K := 544) (r := 14) wi_m_init_544 (by decide +kernel)), rfl⟩
theorem dm_init_560 : dn tm_init 560 (.iastore) 1 561 := ⟨o_79 (oW (K := 544) (r := 16) wi_m_init_544 (by decide +kernel)), rfl⟩
theorem dm_init_561 : dn tm_init 561 (.dup) 1 562 := ⟨o_89 (oW (K := 544) (r := 17) wi_m_init_544 (by decide +kernel)), rfl⟩
theorem dm_init_562 : dn tm_init 562 (.bipush 83) 2 564 := ⟨o_16 83 83 (oWd (K := 544) (r := 18) wi_m_init_544 (by decide +kernel)), rfl⟩
theorem dm_init_564 : dn tm_init 564 (.bipush 101) 2 566 := ⟨o_16 101 101 (oWd (K := 544) (r := 20) wi_m_init_544 (by decide +kernel)), rfl⟩
theorem dm_init_566 : dn tm_init 566 (.iastore) 1 567 := ⟨o_79 (oW (K := 544) (r := 22) wi_m_init_544 (by decide +kernel)), rfl⟩
theorem dm_init_567 : dn tm_init 567 (.dup) 1 568 := ⟨o_89 (oW (K := 544) (r := 23) wi_m_init_544 (by decide +kernel)), rfl⟩
theorem dm_init_568 : dn tm_init 568 (.bipush 84) 2 570 := ⟨o_16 84 84 (oWd (K := 544) (r := 24) wi_m_init_544 (by decide +kernel)), rfl⟩
theorem dm_init_570 : dn tm_init 570 (.bipush 32) 2 572 := ⟨o_16 32 32 (oWd (K := 544) (r := 26) wi_m_init_544 (by decide +kernel)), rfl⟩
theorem dm_init_572 : dn tm_init 572 (.iastore) 1 573 := ⟨o_79 (oW (K := 544) (r := 28) wi_m_init_544 (by decide +kernel)), rfl⟩
theorem dm_init_573 : dn tm_init 573 (.dup) 1 574 := ⟨o_89 (oW (K := 544) (r := 29) wi_m_init_544 (by decide +kernel)), rfl⟩
theorem dm_init_574 : dn tm_init 574 (.bipush 85) 2 576 := ⟨o_16 85 85 (oWd (K := 544) (r := 30) wi_m_init_544 (by decide +kernel)), rfl⟩
def wl_m_init_576 : List Nat := [16, 114, 79, 89, 16, 86, 16, 97, 79, 89, 16, 87, 16, 105, 79, 89, 16, 88, 16, 110, 79, 89, 16, 89, 16, 32, 79, 89, 16, 90, 16, 102, 79, 89, 16, 91, 16, 114]
theorem wi_m_init_576 : oC tm_init.2.1 576 wl_m_init_576 = true := by decide +kernel
theorem dm_init_576 : dn tm_init 576 (.bipush 114) 2 578 := ⟨o_16 114 114 (oWd (K := 576) (r := 0) wi_m_init_576 (by decide +kernel)), rfl⟩
theorem dm_init_578 : dn tm_init 578 (.iastore) 1 579 := ⟨o_79 (oW (K := 576) (r := 2) wi_m_init_576 (by decide +kernel)), rfl⟩
theorem dm_init_579 : dn tm_init 579 (.dup) 1 580 := ⟨o_89 (oW (K := 576) (r := 3) wi_m_init_576 (by decide +kernel)), rfl⟩
theorem dm_init_580 : dn tm_init 580 (.bipush 86) 2 582 := ⟨o_16 86 86 (oWd (K := 576) (r := 4) wi_m_init_576 (by decide +kernel)), rfl⟩
theorem dm_init_582 : dn tm_init 582 (.bipush 97) 2 584 := ⟨o_16 97 97 (oWd (K := 576) (r := 6) wi_m_init_576 (by decide +kernel)), rfl⟩
theorem dm_init_584 : dn tm_init 584 (.iastore) 1 585 := ⟨o_79 (oW (K := 576) (r := 8) wi_m_init_576 (by decide +kernel)), rfl⟩
theorem dm_init_585 : dn tm_init 585 (.dup) 1 586 := ⟨o_89 (oW (K := 576) (r := 9) wi_m_init_576 (by decide +kernel)), rfl⟩
theorem dm_init_586 : dn tm_init 586 (.bipush 87) 2 588 := ⟨o_16 87 87 (oWd (K := 576) (r := 10) wi_m_init_576 (by decide +kernel)), rfl⟩
theorem dm_init_588 : dn tm_init 588 (.bipush 105) 2 590 := ⟨o_16 105 105 (oWd (K := 576) (r := 12) wi_m_init_576 (by decide +kernel)), rfl⟩
theorem dm_init_590 : dn tm_init 590 (.iastore) 1 591 := ⟨o_79 (oW (K := 576) (r := 14) wi_m_init_576 (by decide +kernel)), rfl⟩
theorem dm_init_591 : dn tm_init 591 (.dup) 1 592 := ⟨o_89 (oW (K := 576) (r := 15) wi_m_init_576 (by decide +kernel)), rfl⟩
theorem dm_init_592 : dn tm_init 592 (.bipush 88) 2 594 := ⟨o_16 88 88 (oWd (K := 576) (r := 16) wi_m_init_576 (by decide +kernel)), rfl⟩
theorem dm_init_594 : dn tm_init 594 (.bipush 110) 2 596 := ⟨o_16 110 110 (oWd (K := 576) (r := 18) wi_m_init_576 (by decide +kernel)), rfl⟩
theorem dm_init_596 : dn tm_init 596 (.iastore) 1 597 := ⟨o_79 (oW (K := 576) (r := 20) wi_m_init_576 (by decide +kernel)), rfl⟩
theorem dm_init_597 : dn tm_init 597 (.dup) 1 598 := ⟨o_89 (oW (K := 576) (r := 21) wi_m_init_576 (by decide +kernel)), rfl⟩
theorem dm_init_598 : dn tm_init 598 (.bipush 89) 2 600 := ⟨o_16 89 89 (oWd (K := 576) (r := 22) wi_m_init_576 (by decide +kernel)), rfl⟩
theorem dm_init_600 : dn tm_init 600 (.bipush 32) 2 602 := ⟨o_16 32 32 (oWd (K := 576) (r := 24) wi_m_init_576 (by decide +kernel)), rfl⟩
theorem dm_init_602 : dn tm_init 602 (.iastore) 1 603 := ⟨o_79 (oW (K := 576) (r := 26) wi_m_init_576 (by decide +kernel)), rfl⟩
theorem dm_init_603 : dn tm_init 603 (.dup) 1 604 := ⟨o_89 (oW (K := 576) (r := 27) wi_m_init_576 (by decide +kernel)), rfl⟩
theorem dm_init_604 : dn tm_init 604 (.bipush 90) 2 606 := ⟨o_16 90 90 (oWd (K := 576) (r := 28) wi_m_init_576 (by decide +kernel)), rfl⟩
theorem dm_init_606 : dn tm_init 606 (.bipush 102) 2 608 := ⟨o_16 102 102 (oWd (K := 576) (r := 30) wi_m_init_576 (by decide +kernel)), rfl⟩
def wl_m_init_608 : List Nat := [79, 89, 16, 91, 16, 114, 79, 89, 16, 92, 16, 111, 79, 89, 16, 93, 16, 115, 79, 89, 16, 94, 16, 116, 79, 89, 16, 95, 16, 32, 79, 89, 16, 96, 16, 113, 79, 89]
theorem wi_m_init_608 : oC tm_init.2.1 608 wl_m_init_608 = true := by decide +kernel
theorem dm_init_608 : dn tm_init 608 (.iastore) 1 609 := ⟨o_79 (oW (K := 608) (r := 0) wi_m_init_608 (by decide +kernel)), rfl⟩
theorem dm_init_609 : dn tm_init 609 (.dup) 1 610 := ⟨o_89 (oW (K := 608) (r := 1) wi_m_init_608 (by decide +kernel)), rfl⟩
theorem dm_init_610 : dn tm_init 610 (.bipush 91) 2 612 := ⟨o_16 91 91 (oWd (K := 608) (r := 2) wi_m_init_608 (by decide +kernel)), rfl⟩
theorem dm_init_612 : dn tm_init 612 (.bipush 114) 2 614 := ⟨o_16 114 114 (oWd (K := 608) (r := 4) wi_m_init_608 (by decide +kernel)), rfl⟩
theorem dm_init_614 : dn tm_init 614 (.iastore) 1 615 := ⟨o_79 (oW (K := 608) (r := 6) wi_m_init_608 (by decide +kernel)), rfl⟩
theorem dm_init_615 : dn tm_init 615 (.dup) 1 616 := ⟨o_89 (oW (K := 608) (r := 7) wi_m_init_608 (by decide +kernel)), rfl⟩
theorem dm_init_616 : dn tm_init 616 (.bipush 92) 2 618 := ⟨o_16 92 92 (oWd (K := 608) (r := 8) wi_m_init_608 (by decide +kernel)), rfl⟩
theorem dm_init_618 : dn tm_init 618 (.bipush 111) 2 620 := ⟨o_16 111 111 (oWd (K := 608) (r := 10) wi_m_init_608 (by decide +kernel)), rfl⟩
theorem dm_init_620 : dn tm_init 620 (.iastore) 1 621 := ⟨o_79 (oW (K := 608) (r := 12) wi_m_init_608 (by decide +kernel)), rfl⟩
theorem dm_init_621 : dn tm_init 621 (.dup) 1 622 := ⟨o_89 (oW (K := 608) (r := 13) wi_m_init_608 (by decide +kernel)), rfl⟩
theorem dm_init_622 : dn tm_init 622 (.bipush 93) 2 624 := ⟨o_16 93 93 (oWd (K := 608) (r := 14) wi_m_init_608 (by decide +kernel)), rfl⟩
theorem dm_init_624 : dn tm_init 624 (.bipush 115) 2 626 := ⟨o_16 115 115 (oWd (K := 608) (r := 16) wi_m_init_608 (by decide +kernel)), rfl⟩
theorem dm_init_626 : dn tm_init 626 (.iastore) 1 627 := ⟨o_79 (oW (K := 608) (r := 18) wi_m_init_608 (by decide +kernel)), rfl⟩
theorem dm_init_627 : dn tm_init 627 (.dup) 1 628 := ⟨o_89 (oW (K := 608) (r := 19) wi_m_init_608 (by decide +kernel)), rfl⟩
theorem dm_init_628 : dn tm_init 628 (.bipush 94) 2 630 := ⟨o_16 94 94 (oWd (K := 608) (r := 20) wi_m_init_608 (by decide +kernel)), rfl⟩
theorem dm_init_630 : dn tm_init 630 (.bipush 116) 2 632 := ⟨o_16 116 116 (oWd (K := 608) (r := 22) wi_m_init_608 (by decide +kernel)), rfl⟩
theorem dm_init_632 : dn tm_init 632 (.iastore) 1 633 := ⟨o_79 (oW (K := 608) (r := 24) wi_m_init_608 (by decide +kernel)), rfl⟩
theorem dm_init_633 : dn tm_init 633 (.dup) 1 634 := ⟨o_89 (oW (K := 608) (r := 25) wi_m_init_608 (by decide +kernel)), rfl⟩
theorem dm_init_634 : dn tm_init 634 (.bipush 95) 2 636 := ⟨o_16 95 95 (oWd (K := 608) (r := 26) wi_m_init_608 (by decide +kernel)), rfl⟩
theorem dm_init_636 : dn tm_init 636 (.bipush 32) 2 638 := ⟨o_16 32 32 (oWd (K := 608) (r := 28) wi_m_init_608 (by decide +kernel)), rfl⟩
theorem dm_init_638 : dn tm_init 638 (.iastore) 1 639 := ⟨o_79 (oW (K := 608) (r := 30) wi_m_init_608 (by decide +kernel)), rfl⟩
theorem dm_init_639 : dn tm_init 639 (.dup) 1 640 := ⟨o_89 (oW (K := 608) (r := 31) wi_m_init_608 (by decide +kernel)), rfl⟩
def wl_m_init_640 : List Nat := [16, 96, 16, 113, 79, 89, 16, 97, 16, 117, 79, 89, 16, 98, 16, 97, 79, 89, 16, 99, 16, 114, 79, 89, 16, 100, 16, 116, 79, 89, 16, 101, 16, 101, 79, 89, 16, 102]
theorem wi_m_init_640 : oC tm_init.2.1 640 wl_m_init_640 = true := by decide +kernel
theorem dm_init_640 : dn tm_init 640 (.bipush 96) 2 642 := ⟨o_16 96 96 (oWd (K := 640) (r := 0) wi_m_init_640 (by decide +kernel)), rfl⟩
theorem dm_init_642 : dn tm_init 642 (.bipush 113) 2 644 := ⟨o_16 113 113 (oWd (K := 640) (r := 2) wi_m_init_640 (by decide +kernel)), rfl⟩
theorem dm_init_644 : dn tm_init 644 (.iastore) 1 645 := ⟨o_79 (oW (K := 640) (r := 4) wi_m_init_640 (by decide +kernel)), rfl⟩
theorem dm_init_645 : dn tm_init 645 (.dup) 1 646 := ⟨o_89 (oW (K := 640) (r := 5) wi_m_init_640 (by decide +kernel)), rfl⟩
theorem dm_init_646 : dn tm_init 646 (.bipush 97) 2 648 := ⟨o_16 97 97 (oWd (K := 640) (r := 6) wi_m_init_640 (by decide +kernel)), rfl⟩
theorem dm_init_648 : dn tm_init 648 (.bipush 117) 2 650 := ⟨o_16 117 117 (oWd (K := 640) (r := 8) wi_m_init_640 (by decide +kernel)), rfl⟩
theorem dm_init_650 : dn tm_init 650 (.iastore) 1 651 := ⟨o_79 (oW (K := 640) (r := 10) wi_m_init_640 (by decide +kernel)), rfl⟩
theorem dm_init_651 : dn tm_init 651 (.dup) 1 652 := ⟨o_89 (oW (K := 640) (r := 11) wi_m_init_640 (by decide +kernel)), rfl⟩
theorem dm_init_652 : dn tm_init 652 (.bipush 98) 2 654 := ⟨o_16 98 98 (oWd (K := 640) (r := 12) wi_m_init_640 (by decide +kernel)), rfl⟩
theorem dm_init_654 : dn tm_init 654 (.bipush 97) 2 656 := ⟨o_16 97 97 (oWd (K := 640) (r := 14) wi_m_init_640 (by decide +kernel)), rfl⟩
theorem dm_init_656 : dn tm_init 656 (.iastore) 1 657 := ⟨o_79 (oW (K := 640) (r := 16) wi_m_init_640 (by decide +kernel)), rfl⟩
theorem dm_init_657 : dn tm_init 657 (.dup) 1 658 := ⟨o_89 (oW (K := 640) (r := 17) wi_m_init_640 (by decide +kernel)), rfl⟩
theorem dm_init_658 : dn tm_init 658 (.bipush 99) 2 660 := ⟨o_16 99 99 (oWd (K := 640) (r := 18) wi_m_init_640 (by decide +kernel)), rfl⟩
theorem dm_init_660 : dn tm_init 660 (.bipush 114) 2 662 := ⟨o_16 114 114 (oWd (K := 640) (r := 20) wi_m_init_640 (by decide +kernel)), rfl⟩
theorem dm_init_662 : dn tm_init 662 (.iastore) 1 663 := ⟨o_79 (oW (K := 640) (r := 22) wi_m_init_640 (by decide +kernel)), rfl⟩
theorem dm_init_663 : dn tm_init 663 (.dup) 1 664 := ⟨o_89 (oW (K := 640) (r := 23) wi_m_init_640 (by decide +kernel)), rfl⟩
theorem dm_init_664 : dn tm_init 664 (.bipush 100) 2 666 := ⟨o_16 100 100 (oWd (K := 640) (r := 24) wi_m_init_640 (by decide +kernel)), rfl⟩
theorem dm_init_666 : dn tm_init 666 (.bipush 116) 2 668 := ⟨o_16 116 116 (oWd (K := 640) (r := 26) wi_m_init_640 (by decide +kernel)), rfl⟩
theorem dm_init_668 : dn tm_init 668 (.iastore) 1 669 := ⟨o_79 (oW (K := 640) (r := 28) wi_m_init_640 (by decide +kernel)), rfl⟩
theorem dm_init_669 : dn tm_init 669 (.dup) 1 670 := ⟨o_89 (oW (K := 640) (r := 29) wi_m_init_640 (by decide +kernel)), rfl⟩
theorem dm_init_670 : dn tm_init 670 (.bipush 101) 2 672 := ⟨o_16 101 101 (oWd (K := 640) (r := 30) wi_m_init_640 (by decide +kernel)), rfl⟩
def wl_m_init_672 : List Nat := [16, 101, 79, 89, 16, 102, 16, 114, 79, 89, 16, 103, 16, 32, 79, 89, 16, 104, 16, 105, 79, 89, 16, 105, 16, 110, 79, 89, 16, 106, 16, 32, 79, 89, 16, 107, 16, 116]
theorem wi_m_init_672 : oC tm_init.2.1 672 wl_m_init_672 = true := by decide +kernel
theorem dm_init_672 : dn tm_init 672 (.bipush 101) 2 674 := ⟨o_16 101 101 (oWd (K := 672) (r := 0) wi_m_init_672 (by decide +kernel)), rfl⟩
theorem dm_init_674 : dn tm_init 674 (.iastore) 1 675 := ⟨o_79 (oW (K := 672) (r := 2) wi_m_init_672 (by decide +kernel)), rfl⟩
theorem dm_init_675 : dn tm_init 675 (.dup) 1 676 := ⟨o_89 (oW (K := 672) (r := 3) wi_m_init_672 (by decide +kernel)), rfl⟩
theorem dm_init_676 : dn tm_init 676 (.bipush 102) 2 678 := ⟨o_16 102 102 (oWd (K := 672) (r := 4) wi_m_init_672 (by decide +kernel)), rfl⟩
theorem dm_init_678 : dn tm_init 678 (.bipush 114) 2 680 := ⟨o_16 114 114 (oWd (K := 672) (r := 6) wi_m_init_672 (by decide +kernel)), rfl⟩
theorem dm_init_680 : dn tm_init 680 (.iastore) 1 681 := ⟨o_79 (oW (K := 672) (r := 8) wi_m_init_672 (by decide +kernel)), rfl⟩
theorem dm_init_681 : dn tm_init 681 (.dup) 1 682 := ⟨o_89 (oW (K := 672) (r := 9) wi_m_init_672 (by decide +kernel)), rfl⟩
theorem dm_init_682 : dn tm_init 682 (.bipush 103) 2 684 := ⟨o_16 103 103 (oWd (K := 672) (r := 10) wi_m_init_672 (by decide +kernel)), rfl⟩
theorem dm_init_684 : dn tm_init 684 (.bipush 32) 2 686 := ⟨o_16 32 32 (oWd (K := 672) (r := 12) wi_m_init_672 (by decide +kernel)), rfl⟩
theorem dm_init_686 : dn tm_init 686 (.iastore) 1 687 := ⟨o_79 (oW (K := 672) (r := 14) wi_m_init_672 (by decide +kernel)), rfl⟩
theorem dm_init_687 : dn tm_init 687 (.dup) 1 688 := ⟨o_89 (oW (K := 672) (r := 15) wi_m_init_672 (by decide +kernel)), rfl⟩
theorem dm_init_688 : dn tm_init 688 (.bipush 104) 2 690 := ⟨o_16 104 104 (oWd (K := 672) (r := 16) wi_m_init_672 (by decide +kernel)), rfl⟩
theorem dm_init_690 : dn tm_init 690 (.bipush 105) 2 692 := ⟨o_16 105 105 (oWd (K := 672) (r := 18) wi_m_init_672 (by decide +kernel)), rfl⟩
theorem dm_init_692 : dn tm_init 692 (.iastore) 1 693 := ⟨o_79 (oW (K := 672) (r := 20) wi_m_init_672 (by decide +kernel)), rfl⟩
theorem dm_init_693 : dn tm_init 693 (.dup) 1 694 := ⟨o_89 (oW (K := 672) (r := 21) wi_m_init_672 (by decide +kernel)), rfl⟩
theorem dm_init_694 : dn tm_init 694 (.bipush 105) 2 696 := ⟨o_16 105 105 (oWd (K := 672) (r := 22) wi_m_init_672 (by decide +kernel)), rfl⟩
theorem dm_init_696 : dn tm_init 696 (.bipush 110) 2 698 := ⟨o_16 110 110 (oWd (K := 672) (r := 24) wi_m_init_672 (by decide +kernel)), rfl⟩
theorem dm_init_698 : dn tm_init 698 (.iastore) 1 699 := ⟨o_79 (oW (K := 672) (r := 26) wi_m_init_672 (by decide +kernel)), rfl⟩
theorem dm_init_699 : dn tm_init 699 (.dup) 1 700 := ⟨o_89 (oW (K := 672) (r := 27) wi_m_init_672 (by decide +kernel)), rfl⟩
theorem dm_init_700 : dn tm_init 700 (.bipush 106) 2 702 := ⟨o_16 106 106 (oWd (K := 672) (r := 28) wi_m_init_672 (by decide +kernel)), rfl⟩
theorem dm_init_702 : dn tm_init 702 (.bipush 32) 2 704 := ⟨o_16 32 32 (oWd (K := 672) (r := 30) wi_m_init_672 (by decide +kernel)), rfl⟩
def wl_m_init_704 : List Nat := [79, 89, 16, 107, 16, 116, 79, 89, 16, 108, 16, 104, 79, 89, 16, 109, 16, 97, 79, 89, 16, 110, 16, 119, 79, 89, 16, 111, 16, 32, 79, 89, 16, 112, 16, 105, 79, 89]
theorem wi_m_init_704 : oC tm_init.2.1 704 wl_m_init_704 = true := by decide +kernel
theorem dm_init_704 : dn tm_init 704 (.iastore) 1 705 := ⟨o_79 (oW (K := 704) (r := 0) wi_m_init_704 (by decide +kernel)), rfl⟩
theorem dm_init_705 : dn tm_init 705 (.dup) 1 706 := ⟨o_89 (oW (K := 704) (r := 1) wi_m_init_704 (by decide +kernel)), rfl⟩
theorem dm_init_706 : dn tm_init 706 (.bipush 107) 2 708 := ⟨o_16 107 107 (oWd (K := 704) (r := 2) wi_m_init_704 (by decide +kernel)), rfl⟩
theorem dm_init_708 : dn tm_init 708 (.bipush 116) 2 710 := ⟨o_16 116 116 (oWd (K := 704) (r := 4) wi_m_init_704 (by decide +kernel)), rfl⟩
theorem dm_init_710 : dn tm_init 710 (.iastore) 1 711 := ⟨o_79 (oW (K := 704) (r := 6) wi_m_init_704 (by decide +kernel)), rfl⟩
theorem dm_init_711 : dn tm_init 711 (.dup) 1 712 := ⟨o_89 (oW (K := 704) (r := 7) wi_m_init_704 (by decide +kernel)), rfl⟩
theorem dm_init_712 : dn tm_init 712 (.bipush 108) 2 714 := ⟨o_16 108 108 (oWd (K := 704) (r := 8) wi_m_init_704 (by decide +kernel)), rfl⟩
theorem dm_init_714 : dn tm_init 714 (.bipush 104) 2 716 := ⟨o_16 104 104 (oWd (K := 704) (r := 10) wi_m_init_704 (by decide +kernel)), rfl⟩
theorem dm_init_716 : dn tm_init 716 (.iastore) 1 717 := ⟨o_79 (oW (K := 704) (r := 12) wi_m_init_704 (by decide +kernel)), rfl⟩
theorem dm_init_717 : dn tm_init 717 (.dup) 1 718 := ⟨o_89 (oW (K := 704) (r := 13) wi_m_init_704 (by decide +kernel)), rfl⟩
theorem dm_init_718 : dn tm_init 718 (.bipush 109) 2 720 := ⟨o_16 109 109 (oWd (K := 704) (r := 14) wi_m_init_704 (by decide +kernel)), rfl⟩
theorem dm_init_720 : dn tm_init 720 (.bipush 97) 2 722 := ⟨o_16 97 97 (oWd (K := 704) (r := 16) wi_m_init_704 (by decide +kernel)), rfl⟩
theorem dm_init_722 : dn tm_init 722 (.iastore) 1 723 := ⟨o_79 (oW (K := 704) (r := 18) wi_m_init_704 (by decide +kernel)), rfl⟩
theorem dm_init_723 : dn tm_init 723 (.dup) 1 724 := ⟨o_89 (oW (K := 704) (r := 19) wi_m_init_704 (by decide +kernel)), rfl⟩
theorem dm_init_724 : dn tm_init 724 (.bipush 110) 2 726 := ⟨o_16 110 110 (oWd (K := 704) (r := 20) wi_m_init_704 (by decide +kernel)), rfl⟩
theorem dm_init_726 : dn tm_init 726 (.bipush 119) 2 728 := ⟨o_16 119 119 (oWd (K := 704) (r := 22) wi_m_init_704 (by decide +kernel)), rfl⟩
theorem dm_init_728 : dn tm_init 728 (.iastore) 1 729 := ⟨o_79 (oW (K := 704) (r := 24) wi_m_init_704 (by decide +kernel)), rfl⟩
theorem dm_init_729 : dn tm_init 729 (.dup) 1 730 := ⟨o_89 (oW (K := 704) (r := 25) wi_m_init_704 (by decide +kernel)), rfl⟩
theorem dm_init_730 : dn tm_init 730 (.bipush 111) 2 732 := ⟨o_16 111 111 (oWd (K := 704) (r := 26) wi_m_init_704 (by decide +kernel)), rfl⟩
theorem dm_init_732 : dn tm_init 732 (.bipush 32) 2 734 := ⟨o_16 32 32 (oWd (K := 704) (r := 28) wi_m_init_704 (by decide +kernel)), rfl⟩
theorem dm_init_734 : dn tm_init 734 (.iastore) 1 735 := ⟨o_79 (oW (K := 704) (r := 30) wi_m_init_704 (by decide +kernel)), rfl⟩
theorem dm_init_735 : dn tm_init 735 (.dup) 1 736 := ⟨o_89 (oW (K := 704) (r := 31) wi_m_init_704 (by decide +kernel)), rfl⟩
def wl_m_init_736 : List Nat := [16, 112, 16, 105, 79, 89, 16, 113, 16, 99, 79, 89, 16, 114, 16, 101, 79, 89, 16, 115, 16, 32, 79, 89, 16, 116, 16, 98, 79, 89, 16, 117, 16, 97, 79, 89, 16, 118]
theorem wi_m_init_736 : oC tm_init.2.1 736 wl_m_init_736 = true := by decide +kernel
theorem dm_init_736 : dn tm_init 736 (.bipush 112) 2 738 := ⟨o_16 112 112 (oWd (K := 736) (r := 0) wi_m_init_736 (by decide +kernel)), rfl⟩
theorem dm_init_738 : dn tm_init 738 (.bipush 105) 2 740 := ⟨o_16 105 105 (oWd (K := 736) (r := 2) wi_m_init_736 (by decide +kernel)), rfl⟩
theorem dm_init_740 : dn tm_init 740 (.iastore) 1 741 := ⟨o_79 (oW (K := 736) (r := 4) wi_m_init_736 (by decide +kernel)), rfl⟩
theorem dm_init_741 : dn tm_init 741 (.dup) 1 742 := ⟨o_89 (oW (K := 736) (r := 5) wi_m_init_736 (by decide +kernel)), rfl⟩
theorem dm_init_742 : dn tm_init 742 (.bipush 113) 2 744 := ⟨o_16 113 113 (oWd (K := 736) (r := 6) wi_m_init_736 (by decide +kernel)), rfl⟩
theorem dm_init_744 : dn tm_init 744 (.bipush 99) 2 746 := ⟨o_16 99 99 (oWd (K := 736) (r := 8) wi_m_init_736 (by decide +kernel)), rfl⟩
theorem dm_init_746 : dn tm_init 746 (.iastore) 1 747 := ⟨o_79 (oW (K := 736) (r := 10) wi_m_init_736 (by decide +kernel)), rfl⟩
theorem dm_init_747 : dn tm_init 747 (.dup) 1 748 := ⟨o_89 (oW (K := 736) (r := 11) wi_m_init_736 (by decide +kernel)), rfl⟩
theorem dm_init_748 : dn tm_init 748 (.bipush 114) 2 750 := ⟨o_16 114 114 (oWd (K := 736) (r := 12) wi_m_init_736 (by decide +kernel)), rfl⟩
theorem dm_init_750 : dn tm_init 750 (.bipush 101) 2 752 := ⟨o_16 101 101 (oWd (K := 736) (r := 14) wi_m_init_736 (by decide +kernel)), rfl⟩
theorem dm_init_752 : dn tm_init 752 (.iastore) 1 753 := ⟨o_79 (oW (K := 736) (r := 16) wi_m_init_736 (by decide +kernel)), rfl⟩
theorem dm_init_753 : dn tm_init 753 (.dup) 1 754 := ⟨o_89 (oW (K := 736) (r := 17) wi_m_init_736 (by decide +kernel)), rfl⟩
theorem dm_init_754 : dn tm_init 754 (.bipush 115) 2 756 := ⟨o_16 115 115 (oWd (K := 736) (r := 18) wi_m_init_736 (by decide +kernel)), rfl⟩
theorem dm_init_756 : dn tm_init 756 (.bipush 32) 2 758 := ⟨o_16 32 32 (oWd (K := 736) (r := 20) wi_m_init_736 (by decide +kernel)), rfl⟩
theorem dm_init_758 : dn tm_init 758 (.iastore) 1 759 := ⟨o_79 (oW (K := 736) (r := 22) wi_m_init_736 (by decide +kernel)), rfl⟩
theorem dm_init_759 : dn tm_init 759 (.dup) 1 760 := ⟨o_89 (oW (K := 736) (r := 23) wi_m_init_736 (by decide +kernel)), rfl⟩
theorem dm_init_760 : dn tm_init 760 (.bipush 116) 2 762 := ⟨o_16 116 116 (oWd (K := 736) (r := 24) wi_m_init_736 (by decide +kernel)), rfl⟩
theorem dm_init_762 : dn tm_init 762 (.bipush 98) 2 764 := ⟨o_16 98 98 (oWd (K := 736) (r := 26) wi_m_init_736 (by decide +kernel)), rfl⟩
theorem dm_init_764 : dn tm_init 764 (.iastore) 1 765 := ⟨o_79 (oW (K := 736) (r := 28) wi_m_init_736 (by decide +kernel)), rfl⟩
theorem dm_init_765 : dn tm_init 765 (.dup) 1 766 := ⟨o_89 (oW (K := 736) (r := 29) wi_m_init_736 (by decide +kernel)), rfl⟩
theorem dm_init_766 : dn tm_init 766 (.bipush 117) 2 768 := ⟨o_16 117 117 (oWd (K := 736) (r := 30) wi_m_init_736 (by decide +kernel)), rfl⟩
def wl_m_init_768 : List Nat := [16, 97, 79, 89, 16, 118, 16, 107, 79, 89, 16, 119, 16, 101, 79, 89, 16, 120, 16, 32, 79, 89, 16, 121, 16, 119, 79, 89, 16, 122, 16, 101, 79, 89, 16, 123, 16, 100]
theorem wi_m_init_768 : oC tm_init.2.1 768 wl_m_init_768 = true := by decide +kernel
theorem dm_init_768 : dn tm_init 768 (.bipush 97) 2 770 := ⟨o_16 97 97 (oWd (K := 768) (r := 0) wi_m_init_768 (by decide +kernel)), rfl⟩
theorem dm_init_770 : dn tm_init 770 (.iastore) 1 771 := ⟨o_79 (oW (K := 768) (r := 2) wi_m_init_768 (by decide +kernel)), rfl⟩
theorem dm_init_771 : dn tm_init 771 (.dup) 1 772 := ⟨o_89 (oW (K := 768) (r := 3) wi_m_init_768 (by decide +kernel)), rfl⟩
theorem dm_init_772 : dn tm_init 772 (.bipush 118) 2 774 := ⟨o_16 118 118 (oWd (K := 768) (r := 4) wi_m_init_768 (by decide +kernel)), rfl⟩
theorem dm_init_774 : dn tm_init 774 (.bipush 107) 2 776 := ⟨o_16 107 107 (oWd (K := 768) (r := 6) wi_m_init_768 (by decide +kernel)), rfl⟩
theorem dm_init_776 : dn tm_init 776 (.iastore) 1 777 := ⟨o_79 (oW (K := 768) (r := 8) wi_m_init_768 (by decide +kernel)), rfl⟩
theorem dm_init_777 : dn tm_init 777 (.dup) 1 778 := ⟨o_89 (oW (K := 768) (r := 9) wi_m_init_768 (by decide +kernel)), rfl⟩
theorem dm_init_778 : dn tm_init 778 (.bipush 119) 2 780 := ⟨o_16 119 119 (oWd (K := 768) (r := 10) wi_m_init_768 (by decide +kernel)), rfl⟩
theorem dm_init_780 : dn tm_init 780 (.bipush 101) 2 782 := ⟨o_16 101 101 (oWd (K := 768) (r := 12) wi_m_init_768 (by decide +kernel)), rfl⟩
theorem dm_init_782 : dn tm_init 782 (.iastore) 1 783 := ⟨o_79 (oW (K := 768) (r := 14) wi_m_init_768 (by decide +kernel)), rfl⟩
theorem dm_init_783 : dn tm_init 783 (.dup) 1 784 := ⟨o_89 (oW (K := 768) (r := 15) wi_m_init_768 (by decide +kernel)), rfl⟩
theorem dm_init_784 : dn tm_init 784 (.bipush 120) 2 786 := ⟨o_16 120 120 (oWd (K := 768) (r := 16) wi_m_init_768 (by decide +kernel)), rfl⟩
theorem dm_init_786 : dn tm_init 786 (.bipush 32) 2 788 := ⟨o_16 32 32 (oWd (K := 768) (r := 18) wi_m_init_768 (by decide +kernel)), rfl⟩
theorem dm_init_788 : dn tm_init 788 (.iastore) 1 789 := ⟨o_79 (oW (K := 768) (r := 20) wi_m_init_768 (by decide +kernel)), rfl⟩
theorem dm_init_789 : dn tm_init 789 (.dup) 1 790 := ⟨o_89 (oW (K := 768) (r := 21) wi_m_init_768 (by decide +kernel)), rfl⟩
theorem dm_init_790 : dn tm_init 790 (.bipush 121) 2 792 := ⟨o_16 121 121 (oWd (K := 768) (r := 22) wi_m_init_768 (by decide +kernel)), rfl⟩
theorem dm_init_792 : dn tm_init 792 (.bipush 119) 2 794 := ⟨o_16 119 119 (oWd (K := 768) (r := 24) wi_m_init_768 (by decide +kernel)), rfl⟩
theorem dm_init_794 : dn tm_init 794 (.iastore) 1 795 := ⟨o_79 (oW (K := 768) (r := 26) wi_m_init_768 (by decide +kernel)), rfl⟩
theorem dm_init_795 : dn tm_init 795 (.dup) 1 796 := ⟨o_89 (oW (K := 768) (r := 27) wi_m_init_768 (by decide +kernel)), rfl⟩
theorem dm_init_796 : dn tm_init 796 (.bipush 122) 2 798 := ⟨o_16 122 122 (oWd (K := 768) (r := 28) wi_m_init_768 (by decide +kernel)), rfl⟩
theorem dm_init_798 : dn tm_init 798 (.bipush 101) 2 800 := ⟨o_16 101 101 (oWd (K := 768) (r := 30) wi_m_init_768 (by decide +kernel)), rfl⟩
def wl_m_init_800 : List Nat := [79, 89, 16, 123, 16, 100, 79, 89, 16, 124, 16, 32, 79, 89, 16, 125, 16, 114, 79, 89, 16, 126, 16, 97, 79, 89, 16, 127, 16, 122, 79, 89, 17, 0, 128, 16, 101, 79]
theorem wi_m_init_800 : oC tm_init.2.1 800 wl_m_init_800 = true := by decide +kernel
theorem dm_init_800 : dn tm_init 800 (.iastore) 1 801 := ⟨o_79 (oW (K := 800) (r := 0) wi_m_init_800 (by decide +kernel)), rfl⟩
theorem dm_init_801 : dn tm_init 801 (.dup) 1 802 := ⟨o_89 (oW (K := 800) (r := 1) wi_m_init_800 (by decide +kernel)), rfl⟩
theorem dm_init_802 : dn tm_init 802 (.bipush 123) 2 804 := ⟨o_16 123 123 (oWd (K := 800) (r := 2) wi_m_init_800 (by decide +kernel)), rfl⟩
theorem dm_init_804 : dn tm_init 804 (.bipush 100) 2 806 := ⟨o_16 100 100 (oWd (K := 800) (r := 4) wi_m_init_800 (by decide +kernel)), rfl⟩
theorem dm_init_806 : dn tm_init 806 (.iastore) 1 807 := ⟨o_79 (oW (K := 800) (r := 6) wi_m_init_800 (by decide +kernel)), rfl⟩
theorem dm_init_807 : dn tm_init 807 (.dup) 1 808 := ⟨o_89 (oW (K := 800) (r := 7) wi_m_init_800 (by decide +kernel)), rfl⟩
theorem dm_init_808 : dn tm_init 808 (.bipush 124) 2 810 := ⟨o_16 124 124 (oWd (K := 800) (r := 8) wi_m_init_800 (by decide +kernel)), rfl⟩
theorem dm_init_810 : dn tm_init 810 (.bipush 32) 2 812 := ⟨o_16 32 32 (oWd (K := 800) (r := 10) wi_m_init_800 (by decide +kernel)), rfl⟩
theorem dm_init_812 : dn tm_init 812 (.iastore) 1 813 := ⟨o_79 (oW (K := 800) (r := 12) wi_m_init_800 (by decide +kernel)), rfl⟩
theorem dm_init_813 : dn tm_init 813 (.dup) 1 814 := ⟨o_89 (oW (K := 800) (r := 13) wi_m_init_800 (by decide +kernel)), rfl⟩
theorem dm_init_814 : dn tm_init 814 (.bipush 125) 2 816 := ⟨o_16 125 125 (oWd (K := 800) (r := 14) wi_m_init_800 (by decide +kernel)), rfl⟩
theorem dm_init_816 : dn tm_init 816 (.bipush 114) 2 818 := ⟨o_16 114 114 (oWd (K := 800) (r := 16) wi_m_init_800 (by decide +kernel)), rfl⟩
theorem dm_init_818 : dn tm_init 818 (.iastore) 1 819 := ⟨o_79 (oW (K := 800) (r := 18) wi_m_init_800 (by decide +kernel)), rfl⟩
theorem dm_init_819 : dn tm_init 819 (.dup) 1 820 := ⟨o_89 (oW (K := 800) (r := 19) wi_m_init_800 (by decide +kernel)), rfl⟩
theorem dm_init_820 : dn tm_init 820 (.bipush 126) 2 822 := ⟨o_16 126 126 (oWd (K := 800) (r := 20) wi_m_init_800 (by decide +kernel)), rfl⟩
theorem dm_init_822 : dn tm_init 822 (.bipush 97) 2 824 := ⟨o_16 97 97 (oWd (K := 800) (r := 22) wi_m_init_800 (by decide +kernel)), rfl⟩
theorem dm_init_824 : dn tm_init 824 (.iastore) 1 825 := ⟨o_79 (oW (K := 800) (r := 24) wi_m_init_800 (by decide +kernel)), rfl⟩
theorem dm_init_825 : dn tm_init 825 (.dup) 1 826 := ⟨o_89 (oW (K := 800) (r := 25) wi_m_init_800 (by decide +kernel)), rfl⟩
theorem dm_init_826 : dn tm_init 826 (.bipush 127) 2 828 := ⟨o_16 127 127 (oWd (K := 800) (r := 26) wi_m_init_800 (by decide +kernel)), rfl⟩
theorem dm_init_828 : dn tm_init 828 (.bipush 122) 2 830 := ⟨o_16 122 122 (oWd (K := 800) (r := 28) wi_m_init_800 (by decide +kernel)), rfl⟩
theorem dm_init_830 : dn tm_init 830 (.iastore) 1 831 := ⟨o_79 (oW (K := 800) (r := 30) wi_m_init_800 (by decide +kernel)), rfl⟩
theorem dm_init_831 : dn tm_init 831 (.dup) 1 832 := ⟨o_89 (oW (K := 800) (r := 31) wi_m_init_800 (by decide +kernel)), rfl⟩
def wl_m_init_832 : List Nat := [17, 0, 128, 16, 101, 79, 89, 17, 0, 129, 16, 32, 79, 89, 17, 0, 130, 16, 104, 79, 89, 17, 0, 131, 16, 111, 79, 89, 17, 0, 132, 16, 117, 79, 89, 17, 0, 133]
theorem wi_m_init_832 : oC tm_init.2.1 832 wl_m_init_832 = true := by decide +kernel
theorem dm_init_832 : dn tm_init 832 (.sipush 128) 3 835 := ⟨o_17 0 128 128 (oWd (K := 832) (r := 0) wi_m_init_832 (by decide +kernel)), rfl⟩
theorem dm_init_835 : dn tm_init 835 (.bipush 101) 2 837 := ⟨o_16 101 101 (oWd (K := 832) (r := 3) wi_m_init_832 (by decide +kernel)), rfl⟩
theorem dm_init_837 : dn tm_init 837 (.iastore) 1 838 := ⟨o_79 (oW (K := 832) (r := 5) wi_m_init_832 (by decide +kernel)), rfl⟩
theorem dm_init_838 : dn tm_init 838 (.dup) 1 839 := ⟨o_89 (oW (K := 832) (r := 6) wi_m_init_832 (by decide +kernel)), rfl⟩
theorem dm_init_839 : dn tm_init 839 (.sipush 129) 3 842 := ⟨o_17 0 129 129 (oWd (K := 832) (r := 7) wi_m_init_832 (by decide +kernel)), rfl⟩
theorem dm_init_842 : dn tm_init 842 (.bipush 32) 2 844 := ⟨o_16 32 32 (oWd (K := 832) (r := 10) wi_m_init_832 (by decide +kernel)), rfl⟩
theorem dm_init_844 : dn tm_init 844 (.iastore) 1 845 := ⟨o_79 (oW (K := 832) (r := 12) wi_m_init_832 (by decide +kernel)), rfl⟩
theorem dm_init_845 : dn tm_init 845 (.dup) 1 846 := ⟨o_89 (oW (K := 832) (r := 13) wi_m_init_832 (by decide +kernel)), rfl⟩
theorem dm_init_846 : dn tm_init 846 (.sipush 130) 3 849 := ⟨o_17 0 130 130 (oWd (K := 832) (r := 14) wi_m_init_832 (by decide +kernel)), rfl⟩
theorem dm_init_849 : dn tm_init 849 (.bipush 104) 2 851 := ⟨o_16 104 104 (oWd (K := 832) (r := 17) wi_m_init_832 (by decide +kernel)), rfl⟩
theorem dm_init_851 : dn tm_init 851 (.iastore) 1 852 := ⟨o_79 (oW (K := 832) (r := 19) wi_m_init_832 (by decide +kernel)), rfl⟩
theorem dm_init_852 : dn tm_init 852 (.dup) 1 853 := ⟨o_89 (oW (K := 832) (r := 20) wi_m_init_832 (by decide +kernel)), rfl⟩
theorem dm_init_853 : dn tm_init 853 (.sipush 131) 3 856 := ⟨o_17 0 131 131 (oWd (K := 832) (r := 21) wi_m_init_832 (by decide +kernel)), rfl⟩
theorem dm_init_856 : dn tm_init 856 (.bipush 111) 2 858 := ⟨o_16 111 111 (oWd (K := 832) (r := 24) wi_m_init_832 (by decide +kernel)), rfl⟩
theorem dm_init_858 : dn tm_init 858 (.iastore) 1 859 := ⟨o_79 (oW (K := 832) (r := 26) wi_m_init_832 (by decide +kernel)), rfl⟩
theorem dm_init_859 : dn tm_init 859 (.dup) 1 860 := ⟨o_89 (oW (K := 832) (r := 27) wi_m_init_832 (by decide +kernel)), rfl⟩
theorem dm_init_860 : dn tm_init 860 (.sipush 132) 3 863 := ⟨o_17 0 132 132 (oWd (K := 832) (r := 28) wi_m_init_832 (by decide +kernel)), rfl⟩
theorem dm_init_863 : dn tm_init 863 (.bipush 117) 2 865 := ⟨o_16 117 117 (oWd (K := 832) (r := 31) wi_m_init_832 (by decide +kernel)), rfl⟩
def wl_m_init_864 : List Nat := [117, 79, 89, 17, 0, 133, 16, 115, 79, 89, 17, 0, 134, 16, 101, 79, 89, 17, 0, 135, 16, 32, 79, 89, 17, 0, 136, 16, 110, 79, 89, 17, 0, 137, 16, 101, 79, 89]
theorem wi_m_init_864 : oC tm_init.2.1 864 wl_m_init_864 = true := by decide +kernel
theorem dm_init_865 : dn tm_init 865 (.iastore) 1 866 := ⟨o_79 (oW (K := 864) (r := 1) wi_m_init_864 (by decide +kernel)), rfl⟩
theorem dm_init_866 : dn tm_init 866 (.dup) 1 867 := ⟨o_89 (oW (K := 864) (r := 2) wi_m_init_864 (by decide +kernel)), rfl⟩
theorem dm_init_867 : dn tm_init 867 (.sipush 133) 3 870 := ⟨o_17 0 133 133 (oWd (K := 864) (r := 3) wi_m_init_864 (by decide +kernel)), rfl⟩
theorem dm_init_870 : dn tm_init 870 (.bipush 115) 2 872 := ⟨o_16 115 115 (oWd (K := 864) (r := 6) wi_m_init_864 (by decide +kernel)), rfl⟩
theorem dm_init_872 : dn tm_init 872 (.iastore) 1 873 := ⟨o_79 (oW (K := 864) (r := 8) wi_m_init_864 (by decide +kernel)), rfl⟩
theorem dm_init_873 : dn tm_init 873 (.dup) 1 874 := ⟨o_89 (oW (K := 864) (r := 9) wi_m_init_864 (by decide +kernel)), rfl⟩
theorem dm_init_874 : dn tm_init 874 (.sipush 134) 3 877 := ⟨o_17 0 134 134 (oWd (K := 864) (r := 10) wi_m_init_864 (by decide +kernel)), rfl⟩
theorem dm_init_877 : dn tm_init 877 (.bipush 101) 2 879 := ⟨o_16 101 101 (oWd (K := 864) (r := 13) wi_m_init_864 (by decide +kernel)), rfl⟩
theorem dm_init_879 : dn tm_init 879 (.iastore) 1 880 := ⟨o_79 (oW (K := 864) (r := 15) wi_m_init_864 (by decide +kernel)), rfl⟩
theorem dm_init_880 : dn tm_init 880 (.dup) 1 881 := ⟨o_89 (oW (K := 864) (r := 16) wi_m_init_864 (by decide +kernel)), rfl⟩
theorem dm_init_881 : dn tm_init 881 (.sipush 135) 3 884 := ⟨o_17 0 135 135 (oWd (K := 864) (r := 17) wi_m_init_864 (by decide +kernel)), rfl⟩
theorem dm_init_884 : dn tm_init 884 (.bipush 32) 2 886 := ⟨o_16 32 32 (oWd (K := 864) (r := 20) wi_m_init_864 (by decide +kernel)), rfl⟩
theorem dm_init_886 : dn tm_init 886 (.iastore) 1 887 := ⟨o_79 (oW (K := 864) (r := 22) wi_m_init_864 (by decide +kernel)), rfl⟩
theorem dm_init_887 : dn tm_init 887 (.dup) 1 888 := ⟨o_89 (oW (K := 864) (r := 23) wi_m_init_864 (by decide +kernel)), rfl⟩
theorem dm_init_888 : dn tm_init 888 (.sipush 136) 3 891 := ⟨o_17 0 136 136 (oWd (K := 864) (r := 24) wi_m_init_864 (by decide +kernel)), rfl⟩
theorem dm_init_891 : dn tm_init 891 (.bipush 110) 2 893 := ⟨o_16 110 110 (oWd (K := 864) (r := 27) wi_m_init_864 (by decide +kernel)), rfl⟩
theorem dm_init_893 : dn tm_init 893 (.iastore) 1 894 := ⟨o_79 (oW (K := 864) (r := 29) wi_m_init_864 (by decide +kernel)), rfl⟩
theorem dm_init_894 : dn tm_init 894 (.dup) 1 895 := ⟨o_89 (oW (K := 864) (r := 30) wi_m_init_864 (by decide +kernel)), rfl⟩
theorem dm_init_895 : dn tm_init 895 (.sipush 137) 3 898 := ⟨o_17 0 137 137 (oWd (K := 864) (r := 31) wi_m_init_864 (by decide +kernel)), rfl⟩
def wl_m_init_896 : List Nat := [0, 137, 16, 101, 79, 89, 17, 0, 138, 16, 120, 79, 89, 17, 0, 139, 16, 116, 79, 89, 17, 0, 140, 16, 32, 79, 181, 0, 31, 42, 5, 188, 10, 181, 0, 34, 42, 16]
theorem wi_m_init_896 : oC tm_init.2.1 896 wl_m_init_896 = true := by decide +kernel
theorem dm_init_898 : dn tm_init 898 (.bipush 101) 2 900 := ⟨o_16 101 101 (oWd (K := 896) (r := 2) wi_m_init_896 (by decide +kernel)), rfl⟩
theorem dm_init_900 : dn tm_init 900 (.iastore) 1 901 := ⟨o_79 (oW (K := 896) (r := 4) wi_m_init_896 (by decide +kernel)), rfl⟩
theorem dm_init_901 : dn tm_init 901 (.dup) 1 902 := ⟨o_89 (oW (K := 896) (r := 5) wi_m_init_896 (by decide +kernel)), rfl⟩
theorem dm_init_902 : dn tm_init 902 (.sipush 138) 3 905 := ⟨o_17 0 138 138 (oWd (K := 896) (r := 6) wi_m_init_896 (by decide +kernel)), rfl⟩
theorem dm_init_905 : dn tm_init 905 (.bipush 120) 2 907 := ⟨o_16 120 120 (oWd (K := 896) (r := 9) wi_m_init_896 (by decide +kernel)), rfl⟩
theorem dm_init_907 : dn tm_init 907 (.iastore) 1 908 := ⟨o_79 (oW (K := 896) (r := 11) wi_m_init_896 (by decide +kernel)), rfl⟩
theorem dm_init_908 : dn tm_init 908 (.dup) 1 909 := ⟨o_89 (oW (K := 896) (r := 12) wi_m_init_896 (by decide +kernel)), rfl⟩
theorem dm_init_909 : dn tm_init 909 (.sipush 139) 3 912 := ⟨o_17 0 139 139 (oWd (K := 896) (r := 13) wi_m_init_896 (by decide +kernel)), rfl⟩
theorem dm_init_912 : dn tm_init 912 (.bipush 116) 2 914 := ⟨o_16 116 116 (oWd (K := 896) (r := 16) wi_m_init_896 (by decide +kernel)), rfl⟩
theorem dm_init_914 : dn tm_init 914 (.iastore) 1 915 := ⟨o_79 (oW (K := 896) (r := 18) wi_m_init_896 (by decide +kernel)), rfl⟩
theorem dm_init_915 : dn tm_init 915 (.dup) 1 916 := ⟨o_89 (oW (K := 896) (r := 19) wi_m_init_896 (by decide +kernel)), rfl⟩
theorem dm_init_916 : dn tm_init 916 (.sipush 140) 3 919 := ⟨o_17 0 140 140 (oWd (K := 896) (r := 20) wi_m_init_896 (by decide +kernel)), rfl⟩
theorem dm_init_919 : dn tm_init 919 (.bipush 32) 2 921 := ⟨o_16 32 32 (oWd (K := 896) (r := 23) wi_m_init_896 (by decide +kernel)), rfl⟩
theorem dm_init_921 : dn tm_init 921 (.iastore) 1 922 := ⟨o_79 (oW (K := 896) (r := 25) wi_m_init_896 (by decide +kernel)), rfl⟩
theorem dm_init_922 : dn tm_init 922 (.putfield 31) 3 925 := ⟨o_181 0 31 31 (oWd (K := 896) (r := 26) wi_m_init_896 (by decide +kernel)), rfl⟩
theorem dm_init_925 : dl tm_init 925 .aload_n .aload 0 926 := Or.inl ⟨0, o_42 (oW (K := 896) (r := 29) wi_m_init_896 (by decide +kernel)), rfl, rfl⟩
theorem dm_init_926 : dn tm_init 926 (.iconst 2) 1 927 := ⟨o_5 (oW (K := 896) (r := 30) wi_m_init_896 (by decide +kernel)), rfl⟩
theorem dm_init_927 : dn tm_init 927 (.newarray .int) 2 929 := ⟨o_188_10 (oW (K := 896) (r := 31) wi_m_init_896 (by decide +kernel)), rfl⟩
def wl_m_init_928 : List Nat := [10, 181, 0, 34, 42, 16, 48, 188, 10, 181, 0, 37, 42, 16, 48, 188, 10, 181, 0, 40, 42, 16, 48, 188, 10, 181, 0, 43, 42, 16, 48, 188, 10, 181, 0, 46, 42, 17]
theorem wi_m_init_928 : oC tm_init.2.1 928 wl_m_init_928 = true := by decide +kernel
theorem dm_init_929 : dn tm_init 929 (.putfield 34) 3 932 := ⟨o_181 0 34 34 (oWd (K := 928) (r := 1) wi_m_init_928 (by decide +kernel)), rfl⟩
theorem dm_init_932 : dl tm_init 932 .aload_n .aload 0 933 := Or.inl ⟨0, o_42 (oW (K := 928) (r := 4) wi_m_init_928 (by decide +kernel)), rfl, rfl⟩
theorem dm_init_933 : dn tm_init 933 (.bipush 48) 2 935 := ⟨o_16 48 48 (oWd (K := 928) (r := 5) wi_m_init_928 (by decide +kernel)), rfl⟩
theorem dm_init_935 : dn tm_init 935 (.newarray .int) 2 937 := ⟨o_188_10 (oW (K := 928) (r := 7) wi_m_init_928 (by decide +kernel)), rfl⟩
theorem dm_init_937 : dn tm_init 937 (.putfield 37) 3 940 := ⟨o_181 0 37 37 (oWd (K := 928) (r := 9) wi_m_init_928 (by decide +kernel)), rfl⟩
theorem dm_init_940 : dl tm_init 940 .aload_n .aload 0 941 := Or.inl ⟨0, o_42 (oW (K := 928) (r := 12) wi_m_init_928 (by decide +kernel)), rfl, rfl⟩
theorem dm_init_941 : dn tm_init 941 (.bipush 48) 2 943 := ⟨o_16 48 48 (oWd (K := 928) (r := 13) wi_m_init_928 (by decide +kernel)), rfl⟩
theorem dm_init_943 : dn tm_init 943 (.newarray .int) 2 945 := ⟨o_188_10 (oW (K := 928) (r := 15) wi_m_init_928 (by decide +kernel)), rfl⟩
theorem dm_init_945 : dn tm_init 945 (.putfield 40) 3 948 := ⟨o_181 0 40 40 (oWd (K := 928) (r := 17) wi_m_init_928 (by decide +kernel)), rfl⟩
theorem dm_init_948 : dl tm_init 948 .aload_n .aload 0 949 := Or.inl ⟨0, o_42 (oW (K := 928) (r := 20) wi_m_init_928 (by decide +kernel)), rfl, rfl⟩
theorem dm_init_949 : dn tm_init 949 (.bipush 48) 2 951 := ⟨o_16 48 48 (oWd (K := 928) (r := 21) wi_m_init_928 (by decide +kernel)), rfl⟩
theorem dm_init_951 : dn tm_init 951 (.newarray .int) 2 953 := ⟨o_188_10 (oW (K := 928) (r := 23) wi_m_init_928 (by decide +kernel)), rfl⟩
theorem dm_init_953 : dn tm_init 953 (.putfield 43) 3 956 := ⟨o_181 0 43 43 (oWd (K := 928) (r := 25) wi_m_init_928 (by decide +kernel)), rfl⟩
theorem dm_init_956 : dl tm_init 956 .aload_n .aload 0 957 := Or.inl ⟨0, o_42 (oW (K := 928) (r := 28) wi_m_init_928 (by decide +kernel)), rfl, rfl⟩
theorem dm_init_957 : dn tm_init 957 (.bipush 48) 2 959 := ⟨o_16 48 48 (oWd (K := 928) (r := 29) wi_m_init_928 (by decide +kernel)), rfl⟩
theorem dm_init_959 : dn tm_init 959 (.newarray .int) 2 961 := ⟨o_188_10 (oW (K := 928) (r := 31) wi_m_init_928 (by decide +kernel)), rfl⟩
def wl_m_init_960 : List Nat := [10, 181, 0, 46, 42, 17, 4, 176, 188, 10, 181, 0, 49, 42, 17, 4, 176, 188, 10, 181, 0, 52, 42, 16, 40, 188, 10, 181, 0, 55, 42, 2, 181, 0, 58, 42, 16, 96]
theorem wi_m_init_960 : oC tm_init.2.1 960 wl_m_init_960 = true := by decide +kernel
theorem dm_init_961 : dn tm_init 961 (.putfield 46) 3 964 := ⟨o_181 0 46 46 (oWd (K := 960) (r := 1) wi_m_init_960 (by decide +kernel)), rfl⟩
theorem dm_init_964 : dl tm_init 964 .aload_n .aload 0 965 := Or.inl ⟨0, o_42 (oW (K := 960) (r := 4) wi_m_init_960 (by decide +kernel)), rfl, rfl⟩
theorem dm_init_965 : dn tm_init 965 (.sipush 1200) 3 968 := ⟨o_17 4 176 1200 (oWd (K := 960) (r := 5) wi_m_init_960 (by decide +kernel)), rfl⟩
theorem dm_init_968 : dn tm_init 968 (.newarray .int) 2 970 := ⟨o_188_10 (oW (K := 960) (r := 8) wi_m_init_960 (by decide +kernel)), rfl⟩
theorem dm_init_970 : dn tm_init 970 (.putfield 49) 3 973 := ⟨o_181 0 49 49 (oWd (K := 960) (r := 10) wi_m_init_960 (by decide +kernel)), rfl⟩
theorem dm_init_973 : dl tm_init 973 .aload_n .aload 0 974 := Or.inl ⟨0, o_42 (oW (K := 960) (r := 13) wi_m_init_960 (by decide +kernel)), rfl, rfl⟩
theorem dm_init_974 : dn tm_init 974 (.sipush 1200) 3 977 := ⟨o_17 4 176 1200 (oWd (K := 960) (r := 14) wi_m_init_960 (by decide +kernel)), rfl⟩
theorem dm_init_977 : dn tm_init 977 (.newarray .int) 2 979 := ⟨o_188_10 (oW (K := 960) (r := 17) wi_m_init_960 (by decide +kernel)), rfl⟩
theorem dm_init_979 : dn tm_init 979 (.putfield 52) 3 982 := ⟨o_181 0 52 52 (oWd (K := 960) (r := 19) wi_m_init_960 (by decide +kernel)), rfl⟩
theorem dm_init_982 : dl tm_init 982 .aload_n .aload 0 983 := Or.inl ⟨0, o_42 (oW (K := 960) (r := 22) wi_m_init_960 (by decide +kernel)), rfl, rfl⟩
theorem dm_init_983 : dn tm_init 983 (.bipush 40) 2 985 := ⟨o_16 40 40 (oWd (K := 960) (r := 23) wi_m_init_960 (by decide +kernel)), rfl⟩
theorem dm_init_985 : dn tm_init 985 (.newarray .int) 2 987 := ⟨o_188_10 (oW (K := 960) (r := 25) wi_m_init_960 (by decide +kernel)), rfl⟩
theorem dm_init_987 : dn tm_init 987 (.putfield 55) 3 990 := ⟨o_181 0 55 55 (oWd (K := 960) (r := 27) wi_m_init_960 (by decide +kernel)), rfl⟩
theorem dm_init_990 : dl tm_init 990 .aload_n .aload 0 991 := Or.inl ⟨0, o_42 (oW (K := 960) (r := 30) wi_m_init_960 (by decide +kernel)), rfl, rfl⟩
theorem dm_init_991 : dn tm_init 991 (.iconst (-1)) 1 992 := ⟨o_2 (oW (K := 960) (r := 31) wi_m_init_960 (by decide +kernel)), rfl⟩
def wl_m_init_992 : List Nat := [181, 0, 58, 42, 16, 96, 188, 10, 181, 0, 62, 42, 17, 0, 160, 188, 10, 181, 0, 65, 42, 16, 24, 188, 10, 181, 0, 68, 42, 16, 12, 188, 10, 181, 0, 71, 42, 17]
theorem wi_m_init_992 : oC tm_init.2.1 992 wl_m_init_992 = true := by decide +kernel
theorem dm_init_992 : dn tm_init 992 (.putfield 58) 3 995 := ⟨o_181 0 58 58 (oWd (K := 992) (r := 0) wi_m_init_992 (by decide +kernel)), rfl⟩
theorem dm_init_995 : dl tm_init 995 .aload_n .aload 0 996 := Or.inl ⟨0, o_42 (oW (K := 992) (r := 3) wi_m_init_992 (by decide +kernel)), rfl, rfl⟩
theorem dm_init_996 : dn tm_init 996 (.bipush 96) 2 998 := ⟨o_16 96 96 (oWd (K := 992) (r := 4) wi_m_init_992 (by decide +kernel)), rfl⟩
theorem dm_init_998 : dn tm_init 998 (.newarray .int) 2 1000 := ⟨o_188_10 (oW (K := 992) (r := 6) wi_m_init_992 (by decide +kernel)), rfl⟩
theorem dm_init_1000 : dn tm_init 1000 (.putfield 62) 3 1003 := ⟨o_181 0 62 62 (oWd (K := 992) (r := 8) wi_m_init_992 (by decide +kernel)), rfl⟩
theorem dm_init_1003 : dl tm_init 1003 .aload_n .aload 0 1004 := Or.inl ⟨0, o_42 (oW (K := 992) (r := 11) wi_m_init_992 (by decide +kernel)), rfl, rfl⟩
theorem dm_init_1004 : dn tm_init 1004 (.sipush 160) 3 1007 := ⟨o_17 0 160 160 (oWd (K := 992) (r := 12) wi_m_init_992 (by decide +kernel)), rfl⟩
theorem dm_init_1007 : dn tm_init 1007 (.newarray .int) 2 1009 := ⟨o_188_10 (oW (K := 992) (r := 15) wi_m_init_992 (by decide +kernel)), rfl⟩
theorem dm_init_1009 : dn tm_init 1009 (.putfield 65) 3 1012 := ⟨o_181 0 65 65 (oWd (K := 992) (r := 17) wi_m_init_992 (by decide +kernel)), rfl⟩
theorem dm_init_1012 : dl tm_init 1012 .aload_n .aload 0 1013 := Or.inl ⟨0, o_42 (oW (K := 992) (r := 20) wi_m_init_992 (by decide +kernel)), rfl, rfl⟩
theorem dm_init_1013 : dn tm_init 1013 (.bipush 24) 2 1015 := ⟨o_16 24 24 (oWd (K := 992) (r := 21) wi_m_init_992 (by decide +kernel)), rfl⟩
theorem dm_init_1015 : dn tm_init 1015 (.newarray .int) 2 1017 := ⟨o_188_10 (oW (K := 992) (r := 23) wi_m_init_992 (by decide +kernel)), rfl⟩
theorem dm_init_1017 : dn tm_init 1017 (.putfield 68) 3 1020 := ⟨o_181 0 68 68 (oWd (K := 992) (r := 25) wi_m_init_992 (by decide +kernel)), rfl⟩
theorem dm_init_1020 : dl tm_init 1020 .aload_n .aload 0 1021 := Or.inl ⟨0, o_42 (oW (K := 992) (r := 28) wi_m_init_992 (by decide +kernel)), rfl, rfl⟩
theorem dm_init_1021 : dn tm_init 1021 (.bipush 12) 2 1023 := ⟨o_16 12 12 (oWd (K := 992) (r := 29) wi_m_init_992 (by decide +kernel)), rfl⟩
theorem dm_init_1023 : dn tm_init 1023 (.newarray .int) 2 1025 := ⟨o_188_10 (oW (K := 992) (r := 31) wi_m_init_992 (by decide +kernel)), rfl⟩
def wl_m_init_1024 : List Nat := [10, 181, 0, 71, 42, 17, 1, 164, 188, 10, 181, 0, 74, 42, 16, 12, 188, 10, 181, 0, 77, 42, 16, 9, 188, 10, 181, 0, 80, 42, 16, 100, 188, 10, 181, 0, 83, 42]
theorem wi_m_init_1024 : oC tm_init.2.1 1024 wl_m_init_1024 = true := by decide +kernel
theorem dm_init_1025 : dn tm_init 1025 (.putfield 71) 3 1028 := ⟨o_181 0 71 71 (oWd (K := 1024) (r := 1) wi_m_init_1024 (by decide +kernel)), rfl⟩
theorem dm_init_1028 : dl tm_init 1028 .aload_n .aload 0 1029 := Or.inl ⟨0, o_42 (oW (K := 1024) (r := 4) wi_m_init_1024 (by decide +kernel)), rfl, rfl⟩
theorem dm_init_1029 : dn tm_init 1029 (.sipush 420) 3 1032 := ⟨o_17 1 164 420 (oWd (K := 1024) (r := 5) wi_m_init_1024 (by decide +kernel)), rfl⟩
theorem dm_init_1032 : dn tm_init 1032 (.newarray .int) 2 1034 := ⟨o_188_10 (oW (K := 1024) (r := 8) wi_m_init_1024 (by decide +kernel)), rfl⟩
theorem dm_init_1034 : dn tm_init 1034 (.putfield 74) 3 1037 := ⟨o_181 0 74 74 (oWd (K := 1024) (r := 10) wi_m_init_1024 (by decide +kernel)), rfl⟩
theorem dm_init_1037 : dl tm_init 1037 .aload_n .aload 0 1038 := Or.inl ⟨0, o_42 (oW (K := 1024) (r := 13) wi_m_init_1024 (by decide +kernel)), rfl, rfl⟩
theorem dm_init_1038 : dn tm_init 1038 (.bipush 12) 2 1040 := ⟨o_16 12 12 (oWd (K := 1024) (r := 14) wi_m_init_1024 (by decide +kernel)), rfl⟩
theorem dm_init_1040 : dn tm_init 1040 (.newarray .int) 2 1042 := ⟨o_188_10 (oW (K := 1024) (r := 16) wi_m_init_1024 (by decide +kernel)), rfl⟩
theorem dm_init_1042 : dn tm_init 1042 (.putfield 77) 3 1045 := ⟨o_181 0 77 77 (oWd (K := 1024) (r := 18) wi_m_init_1024 (by decide +kernel)), rfl⟩
theorem dm_init_1045 : dl tm_init 1045 .aload_n .aload 0 1046 := Or.inl ⟨0, o_42 (oW (K := 1024) (r := 21) wi_m_init_1024 (by decide +kernel)), rfl, rfl⟩
theorem dm_init_1046 : dn tm_init 1046 (.bipush 9) 2 1048 := ⟨o_16 9 9 (oWd (K := 1024) (r := 22) wi_m_init_1024 (by decide +kernel)), rfl⟩
theorem dm_init_1048 : dn tm_init 1048 (.newarray .int) 2 1050 := ⟨o_188_10 (oW (K := 1024) (r := 24) wi_m_init_1024 (by decide +kernel)), rfl⟩
theorem dm_init_1050 : dn tm_init 1050 (.putfield 80) 3 1053 := ⟨o_181 0 80 80 (oWd (K := 1024) (r := 26) wi_m_init_1024 (by decide +kernel)), rfl⟩
theorem dm_init_1053 : dl tm_init 1053 .aload_n .aload 0 1054 := Or.inl ⟨0, o_42 (oW (K := 1024) (r := 29) wi_m_init_1024 (by decide +kernel)), rfl, rfl⟩
theorem dm_init_1054 : dn tm_init 1054 (.bipush 100) 2 1056 := ⟨o_16 100 100 (oWd (K := 1024) (r := 30) wi_m_init_1024 (by decide +kernel)), rfl⟩
def wl_m_init_1056 : List Nat := [188, 10, 181, 0, 83, 42, 16, 8, 188, 10, 181, 0, 86, 42, 17, 1, 0, 188, 10, 181, 0, 89, 42, 16, 8, 188, 10, 181, 0, 92, 42, 8, 188, 10, 181, 0, 95, 42]
theorem wi_m_init_1056 : oC tm_init.2.1 1056 wl_m_init_1056 = true := by decide +kernel
theorem dm_init_1056 : dn tm_init 1056 (.newarray .int) 2 1058 := ⟨o_188_10 (oW (K := 1056) (r := 0) wi_m_init_1056 (by decide +kernel)), rfl⟩
theorem dm_init_1058 : dn tm_init 1058 (.putfield 83) 3 1061 := ⟨o_181 0 83 83 (oWd (K := 1056) (r := 2) wi_m_init_1056 (by decide +kernel)), rfl⟩
theorem dm_init_1061 : dl tm_init 1061 .aload_n .aload 0 1062 := Or.inl ⟨0, o_42 (oW (K := 1056) (r := 5) wi_m_init_1056 (by decide +kernel)), rfl, rfl⟩
theorem dm_init_1062 : dn tm_init 1062 (.bipush 8) 2 1064 := ⟨o_16 8 8 (oWd (K := 1056) (r := 6) wi_m_init_1056 (by decide +kernel)), rfl⟩
theorem dm_init_1064 : dn tm_init 1064 (.newarray .int) 2 1066 := ⟨o_188_10 (oW (K := 1056) (r := 8) wi_m_init_1056 (by decide +kernel)), rfl⟩
theorem dm_init_1066 : dn tm_init 1066 (.putfield 86) 3 1069 := ⟨o_181 0 86 86 (oWd (K := 1056) (r := 10) wi_m_init_1056 (by decide +kernel)), rfl⟩
theorem dm_init_1069 : dl tm_init 1069 .aload_n .aload 0 1070 := Or.inl ⟨0, o_42 (oW (K := 1056) (r := 13) wi_m_init_1056 (by decide +kernel)), rfl, rfl⟩
theorem dm_init_1070 : dn tm_init 1070 (.sipush 256) 3 1073 := ⟨o_17 1 0 256 (oWd (K := 1056) (r := 14) wi_m_init_1056 (by decide +kernel)), rfl⟩
theorem dm_init_1073 : dn tm_init 1073 (.newarray .int) 2 1075 := ⟨o_188_10 (oW (K := 1056) (r := 17) wi_m_init_1056 (by decide +kernel)), rfl⟩
theorem dm_init_1075 : dn tm_init 1075 (.putfield 89) 3 1078 := ⟨o_181 0 89 89 (oWd (K := 1056) (r := 19) wi_m_init_1056 (by decide +kernel)), rfl⟩
theorem dm_init_1078 : dl tm_init 1078 .aload_n .aload 0 1079 := Or.inl ⟨0, o_42 (oW (K := 1056) (r := 22) wi_m_init_1056 (by decide +kernel)), rfl, rfl⟩
theorem dm_init_1079 : dn tm_init 1079 (.bipush 8) 2 1081 := ⟨o_16 8 8 (oWd (K := 1056) (r := 23) wi_m_init_1056 (by decide +kernel)), rfl⟩
theorem dm_init_1081 : dn tm_init 1081 (.newarray .int) 2 1083 := ⟨o_188_10 (oW (K := 1056) (r := 25) wi_m_init_1056 (by decide +kernel)), rfl⟩
theorem dm_init_1083 : dn tm_init 1083 (.putfield 92) 3 1086 := ⟨o_181 0 92 92 (oWd (K := 1056) (r := 27) wi_m_init_1056 (by decide +kernel)), rfl⟩
theorem dm_init_1086 : dl tm_init 1086 .aload_n .aload 0 1087 := Or.inl ⟨0, o_42 (oW (K := 1056) (r := 30) wi_m_init_1056 (by decide +kernel)), rfl, rfl⟩
theorem dm_init_1087 : dn tm_init 1087 (.iconst 5) 1 1088 := ⟨o_8 (oW (K := 1056) (r := 31) wi_m_init_1056 (by decide +kernel)), rfl⟩
def wl_m_init_1088 : List Nat := [188, 10, 181, 0, 95, 42, 16, 8, 188, 10, 181, 0, 98, 42, 16, 8, 188, 10, 181, 0, 101, 42, 16, 16, 188, 10, 181, 0, 104, 42, 17, 6, 145, 188, 10, 181, 0, 107]
theorem wi_m_init_1088 : oC tm_init.2.1 1088 wl_m_init_1088 = true := by decide +kernel
theorem dm_init_1088 : dn tm_init 1088 (.newarray .int) 2 1090 := ⟨o_188_10 (oW (K := 1088) (r := 0) wi_m_init_1088 (by decide +kernel)), rfl⟩
theorem dm_init_1090 : dn tm_init 1090 (.putfield 95) 3 1093 := ⟨o_181 0 95 95 (oWd (K := 1088) (r := 2) wi_m_init_1088 (by decide +kernel)), rfl⟩
theorem dm_init_1093 : dl tm_init 1093 .aload_n .aload 0 1094 := Or.inl ⟨0, o_42 (oW (K := 1088) (r := 5) wi_m_init_1088 (by decide +kernel)), rfl, rfl⟩
theorem dm_init_1094 : dn tm_init 1094 (.bipush 8) 2 1096 := ⟨o_16 8 8 (oWd (K := 1088) (r := 6) wi_m_init_1088 (by decide +kernel)), rfl⟩
theorem dm_init_1096 : dn tm_init 1096 (.newarray .int) 2 1098 := ⟨o_188_10 (oW (K := 1088) (r := 8) wi_m_init_1088 (by decide +kernel)), rfl⟩
theorem dm_init_1098 : dn tm_init 1098 (.putfield 98) 3 1101 := ⟨o_181 0 98 98 (oWd (K := 1088) (r := 10) wi_m_init_1088 (by decide +kernel)), rfl⟩
theorem dm_init_1101 : dl tm_init 1101 .aload_n .aload 0 1102 := Or.inl ⟨0, o_42 (oW (K := 1088) (r := 13) wi_m_init_1088 (by decide +kernel)), rfl, rfl⟩
theorem dm_init_1102 : dn tm_init 1102 (.bipush 8) 2 1104 := ⟨o_16 8 8 (oWd (K := 1088) (r := 14) wi_m_init_1088 (by decide +kernel)), rfl⟩
theorem dm_init_1104 : dn tm_init 1104 (.newarray .int) 2 1106 := ⟨o_188_10 (oW (K := 1088) (r := 16) wi_m_init_1088 (by decide +kernel)), rfl⟩
theorem dm_init_1106 : dn tm_init 1106 (.putfield 101) 3 1109 := ⟨o_181 0 101 101 (oWd (K := 1088) (r := 18) wi_m_init_1088 (by decide +kernel)), rfl⟩
theorem dm_init_1109 : dl tm_init 1109 .aload_n .aload 0 1110 := Or.inl ⟨0, o_42 (oW (K := 1088) (r := 21) wi_m_init_1088 (by decide +kernel)), rfl, rfl⟩
theorem dm_init_1110 : dn tm_init 1110 (.bipush 16) 2 1112 := ⟨o_16 16 16 (oWd (K := 1088) (r := 22) wi_m_init_1088 (by decide +kernel)), rfl⟩
theorem dm_init_1112 : dn tm_init 1112 (.newarray .int) 2 1114 := ⟨o_188_10 (oW (K := 1088) (r := 24) wi_m_init_1088 (by decide +kernel)), rfl⟩
theorem dm_init_1114 : dn tm_init 1114 (.putfield 104) 3 1117 := ⟨o_181 0 104 104 (oWd (K := 1088) (r := 26) wi_m_init_1088 (by decide +kernel)), rfl⟩
theorem dm_init_1117 : dl tm_init 1117 .aload_n .aload 0 1118 := Or.inl ⟨0, o_42 (oW (K := 1088) (r := 29) wi_m_init_1088 (by decide +kernel)), rfl, rfl⟩
theorem dm_init_1118 : dn tm_init 1118 (.sipush 1681) 3 1121 := ⟨o_17 6 145 1681 (oWd (K := 1088) (r := 30) wi_m_init_1088 (by decide +kernel)), rfl⟩
def wl_m_init_1120 : List Nat := [145, 188, 10, 181, 0, 107, 42, 16, 6, 188, 10, 181, 0, 110, 42, 16, 6, 188, 10, 181, 0, 113, 42, 16, 6, 188, 10, 181, 0, 116, 42, 16, 6, 188, 10, 181, 0, 119]
theorem wi_m_init_1120 : oC tm_init.2.1 1120 wl_m_init_1120 = true := by decide +kernel
theorem dm_init_1121 : dn tm_init 1121 (.newarray .int) 2 1123 := ⟨o_188_10 (oW (K := 1120) (r := 1) wi_m_init_1120 (by decide +kernel)), rfl⟩
theorem dm_init_1123 : dn tm_init 1123 (.putfield 107) 3 1126 := ⟨o_181 0 107 107 (oWd (K := 1120) (r := 3) wi_m_init_1120 (by decide +kernel)), rfl⟩
theorem dm_init_1126 : dl tm_init 1126 .aload_n .aload 0 1127 := Or.inl ⟨0, o_42 (oW (K := 1120) (r := 6) wi_m_init_1120 (by decide +kernel)), rfl, rfl⟩
theorem dm_init_1127 : dn tm_init 1127 (.bipush 6) 2 1129 := ⟨o_16 6 6 (oWd (K := 1120) (r := 7) wi_m_init_1120 (by decide +kernel)), rfl⟩
theorem dm_init_1129 : dn tm_init 1129 (.newarray .int) 2 1131 := ⟨o_188_10 (oW (K := 1120) (r := 9) wi_m_init_1120 (by decide +kernel)), rfl⟩
theorem dm_init_1131 : dn tm_init 1131 (.putfield 110) 3 1134 := ⟨o_181 0 110 110 (oWd (K := 1120) (r := 11) wi_m_init_1120 (by decide +kernel)), rfl⟩
theorem dm_init_1134 : dl tm_init 1134 .aload_n .aload 0 1135 := Or.inl ⟨0, o_42 (oW (K := 1120) (r := 14) wi_m_init_1120 (by decide +kernel)), rfl, rfl⟩
theorem dm_init_1135 : dn tm_init 1135 (.bipush 6) 2 1137 := ⟨o_16 6 6 (oWd (K := 1120) (r := 15) wi_m_init_1120 (by decide +kernel)), rfl⟩
theorem dm_init_1137 : dn tm_init 1137 (.newarray .int) 2 1139 := ⟨o_188_10 (oW (K := 1120) (r := 17) wi_m_init_1120 (by decide +kernel)), rfl⟩
theorem dm_init_1139 : dn tm_init 1139 (.putfield 113) 3 1142 := ⟨o_181 0 113 113 (oWd (K := 1120) (r := 19) wi_m_init_1120 (by decide +kernel)), rfl⟩
theorem dm_init_1142 : dl tm_init 1142 .aload_n .aload 0 1143 := Or.inl ⟨0, o_42 (oW (K := 1120) (r := 22) wi_m_init_1120 (by decide +kernel)), rfl, rfl⟩
theorem dm_init_1143 : dn tm_init 1143 (.bipush 6) 2 1145 := ⟨o_16 6 6 (oWd (K := 1120) (r := 23) wi_m_init_1120 (by decide +kernel)), rfl⟩
theorem dm_init_1145 : dn tm_init 1145 (.newarray .int) 2 1147 := ⟨o_188_10 (oW (K := 1120) (r := 25) wi_m_init_1120 (by decide +kernel)), rfl⟩
theorem dm_init_1147 : dn tm_init 1147 (.putfield 116) 3 1150 := ⟨o_181 0 116 116 (oWd (K := 1120) (r := 27) wi_m_init_1120 (by decide +kernel)), rfl⟩
theorem dm_init_1150 : dl tm_init 1150 .aload_n .aload 0 1151 := Or.inl ⟨0, o_42 (oW (K := 1120) (r := 30) wi_m_init_1120 (by decide +kernel)), rfl, rfl⟩
theorem dm_init_1151 : dn tm_init 1151 (.bipush 6) 2 1153 := ⟨o_16 6 6 (oWd (K := 1120) (r := 31) wi_m_init_1120 (by decide +kernel)), rfl⟩
def wl_m_init_1152 : List Nat := [6, 188, 10, 181, 0, 119, 42, 16, 12, 188, 10, 181, 0, 122, 42, 16, 21, 188, 10, 181, 0, 125, 42, 16, 21, 188, 10, 181, 0, 128, 42, 16, 8, 188, 10, 181, 0, 131]
theorem wi_m_init_1152 : oC tm_init.2.1 1152 wl_m_init_1152 = true := by decide +kernel
theorem dm_init_1153 : dn tm_init 1153 (.newarray .int) 2 1155 := ⟨o_188_10 (oW (K := 1152) (r := 1) wi_m_init_1152 (by decide +kernel)), rfl⟩
theorem dm_init_1155 : dn tm_init 1155 (.putfield 119) 3 1158 := ⟨o_181 0 119 119 (oWd (K := 1152) (r := 3) wi_m_init_1152 (by decide +kernel)), rfl⟩
theorem dm_init_1158 : dl tm_init 1158 .aload_n .aload 0 1159 := Or.inl ⟨0, o_42 (oW (K := 1152) (r := 6) wi_m_init_1152 (by decide +kernel)), rfl, rfl⟩
theorem dm_init_1159 : dn tm_init 1159 (.bipush 12) 2 1161 := ⟨o_16 12 12 (oWd (K := 1152) (r := 7) wi_m_init_1152 (by decide +kernel)), rfl⟩
theorem dm_init_1161 : dn tm_init 1161 (.newarray .int) 2 1163 := ⟨o_188_10 (oW (K := 1152) (r := 9) wi_m_init_1152 (by decide +kernel)), rfl⟩
theorem dm_init_1163 : dn tm_init 1163 (.putfield 122) 3 1166 := ⟨o_181 0 122 122 (oWd (K := 1152) (r := 11) wi_m_init_1152 (by decide +kernel)), rfl⟩
theorem dm_init_1166 : dl tm_init 1166 .aload_n .aload 0 1167 := Or.inl ⟨0, o_42 (oW (K := 1152) (r := 14) wi_m_init_1152 (by decide +kernel)), rfl, rfl⟩
theorem dm_init_1167 : dn tm_init 1167 (.bipush 21) 2 1169 := ⟨o_16 21 21 (oWd (K := 1152) (r := 15) wi_m_init_1152 (by decide +kernel)), rfl⟩
theorem dm_init_1169 : dn tm_init 1169 (.newarray .int) 2 1171 := ⟨o_188_10 (oW (K := 1152) (r := 17) wi_m_init_1152 (by decide +kernel)), rfl⟩
theorem dm_init_1171 : dn tm_init 1171 (.putfield 125) 3 1174 := ⟨o_181 0 125 125 (oWd (K := 1152) (r := 19) wi_m_init_1152 (by decide +kernel)), rfl⟩
theorem dm_init_1174 : dl tm_init 1174 .aload_n .aload 0 1175 := Or.inl ⟨0, o_42 (oW (K := 1152) (r := 22) wi_m_init_1152 (by decide +kernel)), rfl, rfl⟩
theorem dm_init_1175 : dn tm_init 1175 (.bipush 21) 2 1177 := ⟨o_16 21 21 (oWd (K := 1152) (r := 23) wi_m_init_1152 (by decide +kernel)), rfl⟩
theorem dm_init_1177 : dn tm_init 1177 (.newarray .int) 2 1179 := ⟨o_188_10 (oW (K := 1152) (r := 25) wi_m_init_1152 (by decide +kernel)), rfl⟩
theorem dm_init_1179 : dn tm_init 1179 (.putfield 128) 3 1182 := ⟨o_181 0 128 128 (oWd (K := 1152) (r := 27) wi_m_init_1152 (by decide +kernel)), rfl⟩
theorem dm_init_1182 : dl tm_init 1182 .aload_n .aload 0 1183 := Or.inl ⟨0, o_42 (oW (K := 1152) (r := 30) wi_m_init_1152 (by decide +kernel)), rfl, rfl⟩
theorem dm_init_1183 : dn tm_init 1183 (.bipush 8) 2 1185 := ⟨o_16 8 8 (oWd (K := 1152) (r := 31) wi_m_init_1152 (by decide +kernel)), rfl⟩
def wl_m_init_1184 : List Nat := [8, 188, 10, 181, 0, 131, 42, 16, 8, 188, 10, 181, 0, 134, 42, 17, 65, 167, 188, 10, 181, 0, 137, 42, 8, 188, 10, 181, 0, 140, 42, 17, 9, 96, 188, 10, 181, 0]
theorem wi_m_init_1184 : oC tm_init.2.1 1184 wl_m_init_1184 = true := by decide +kernel
theorem dm_init_1185 : dn tm_init 1185 (.newarray .int) 2 1187 := ⟨o_188_10 (oW (K := 1184) (r := 1) wi_m_init_1184 (by decide +kernel)), rfl⟩
theorem dm_init_1187 : dn tm_init 1187 (.putfield 131) 3 1190 := ⟨o_181 0 131 131 (oWd (K := 1184) (r := 3) wi_m_init_1184 (by decide +kernel)), rfl⟩
theorem dm_init_1190 : dl tm_init 1190 .aload_n .aload 0 1191 := Or.inl ⟨0, o_42 (oW (K := 1184) (r := 6) wi_m_init_1184 (by decide +kernel)), rfl, rfl⟩
theorem dm_init_1191 : dn tm_init 1191 (.bipush 8) 2 1193 := ⟨o_16 8 8 (oWd (K := 1184) (r := 7) wi_m_init_1184 (by decide +kernel)), rfl⟩
theorem dm_init_1193 : dn tm_init 1193 (.newarray .int) 2 1195 := ⟨o_188_10 (oW (K := 1184) (r := 9) wi_m_init_1184 (by decide +kernel)), rfl⟩
theorem dm_init_1195 : dn tm_init 1195 (.putfield 134) 3 1198 := ⟨o_181 0 134 134 (oWd (K := 1184) (r := 11) wi_m_init_1184 (by decide +kernel)), rfl⟩
theorem dm_init_1198 : dl tm_init 1198 .aload_n .aload 0 1199 := Or.inl ⟨0, o_42 (oW (K := 1184) (r := 14) wi_m_init_1184 (by decide +kernel)), rfl, rfl⟩
theorem dm_init_1199 : dn tm_init 1199 (.sipush 16807) 3 1202 := ⟨o_17 65 167 16807 (oWd (K := 1184) (r := 15) wi_m_init_1184 (by decide +kernel)), rfl⟩
theorem dm_init_1202 : dn tm_init 1202 (.newarray .int) 2 1204 := ⟨o_188_10 (oW (K := 1184) (r := 18) wi_m_init_1184 (by decide +kernel)), rfl⟩
theorem dm_init_1204 : dn tm_init 1204 (.putfield 137) 3 1207 := ⟨o_181 0 137 137 (oWd (K := 1184) (r := 20) wi_m_init_1184 (by decide +kernel)), rfl⟩
theorem dm_init_1207 : dl tm_init 1207 .aload_n .aload 0 1208 := Or.inl ⟨0, o_42 (oW (K := 1184) (r := 23) wi_m_init_1184 (by decide +kernel)), rfl, rfl⟩
theorem dm_init_1208 : dn tm_init 1208 (.iconst 5) 1 1209 := ⟨o_8 (oW (K := 1184) (r := 24) wi_m_init_1184 (by decide +kernel)), rfl⟩
theorem dm_init_1209 : dn tm_init 1209 (.newarray .int) 2 1211 := ⟨o_188_10 (oW (K := 1184) (r := 25) wi_m_init_1184 (by decide +kernel)), rfl⟩
theorem dm_init_1211 : dn tm_init 1211 (.putfield 140) 3 1214 := ⟨o_181 0 140 140 (oWd (K := 1184) (r := 27) wi_m_init_1184 (by decide +kernel)), rfl⟩
theorem dm_init_1214 : dl tm_init 1214 .aload_n .aload 0 1215 := Or.inl ⟨0, o_42 (oW (K := 1184) (r := 30) wi_m_init_1184 (by decide +kernel)), rfl, rfl⟩
theorem dm_init_1215 : dn tm_init 1215 (.sipush 2400) 3 1218 := ⟨o_17 9 96 2400 (oWd (K := 1184) (r := 31) wi_m_init_1184 (by decide +kernel)), rfl⟩
def wl_m_init_1216 : List Nat := [9, 96, 188, 10, 181, 0, 143, 177]
theorem wi_m_init_1216 : oC tm_init.2.1 1216 wl_m_init_1216 = true := by decide +kernel
theorem dm_init_1218 : dn tm_init 1218 (.newarray .int) 2 1220 := ⟨o_188_10 (oW (K := 1216) (r := 2) wi_m_init_1216 (by decide +kernel)), rfl⟩
theorem dm_init_1220 : dn tm_init 1220 (.putfield 143) 3 1223 := ⟨o_181 0 143 143 (oWd (K := 1216) (r := 4) wi_m_init_1216 (by decide +kernel)), rfl⟩
theorem dm_init_1223 : dn tm_init 1223 (.return_) 1 1224 := ⟨o_177 (oW (K := 1216) (r := 7) wi_m_init_1216 (by decide +kernel)), rfl⟩
