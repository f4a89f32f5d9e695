theorem qw_426 : Cond.methodLink R_Law 13 y_Arc_type ∈ m_TB := m_in_t (List.mem_of_getElem? (i := 215) (by decide +kernel)) rfl
theorem qw_427 : Cond.instanceMethod y_Arc_type ∈ m_TB := m_in_t (List.mem_of_getElem? (i := 216) (by decide +kernel)) rfl
theorem qw_428 : Cond.selects R_Arc y_Arc_type y_Arc_type ∈ m_TB := m_in_t (List.mem_of_getElem? (i := 217) (by decide +kernel)) rfl
theorem qw_429 : Cond.methodLink R_Law 17 y_Mod_type ∈ m_TB := m_in_t (List.mem_of_getElem? (i := 684) (by decide +kernel)) rfl
theorem qw_430 : Cond.instanceMethod y_Mod_type ∈ m_TB := m_in_t (List.mem_of_getElem? (i := 685) (by decide +kernel)) rfl
theorem qw_431 : Cond.selects R_Mod y_Mod_type y_Mod_type ∈ m_TB := m_in_t (List.mem_of_getElem? (i := 686) (by decide +kernel)) rfl
theorem qw_432 : Cond.methodLink R_Law 18 y_Arc_enter ∈ m_TB := m_in_t (List.mem_of_getElem? (i := 223) (by decide +kernel)) rfl
theorem qw_433 : Cond.instanceMethod y_Arc_enter ∈ m_TB := m_in_t (List.mem_of_getElem? (i := 224) (by decide +kernel)) rfl
theorem qw_434 : Cond.selects R_Arc y_Arc_enter y_Arc_enter ∈ m_TB := m_in_t (List.mem_of_getElem? (i := 225) (by decide +kernel)) rfl
theorem qw_435 : Cond.methodLink R_Law 22 y_Mod_enter ∈ m_TB := m_in_t (List.mem_of_getElem? (i := 691) (by decide +kernel)) rfl
theorem qw_436 : Cond.instanceMethod y_Mod_enter ∈ m_TB := m_in_t (List.mem_of_getElem? (i := 692) (by decide +kernel)) rfl
theorem qw_437 : Cond.selects R_Mod y_Mod_enter y_Mod_enter ∈ m_TB := m_in_t (List.mem_of_getElem? (i := 693) (by decide +kernel)) rfl
theorem qw_438 : Cond.methodLink R_Law 23 y_Arc_wipe ∈ m_TB := m_in_t (List.mem_of_getElem? (i := 242) (by decide +kernel)) rfl
theorem qw_439 : Cond.instanceMethod y_Arc_wipe ∈ m_TB := m_in_t (List.mem_of_getElem? (i := 243) (by decide +kernel)) rfl
theorem qw_440 : Cond.selects R_Arc y_Arc_wipe y_Arc_wipe ∈ m_TB := m_in_t (List.mem_of_getElem? (i := 244) (by decide +kernel)) rfl
theorem qw_441 : Cond.methodLink R_Law 26 y_Mod_wipe ∈ m_TB := m_in_t (List.mem_of_getElem? (i := 699) (by decide +kernel)) rfl
theorem qw_442 : Cond.instanceMethod y_Mod_wipe ∈ m_TB := m_in_t (List.mem_of_getElem? (i := 700) (by decide +kernel)) rfl
theorem qw_443 : Cond.selects R_Mod y_Mod_wipe y_Mod_wipe ∈ m_TB := m_in_t (List.mem_of_getElem? (i := 701) (by decide +kernel)) rfl
theorem qw_444 : Cond.methodLink R_Law 27 y_Arc_add ∈ m_TB := m_in_t (List.mem_of_getElem? (i := 250) (by decide +kernel)) rfl
theorem qw_445 : Cond.instanceMethod y_Arc_add ∈ m_TB := m_in_t (List.mem_of_getElem? (i := 251) (by decide +kernel)) rfl
theorem qw_446 : Cond.selects R_Arc y_Arc_add y_Arc_add ∈ m_TB := m_in_t (List.mem_of_getElem? (i := 252) (by decide +kernel)) rfl
theorem qw_447 : Cond.methodLink R_Law 30 y_Mod_add ∈ m_TB := m_in_t (List.mem_of_getElem? (i := 703) (by decide +kernel)) rfl
theorem qw_448 : Cond.instanceMethod y_Mod_add ∈ m_TB := m_in_t (List.mem_of_getElem? (i := 704) (by decide +kernel)) rfl
theorem qw_449 : Cond.selects R_Mod y_Mod_add y_Mod_add ∈ m_TB := m_in_t (List.mem_of_getElem? (i := 705) (by decide +kernel)) rfl
theorem qw_450 : Cond.methodLink R_Law 31 y_Arc_drop ∈ m_TB := m_in_t (List.mem_of_getElem? (i := 398) (by decide +kernel)) rfl
theorem qw_451 : Cond.instanceMethod y_Arc_drop ∈ m_TB := m_in_t (List.mem_of_getElem? (i := 399) (by decide +kernel)) rfl
theorem qw_452 : Cond.selects R_Arc y_Arc_drop y_Arc_drop ∈ m_TB := m_in_t (List.mem_of_getElem? (i := 400) (by decide +kernel)) rfl
theorem qw_453 : Cond.methodLink R_Law 34 y_Mod_drop ∈ m_TB := m_in_t (List.mem_of_getElem? (i := 763) (by decide +kernel)) rfl
theorem qw_454 : Cond.instanceMethod y_Mod_drop ∈ m_TB := m_in_t (List.mem_of_getElem? (i := 764) (by decide +kernel)) rfl
theorem qw_455 : Cond.selects R_Mod y_Mod_drop y_Mod_drop ∈ m_TB := m_in_t (List.mem_of_getElem? (i := 765) (by decide +kernel)) rfl
theorem qw_456 : Cond.methodLink R_Law 35 y_Arc_tag ∈ m_TB := m_in_t (List.mem_of_getElem? (i := 410) (by decide +kernel)) rfl
theorem qw_457 : Cond.instanceMethod y_Arc_tag ∈ m_TB := m_in_t (List.mem_of_getElem? (i := 411) (by decide +kernel)) rfl
theorem qw_458 : Cond.selects R_Arc y_Arc_tag y_Arc_tag ∈ m_TB := m_in_t (List.mem_of_getElem? (i := 412) (by decide +kernel)) rfl
theorem qw_459 : Cond.methodLink R_Law 39 y_Mod_tag ∈ m_TB := m_in_t (List.mem_of_getElem? (i := 771) (by decide +kernel)) rfl
theorem qw_460 : Cond.instanceMethod y_Mod_tag ∈ m_TB := m_in_t (List.mem_of_getElem? (i := 772) (by decide +kernel)) rfl
theorem qw_461 : Cond.selects R_Mod y_Mod_tag y_Mod_tag ∈ m_TB := m_in_t (List.mem_of_getElem? (i := 773) (by decide +kernel)) rfl
theorem qw_462 : Cond.methodLink R_Law 40 y_Arc_search ∈ m_TB := m_in_t (List.mem_of_getElem? (i := 418) (by decide +kernel)) rfl
theorem qw_463 : Cond.instanceMethod y_Arc_search ∈ m_TB := m_in_t (List.mem_of_getElem? (i := 419) (by decide +kernel)) rfl
theorem qw_464 : Cond.selects R_Arc y_Arc_search y_Arc_search ∈ m_TB := m_in_t (List.mem_of_getElem? (i := 420) (by decide +kernel)) rfl
theorem qw_465 : Cond.methodLink R_Law 43 y_Mod_search ∈ m_TB := m_in_t (List.mem_of_getElem? (i := 775) (by decide +kernel)) rfl
theorem qw_466 : Cond.instanceMethod y_Mod_search ∈ m_TB := m_in_t (List.mem_of_getElem? (i := 776) (by decide +kernel)) rfl
theorem qw_467 : Cond.selects R_Mod y_Mod_search y_Mod_search ∈ m_TB := m_in_t (List.mem_of_getElem? (i := 777) (by decide +kernel)) rfl
theorem qw_468 : Cond.methodLink R_Law 44 y_Arc_errorAt ∈ m_TB := m_in_t (List.mem_of_getElem? (i := 511) (by decide +kernel)) rfl
theorem qw_469 : Cond.instanceMethod y_Arc_errorAt ∈ m_TB := m_in_t (List.mem_of_getElem? (i := 512) (by decide +kernel)) rfl
theorem qw_470 : Cond.selects R_Arc y_Arc_errorAt y_Arc_errorAt ∈ m_TB := m_in_t (List.mem_of_getElem? (i := 513) (by decide +kernel)) rfl
theorem qw_471 : Cond.methodLink R_Law 47 y_Mod_errorAt ∈ m_TB := m_in_t (List.mem_of_getElem? (i := 828) (by decide +kernel)) rfl
theorem qw_472 : Cond.instanceMethod y_Mod_errorAt ∈ m_TB := m_in_t (List.mem_of_getElem? (i := 829) (by decide +kernel)) rfl
theorem qw_473 : Cond.selects R_Mod y_Mod_errorAt y_Mod_errorAt ∈ m_TB := m_in_t (List.mem_of_getElem? (i := 830) (by decide +kernel)) rfl
theorem qw_474 : Cond.methodLink R_Law 48 y_Arc_hit ∈ m_TB := m_in_t (List.mem_of_getElem? (i := 515) (by decide +kernel)) rfl
theorem qw_475 : Cond.instanceMethod y_Arc_hit ∈ m_TB := m_in_t (List.mem_of_getElem? (i := 516) (by decide +kernel)) rfl
theorem qw_476 : Cond.selects R_Arc y_Arc_hit y_Arc_hit ∈ m_TB := m_in_t (List.mem_of_getElem? (i := 517) (by decide +kernel)) rfl
theorem qw_477 : Cond.methodLink R_Law 51 y_Mod_hit ∈ m_TB := m_in_t (List.mem_of_getElem? (i := 832) (by decide +kernel)) rfl
theorem qw_478 : Cond.instanceMethod y_Mod_hit ∈ m_TB := m_in_t (List.mem_of_getElem? (i := 833) (by decide +kernel)) rfl
theorem qw_479 : Cond.selects R_Mod y_Mod_hit y_Mod_hit ∈ m_TB := m_in_t (List.mem_of_getElem? (i := 834) (by decide +kernel)) rfl
theorem qw_480 : Cond.methodLink R_Law 52 y_Arc_related ∈ m_TB := m_in_t (List.mem_of_getElem? (i := 522) (by decide +kernel)) rfl
theorem qw_481 : Cond.instanceMethod y_Arc_related ∈ m_TB := m_in_t (List.mem_of_getElem? (i := 523) (by decide +kernel)) rfl
theorem qw_482 : Cond.selects R_Arc y_Arc_related y_Arc_related ∈ m_TB := m_in_t (List.mem_of_getElem? (i := 524) (by decide +kernel)) rfl
theorem qw_483 : Cond.methodLink R_Law 55 y_Mod_related ∈ m_TB := m_in_t (List.mem_of_getElem? (i := 839) (by decide +kernel)) rfl
theorem qw_484 : Cond.instanceMethod y_Mod_related ∈ m_TB := m_in_t (List.mem_of_getElem? (i := 840) (by decide +kernel)) rfl
theorem qw_485 : Cond.selects R_Mod y_Mod_related y_Mod_related ∈ m_TB := m_in_t (List.mem_of_getElem? (i := 841) (by decide +kernel)) rfl
theorem qw_486 : Cond.methodLink R_Law 56 y_Arc_idOf ∈ m_TB := m_in_t (List.mem_of_getElem? (i := 538) (by decide +kernel)) rfl
theorem qw_487 : Cond.instanceMethod y_Arc_idOf ∈ m_TB := m_in_t (List.mem_of_getElem? (i := 539) (by decide +kernel)) rfl
theorem qw_488 : Cond.selects R_Arc y_Arc_idOf y_Arc_idOf ∈ m_TB := m_in_t (List.mem_of_getElem? (i := 540) (by decide +kernel)) rfl
theorem qw_489 : Cond.methodLink R_Law 59 y_Mod_idOf ∈ m_TB := m_in_t (List.mem_of_getElem? (i := 859) (by decide +kernel)) rfl
theorem qw_490 : Cond.instanceMethod y_Mod_idOf ∈ m_TB := m_in_t (List.mem_of_getElem? (i := 860) (by decide +kernel)) rfl
theorem qw_491 : Cond.selects R_Mod y_Mod_idOf y_Mod_idOf ∈ m_TB := m_in_t (List.mem_of_getElem? (i := 861) (by decide +kernel)) rfl
theorem qw_492 : Cond.methodLink R_Law 60 y_Arc_answers ∈ m_TB := m_in_t (List.mem_of_getElem? (i := 542) (by decide +kernel)) rfl
theorem qw_493 : Cond.instanceMethod y_Arc_answers ∈ m_TB := m_in_t (List.mem_of_getElem? (i := 543) (by decide +kernel)) rfl
theorem qw_494 : Cond.selects R_Arc y_Arc_answers y_Arc_answers ∈ m_TB := m_in_t (List.mem_of_getElem? (i := 544) (by decide +kernel)) rfl
theorem qw_495 : Cond.methodLink R_Law 63 y_Mod_answers ∈ m_TB := m_in_t (List.mem_of_getElem? (i := 863) (by decide +kernel)) rfl
theorem qw_496 : Cond.instanceMethod y_Mod_answers ∈ m_TB := m_in_t (List.mem_of_getElem? (i := 864) (by decide +kernel)) rfl
theorem qw_497 : Cond.selects R_Mod y_Mod_answers y_Mod_answers ∈ m_TB := m_in_t (List.mem_of_getElem? (i := 865) (by decide +kernel)) rfl
theorem qw_498 : Cond.methodLink R_Law 64 y_Arc_root ∈ m_TB := m_in_t (List.mem_of_getElem? (i := 550) (by decide +kernel)) rfl
theorem qw_499 : Cond.instanceMethod y_Arc_root ∈ m_TB := m_in_t (List.mem_of_getElem? (i := 551) (by decide +kernel)) rfl
theorem qw_500 : Cond.selects R_Arc y_Arc_root y_Arc_root ∈ m_TB := m_in_t (List.mem_of_getElem? (i := 552) (by decide +kernel)) rfl
theorem qw_501 : Cond.methodLink R_Law 67 y_Mod_root ∈ m_TB := m_in_t (List.mem_of_getElem? (i := 871) (by decide +kernel)) rfl
theorem qw_502 : Cond.instanceMethod y_Mod_root ∈ m_TB := m_in_t (List.mem_of_getElem? (i := 872) (by decide +kernel)) rfl
theorem qw_503 : Cond.selects R_Mod y_Mod_root y_Mod_root ∈ m_TB := m_in_t (List.mem_of_getElem? (i := 873) (by decide +kernel)) rfl
theorem qw_504 : Cond.methodLink R_Law 68 y_Arc_word ∈ m_TB := m_in_t (List.mem_of_getElem? (i := 554) (by decide +kernel)) rfl
theorem qw_505 : Cond.instanceMethod y_Arc_word ∈ m_TB := m_in_t (List.mem_of_getElem? (i := 555) (by decide +kernel)) rfl
theorem qw_506 : Cond.selects R_Arc y_Arc_word y_Arc_word ∈ m_TB := m_in_t (List.mem_of_getElem? (i := 556) (by decide +kernel)) rfl
theorem qw_507 : Cond.methodLink R_Law 72 y_Mod_word ∈ m_TB := m_in_t (List.mem_of_getElem? (i := 875) (by decide +kernel)) rfl
theorem qw_508 : Cond.instanceMethod y_Mod_word ∈ m_TB := m_in_t (List.mem_of_getElem? (i := 876) (by decide +kernel)) rfl
theorem qw_509 : Cond.selects R_Mod y_Mod_word y_Mod_word ∈ m_TB := m_in_t (List.mem_of_getElem? (i := 877) (by decide +kernel)) rfl
theorem qw_510 : Cond.methodLink R_Law 73 y_Arc_field ∈ m_TB := m_in_t (List.mem_of_getElem? (i := 563) (by decide +kernel)) rfl
theorem qw_511 : Cond.instanceMethod y_Arc_field ∈ m_TB := m_in_t (List.mem_of_getElem? (i := 564) (by decide +kernel)) rfl
theorem qw_512 : Cond.selects R_Arc y_Arc_field y_Arc_field ∈ m_TB := m_in_t (List.mem_of_getElem? (i := 565) (by decide +kernel)) rfl
theorem qw_513 : Cond.methodLink R_Law 77 y_Mod_field ∈ m_TB := m_in_t (List.mem_of_getElem? (i := 880) (by decide +kernel)) rfl
theorem qw_514 : Cond.instanceMethod y_Mod_field ∈ m_TB := m_in_t (List.mem_of_getElem? (i := 881) (by decide +kernel)) rfl
theorem qw_515 : Cond.selects R_Mod y_Mod_field y_Mod_field ∈ m_TB := m_in_t (List.mem_of_getElem? (i := 882) (by decide +kernel)) rfl
theorem qw_516 : Cond.methodLink R_Law 78 y_Arc_count ∈ m_TB := m_in_t (List.mem_of_getElem? (i := 567) (by decide +kernel)) rfl
theorem qw_517 : Cond.instanceMethod y_Arc_count ∈ m_TB := m_in_t (List.mem_of_getElem? (i := 568) (by decide +kernel)) rfl
theorem qw_518 : Cond.selects R_Arc y_Arc_count y_Arc_count ∈ m_TB := m_in_t (List.mem_of_getElem? (i := 569) (by decide +kernel)) rfl
theorem qw_519 : Cond.methodLink R_Law 81 y_Mod_count ∈ m_TB := m_in_t (List.mem_of_getElem? (i := 884) (by decide +kernel)) rfl
theorem qw_520 : Cond.instanceMethod y_Mod_count ∈ m_TB := m_in_t (List.mem_of_getElem? (i := 885) (by decide +kernel)) rfl
theorem qw_521 : Cond.selects R_Mod y_Mod_count y_Mod_count ∈ m_TB := m_in_t (List.mem_of_getElem? (i := 886) (by decide +kernel)) rfl
theorem qw_522 : Cond.instantiable R_Arc 10 ∈ m_TB := m_in_t (List.mem_of_getElem? (i := 15) (by decide +kernel)) rfl
theorem qw_523 : Cond.instantiable R_Mod 28 ∈ m_TB := m_in_t (List.mem_of_getElem? (i := 594) (by decide +kernel)) rfl
theorem qw_524 : Cond.classLink R_Law 7 R_Arc ∈ m_TB := m_in_t (List.mem_of_getElem? (i := 14) (by decide +kernel)) rfl
theorem qw_525 : Cond.methodLink R_Law 9 y_Arc_init ∈ m_TB := m_in_t (List.mem_of_getElem? (i := 16) (by decide +kernel)) rfl
theorem qw_526 : Cond.instanceMethod y_Arc_init ∈ m_TB := m_in_t (List.mem_of_getElem? (i := 17) (by decide +kernel)) rfl
theorem qw_527 : Cond.classLink R_Law 10 R_Mod ∈ m_TB := m_in_t (List.mem_of_getElem? (i := 593) (by decide +kernel)) rfl
theorem qw_528 : Cond.methodLink R_Law 12 y_Mod_init ∈ m_TB := m_in_t (List.mem_of_getElem? (i := 595) (by decide +kernel)) rfl
theorem qw_529 : Cond.instanceMethod y_Mod_init ∈ m_TB := m_in_t (List.mem_of_getElem? (i := 596) (by decide +kernel)) rfl
