/-! The words of the methods. -/
def zTb_has (w : Cond) : Prop := w ∈ lw_tbl ∧ goodWord w = true
theorem zTb_has_in {w : Cond} (h : zTb_has w) : w ∈ zTb := List.mem_filter.mpr h
set_option maxRecDepth 100000 in
theorem zmc_0 : zTb_has (.code (zy 0) (zb 0) (zn 0) (zr 0)) := ⟨List.mem_of_getElem? (i := 520) rfl, rfl⟩
set_option maxRecDepth 100000 in
theorem zmc_1 : zTb_has (.code (zy 1) (zb 1) (zn 1) (zr 1)) := ⟨List.mem_of_getElem? (i := 390) rfl, rfl⟩
set_option maxRecDepth 100000 in
theorem zmc_2 : zTb_has (.code (zy 2) (zb 2) (zn 2) (zr 2)) := ⟨List.mem_of_getElem? (i := 393) rfl, rfl⟩
set_option maxRecDepth 100000 in
theorem zmc_3 : zTb_has (.code (zy 3) (zb 3) (zn 3) (zr 3)) := ⟨List.mem_of_getElem? (i := 463) rfl, rfl⟩
set_option maxRecDepth 100000 in
theorem zmc_4 : zTb_has (.code (zy 4) (zb 4) (zn 4) (zr 4)) := ⟨List.mem_of_getElem? (i := 467) rfl, rfl⟩
set_option maxRecDepth 100000 in
theorem zmc_5 : zTb_has (.code (zy 5) (zb 5) (zn 5) (zr 5)) := ⟨List.mem_of_getElem? (i := 471) rfl, rfl⟩
set_option maxRecDepth 100000 in
theorem zmc_6 : zTb_has (.code (zy 6) (zb 6) (zn 6) (zr 6)) := ⟨List.mem_of_getElem? (i := 478) rfl, rfl⟩
set_option maxRecDepth 100000 in
theorem zmc_7 : zTb_has (.code (zy 7) (zb 7) (zn 7) (zr 7)) := ⟨List.mem_of_getElem? (i := 481) rfl, rfl⟩
set_option maxRecDepth 100000 in
theorem zmc_8 : zTb_has (.code (zy 8) (zb 8) (zn 8) (zr 8)) := ⟨List.mem_of_getElem? (i := 484) rfl, rfl⟩
set_option maxRecDepth 100000 in
theorem zmc_9 : zTb_has (.code (zy 9) (zb 9) (zn 9) (zr 9)) := ⟨List.mem_of_getElem? (i := 491) rfl, rfl⟩
set_option maxRecDepth 100000 in
theorem zmc_10 : zTb_has (.code (zy 10) (zb 10) (zn 10) (zr 10)) := ⟨List.mem_of_getElem? (i := 497) rfl, rfl⟩
set_option maxRecDepth 100000 in
theorem zmc_11 : zTb_has (.code (zy 11) (zb 11) (zn 11) (zr 11)) := ⟨List.mem_of_getElem? (i := 501) rfl, rfl⟩
set_option maxRecDepth 100000 in
theorem zmc_12 : zTb_has (.code (zy 12) (zb 12) (zn 12) (zr 12)) := ⟨List.mem_of_getElem? (i := 505) rfl, rfl⟩
set_option maxRecDepth 100000 in
theorem zmc_13 : zTb_has (.code (zy 13) (zb 13) (zn 13) (zr 13)) := ⟨List.mem_of_getElem? (i := 509) rfl, rfl⟩
set_option maxRecDepth 100000 in
theorem zmc_14 : zTb_has (.code (zy 14) (zb 14) (zn 14) (zr 14)) := ⟨List.mem_of_getElem? (i := 512) rfl, rfl⟩
set_option maxRecDepth 100000 in
theorem zmc_15 : zTb_has (.code (zy 15) (zb 15) (zn 15) (zr 15)) := ⟨List.mem_of_getElem? (i := 475) rfl, rfl⟩
set_option maxRecDepth 100000 in
theorem zmc_16 : zTb_has (.code (zy 16) (zb 16) (zn 16) (zr 16)) := ⟨List.mem_of_getElem? (i := 488) rfl, rfl⟩
set_option maxRecDepth 100000 in
theorem zmc_17 : zTb_has (.code (zy 17) (zb 17) (zn 17) (zr 17)) := ⟨List.mem_of_getElem? (i := 665) rfl, rfl⟩
set_option maxRecDepth 100000 in
theorem zmc_18 : zTb_has (.code (zy 18) (zb 18) (zn 18) (zr 18)) := ⟨List.mem_of_getElem? (i := 362) rfl, rfl⟩
set_option maxRecDepth 100000 in
theorem zmc_19 : zTb_has (.code (zy 19) (zb 19) (zn 19) (zr 19)) := ⟨List.mem_of_getElem? (i := 431) rfl, rfl⟩
set_option maxRecDepth 100000 in
theorem zmc_20 : zTb_has (.code (zy 20) (zb 20) (zn 20) (zr 20)) := ⟨List.mem_of_getElem? (i := 673) rfl, rfl⟩
set_option maxRecDepth 100000 in
theorem zmc_21 : zTb_has (.code (zy 21) (zb 21) (zn 21) (zr 21)) := ⟨List.mem_of_getElem? (i := 439) rfl, rfl⟩
set_option maxRecDepth 100000 in
theorem zmc_22 : zTb_has (.code (zy 22) (zb 22) (zn 22) (zr 22)) := ⟨List.mem_of_getElem? (i := 366) rfl, rfl⟩
set_option maxRecDepth 100000 in
theorem zmc_23 : zTb_has (.code (zy 23) (zb 23) (zn 23) (zr 23)) := ⟨List.mem_of_getElem? (i := 808) rfl, rfl⟩
set_option maxRecDepth 100000 in
theorem zmc_24 : zTb_has (.code (zy 24) (zb 24) (zn 24) (zr 24)) := ⟨List.mem_of_getElem? (i := 613) rfl, rfl⟩
set_option maxRecDepth 100000 in
theorem zmc_25 : zTb_has (.code (zy 25) (zb 25) (zn 25) (zr 25)) := ⟨List.mem_of_getElem? (i := 621) rfl, rfl⟩
set_option maxRecDepth 100000 in
theorem zmc_26 : zTb_has (.code (zy 26) (zb 26) (zn 26) (zr 26)) := ⟨List.mem_of_getElem? (i := 634) rfl, rfl⟩
set_option maxRecDepth 100000 in
theorem zmc_27 : zTb_has (.code (zy 27) (zb 27) (zn 27) (zr 27)) := ⟨List.mem_of_getElem? (i := 639) rfl, rfl⟩
set_option maxRecDepth 100000 in
theorem zmc_28 : zTb_has (.code (zy 28) (zb 28) (zn 28) (zr 28)) := ⟨List.mem_of_getElem? (i := 629) rfl, rfl⟩
set_option maxRecDepth 100000 in
theorem zmc_29 : zTb_has (.code (zy 29) (zb 29) (zn 29) (zr 29)) := ⟨List.mem_of_getElem? (i := 657) rfl, rfl⟩
set_option maxRecDepth 100000 in
theorem zmc_30 : zTb_has (.code (zy 30) (zb 30) (zn 30) (zr 30)) := ⟨List.mem_of_getElem? (i := 378) rfl, rfl⟩
set_option maxRecDepth 100000 in
theorem zmc_31 : zTb_has (.code (zy 31) (zb 31) (zn 31) (zr 31)) := ⟨List.mem_of_getElem? (i := 406) rfl, rfl⟩
set_option maxRecDepth 100000 in
theorem zmc_32 : zTb_has (.code (zy 32) (zb 32) (zn 32) (zr 32)) := ⟨List.mem_of_getElem? (i := 382) rfl, rfl⟩
set_option maxRecDepth 100000 in
theorem zmc_33 : zTb_has (.code (zy 33) (zb 33) (zn 33) (zr 33)) := ⟨List.mem_of_getElem? (i := 386) rfl, rfl⟩
set_option maxRecDepth 100000 in
theorem zmc_34 : zTb_has (.code (zy 34) (zb 34) (zn 34) (zr 34)) := ⟨List.mem_of_getElem? (i := 410) rfl, rfl⟩
set_option maxRecDepth 100000 in
theorem zmc_35 : zTb_has (.code (zy 35) (zb 35) (zn 35) (zr 35)) := ⟨List.mem_of_getElem? (i := 537) rfl, rfl⟩
set_option maxRecDepth 100000 in
theorem zmc_36 : zTb_has (.code (zy 36) (zb 36) (zn 36) (zr 36)) := ⟨List.mem_of_getElem? (i := 541) rfl, rfl⟩
set_option maxRecDepth 100000 in
theorem zmc_37 : zTb_has (.code (zy 37) (zb 37) (zn 37) (zr 37)) := ⟨List.mem_of_getElem? (i := 591) rfl, rfl⟩
set_option maxRecDepth 100000 in
theorem zmc_38 : zTb_has (.code (zy 38) (zb 38) (zn 38) (zr 38)) := ⟨List.mem_of_getElem? (i := 595) rfl, rfl⟩
set_option maxRecDepth 100000 in
theorem zmc_39 : zTb_has (.code (zy 39) (zb 39) (zn 39) (zr 39)) := ⟨List.mem_of_getElem? (i := 546) rfl, rfl⟩
set_option maxRecDepth 100000 in
theorem zmc_40 : zTb_has (.code (zy 40) (zb 40) (zn 40) (zr 40)) := ⟨List.mem_of_getElem? (i := 550) rfl, rfl⟩
set_option maxRecDepth 100000 in
theorem zmc_41 : zTb_has (.code (zy 41) (zb 41) (zn 41) (zr 41)) := ⟨List.mem_of_getElem? (i := 570) rfl, rfl⟩
set_option maxRecDepth 100000 in
theorem zmc_42 : zTb_has (.code (zy 42) (zb 42) (zn 42) (zr 42)) := ⟨List.mem_of_getElem? (i := 557) rfl, rfl⟩
set_option maxRecDepth 100000 in
theorem zmc_43 : zTb_has (.code (zy 43) (zb 43) (zn 43) (zr 43)) := ⟨List.mem_of_getElem? (i := 565) rfl, rfl⟩
set_option maxRecDepth 100000 in
theorem zmc_44 : zTb_has (.code (zy 44) (zb 44) (zn 44) (zr 44)) := ⟨List.mem_of_getElem? (i := 574) rfl, rfl⟩
set_option maxRecDepth 100000 in
theorem zmc_45 : zTb_has (.code (zy 45) (zb 45) (zn 45) (zr 45)) := ⟨List.mem_of_getElem? (i := 561) rfl, rfl⟩
set_option maxRecDepth 100000 in
theorem zmc_46 : zTb_has (.code (zy 46) (zb 46) (zn 46) (zr 46)) := ⟨List.mem_of_getElem? (i := 578) rfl, rfl⟩
set_option maxRecDepth 100000 in
theorem zmc_47 : zTb_has (.code (zy 47) (zb 47) (zn 47) (zr 47)) := ⟨List.mem_of_getElem? (i := 583) rfl, rfl⟩
set_option maxRecDepth 100000 in
theorem zmc_48 : zTb_has (.code (zy 48) (zb 48) (zn 48) (zr 48)) := ⟨List.mem_of_getElem? (i := 455) rfl, rfl⟩
set_option maxRecDepth 100000 in
theorem zmc_49 : zTb_has (.code (zy 49) (zb 49) (zn 49) (zr 49)) := ⟨List.mem_of_getElem? (i := 788) rfl, rfl⟩
set_option maxRecDepth 100000 in
theorem zmc_50 : zTb_has (.code (zy 50) (zb 50) (zn 50) (zr 50)) := ⟨List.mem_of_getElem? (i := 708) rfl, rfl⟩
set_option maxRecDepth 100000 in
theorem zmc_51 : zTb_has (.code (zy 51) (zb 51) (zn 51) (zr 51)) := ⟨List.mem_of_getElem? (i := 749) rfl, rfl⟩
set_option maxRecDepth 100000 in
theorem zmc_52 : zTb_has (.code (zy 52) (zb 52) (zn 52) (zr 52)) := ⟨List.mem_of_getElem? (i := 757) rfl, rfl⟩
set_option maxRecDepth 100000 in
theorem zmc_53 : zTb_has (.code (zy 53) (zb 53) (zn 53) (zr 53)) := ⟨List.mem_of_getElem? (i := 765) rfl, rfl⟩
set_option maxRecDepth 100000 in
theorem zmc_54 : zTb_has (.code (zy 54) (zb 54) (zn 54) (zr 54)) := ⟨List.mem_of_getElem? (i := 782) rfl, rfl⟩
set_option maxRecDepth 100000 in
theorem zmc_55 : zTb_has (.code (zy 55) (zb 55) (zn 55) (zr 55)) := ⟨List.mem_of_getElem? (i := 421) rfl, rfl⟩
set_option maxRecDepth 100000 in
theorem zmc_56 : zTb_has (.code (zy 56) (zb 56) (zn 56) (zr 56)) := ⟨List.mem_of_getElem? (i := 720) rfl, rfl⟩
set_option maxRecDepth 100000 in
theorem zmc_57 : zTb_has (.code (zy 57) (zb 57) (zn 57) (zr 57)) := ⟨List.mem_of_getElem? (i := 724) rfl, rfl⟩
set_option maxRecDepth 100000 in
theorem zmc_58 : zTb_has (.code (zy 58) (zb 58) (zn 58) (zr 58)) := ⟨List.mem_of_getElem? (i := 733) rfl, rfl⟩
set_option maxRecDepth 100000 in
theorem zmc_59 : zTb_has (.code (zy 59) (zb 59) (zn 59) (zr 59)) := ⟨List.mem_of_getElem? (i := 737) rfl, rfl⟩
set_option maxRecDepth 100000 in
theorem zmc_60 : zTb_has (.code (zy 60) (zb 60) (zn 60) (zr 60)) := ⟨List.mem_of_getElem? (i := 727) rfl, rfl⟩
set_option maxRecDepth 100000 in
theorem zmc_61 : zTb_has (.code (zy 61) (zb 61) (zn 61) (zr 61)) := ⟨List.mem_of_getElem? (i := 346) rfl, rfl⟩
set_option maxRecDepth 100000 in
theorem zmc_62 : zTb_has (.code (zy 62) (zb 62) (zn 62) (zr 62)) := ⟨List.mem_of_getElem? (i := 373) rfl, rfl⟩
set_option maxRecDepth 100000 in
theorem zmc_63 : zTb_has (.code (zy 63) (zb 63) (zn 63) (zr 63)) := ⟨List.mem_of_getElem? (i := 414) rfl, rfl⟩
set_option maxRecDepth 100000 in
theorem zmc_64 : zTb_has (.code (zy 64) (zb 64) (zn 64) (zr 64)) := ⟨List.mem_of_getElem? (i := 418) rfl, rfl⟩
set_option maxRecDepth 100000 in
theorem zmc_65 : zTb_has (.code (zy 65) (zb 65) (zn 65) (zr 65)) := ⟨List.mem_of_getElem? (i := 427) rfl, rfl⟩
set_option maxRecDepth 100000 in
theorem zmc_66 : zTb_has (.code (zy 66) (zb 66) (zn 66) (zr 66)) := ⟨List.mem_of_getElem? (i := 435) rfl, rfl⟩
set_option maxRecDepth 100000 in
theorem zmc_67 : zTb_has (.code (zy 67) (zb 67) (zn 67) (zr 67)) := ⟨List.mem_of_getElem? (i := 443) rfl, rfl⟩
set_option maxRecDepth 100000 in
theorem zmc_68 : zTb_has (.code (zy 68) (zb 68) (zn 68) (zr 68)) := ⟨List.mem_of_getElem? (i := 447) rfl, rfl⟩
set_option maxRecDepth 100000 in
theorem zmc_69 : zTb_has (.code (zy 69) (zb 69) (zn 69) (zr 69)) := ⟨List.mem_of_getElem? (i := 451) rfl, rfl⟩
set_option maxRecDepth 100000 in
theorem zmc_70 : zTb_has (.code (zy 70) (zb 70) (zn 70) (zr 70)) := ⟨List.mem_of_getElem? (i := 459) rfl, rfl⟩
set_option maxRecDepth 100000 in
theorem zmc_71 : zTb_has (.code (zy 71) (zb 71) (zn 71) (zr 71)) := ⟨List.mem_of_getElem? (i := 524) rfl, rfl⟩
set_option maxRecDepth 100000 in
theorem zmc_72 : zTb_has (.code (zy 72) (zb 72) (zn 72) (zr 72)) := ⟨List.mem_of_getElem? (i := 528) rfl, rfl⟩
set_option maxRecDepth 100000 in
theorem zmc_73 : zTb_has (.code (zy 73) (zb 73) (zn 73) (zr 73)) := ⟨List.mem_of_getElem? (i := 533) rfl, rfl⟩
set_option maxRecDepth 100000 in
theorem zmc_74 : zTb_has (.code (zy 74) (zb 74) (zn 74) (zr 74)) := ⟨List.mem_of_getElem? (i := 587) rfl, rfl⟩
set_option maxRecDepth 100000 in
theorem zmc_75 : zTb_has (.code (zy 75) (zb 75) (zn 75) (zr 75)) := ⟨List.mem_of_getElem? (i := 601) rfl, rfl⟩
set_option maxRecDepth 100000 in
theorem zmc_76 : zTb_has (.code (zy 76) (zb 76) (zn 76) (zr 76)) := ⟨List.mem_of_getElem? (i := 605) rfl, rfl⟩
set_option maxRecDepth 100000 in
theorem zmc_77 : zTb_has (.code (zy 77) (zb 77) (zn 77) (zr 77)) := ⟨List.mem_of_getElem? (i := 609) rfl, rfl⟩
set_option maxRecDepth 100000 in
theorem zmc_78 : zTb_has (.code (zy 78) (zb 78) (zn 78) (zr 78)) := ⟨List.mem_of_getElem? (i := 617) rfl, rfl⟩
set_option maxRecDepth 100000 in
theorem zmc_79 : zTb_has (.code (zy 79) (zb 79) (zn 79) (zr 79)) := ⟨List.mem_of_getElem? (i := 625) rfl, rfl⟩
set_option maxRecDepth 100000 in
theorem zmc_80 : zTb_has (.code (zy 80) (zb 80) (zn 80) (zr 80)) := ⟨List.mem_of_getElem? (i := 643) rfl, rfl⟩
set_option maxRecDepth 100000 in
theorem zmc_81 : zTb_has (.code (zy 81) (zb 81) (zn 81) (zr 81)) := ⟨List.mem_of_getElem? (i := 653) rfl, rfl⟩
set_option maxRecDepth 100000 in
theorem zmc_82 : zTb_has (.code (zy 82) (zb 82) (zn 82) (zr 82)) := ⟨List.mem_of_getElem? (i := 661) rfl, rfl⟩
set_option maxRecDepth 100000 in
theorem zmc_83 : zTb_has (.code (zy 83) (zb 83) (zn 83) (zr 83)) := ⟨List.mem_of_getElem? (i := 669) rfl, rfl⟩
set_option maxRecDepth 100000 in
theorem zmc_84 : zTb_has (.code (zy 84) (zb 84) (zn 84) (zr 84)) := ⟨List.mem_of_getElem? (i := 677) rfl, rfl⟩
set_option maxRecDepth 100000 in
theorem zmc_85 : zTb_has (.code (zy 85) (zb 85) (zn 85) (zr 85)) := ⟨List.mem_of_getElem? (i := 681) rfl, rfl⟩
set_option maxRecDepth 100000 in
theorem zmc_86 : zTb_has (.code (zy 86) (zb 86) (zn 86) (zr 86)) := ⟨List.mem_of_getElem? (i := 689) rfl, rfl⟩
set_option maxRecDepth 100000 in
theorem zmc_87 : zTb_has (.code (zy 87) (zb 87) (zn 87) (zr 87)) := ⟨List.mem_of_getElem? (i := 697) rfl, rfl⟩
set_option maxRecDepth 100000 in
theorem zmc_88 : zTb_has (.code (zy 88) (zb 88) (zn 88) (zr 88)) := ⟨List.mem_of_getElem? (i := 701) rfl, rfl⟩
set_option maxRecDepth 100000 in
theorem zmc_89 : zTb_has (.code (zy 89) (zb 89) (zn 89) (zr 89)) := ⟨List.mem_of_getElem? (i := 716) rfl, rfl⟩
set_option maxRecDepth 100000 in
theorem zmc_90 : zTb_has (.code (zy 90) (zb 90) (zn 90) (zr 90)) := ⟨List.mem_of_getElem? (i := 741) rfl, rfl⟩
set_option maxRecDepth 100000 in
theorem zmc_91 : zTb_has (.code (zy 91) (zb 91) (zn 91) (zr 91)) := ⟨List.mem_of_getElem? (i := 745) rfl, rfl⟩
set_option maxRecDepth 100000 in
theorem zmc_92 : zTb_has (.code (zy 92) (zb 92) (zn 92) (zr 92)) := ⟨List.mem_of_getElem? (i := 753) rfl, rfl⟩
set_option maxRecDepth 100000 in
theorem zmc_93 : zTb_has (.code (zy 93) (zb 93) (zn 93) (zr 93)) := ⟨List.mem_of_getElem? (i := 761) rfl, rfl⟩
set_option maxRecDepth 100000 in
theorem zmc_94 : zTb_has (.code (zy 94) (zb 94) (zn 94) (zr 94)) := ⟨List.mem_of_getElem? (i := 770) rfl, rfl⟩
set_option maxRecDepth 100000 in
theorem zmc_95 : zTb_has (.code (zy 95) (zb 95) (zn 95) (zr 95)) := ⟨List.mem_of_getElem? (i := 774) rfl, rfl⟩
set_option maxRecDepth 100000 in
theorem zmc_96 : zTb_has (.code (zy 96) (zb 96) (zn 96) (zr 96)) := ⟨List.mem_of_getElem? (i := 778) rfl, rfl⟩
set_option maxRecDepth 100000 in
theorem zmc_97 : zTb_has (.code (zy 97) (zb 97) (zn 97) (zr 97)) := ⟨List.mem_of_getElem? (i := 792) rfl, rfl⟩
set_option maxRecDepth 100000 in
theorem zmc_98 : zTb_has (.code (zy 98) (zb 98) (zn 98) (zr 98)) := ⟨List.mem_of_getElem? (i := 796) rfl, rfl⟩
set_option maxRecDepth 100000 in
theorem zmc_99 : zTb_has (.code (zy 99) (zb 99) (zn 99) (zr 99)) := ⟨List.mem_of_getElem? (i := 800) rfl, rfl⟩
set_option maxRecDepth 100000 in
theorem zmc_100 : zTb_has (.code (zy 100) (zb 100) (zn 100) (zr 100)) := ⟨List.mem_of_getElem? (i := 804) rfl, rfl⟩
set_option maxRecDepth 100000 in
theorem zmc_101 : zTb_has (.code (zy 101) (zb 101) (zn 101) (zr 101)) := ⟨List.mem_of_getElem? (i := 812) rfl, rfl⟩
set_option maxRecDepth 100000 in
theorem zmc_102 : zTb_has (.code (zy 102) (zb 102) (zn 102) (zr 102)) := ⟨List.mem_of_getElem? (i := 357) rfl, rfl⟩
set_option maxRecDepth 100000 in
theorem zmc_103 : zTb_has (.code (zy 103) (zb 103) (zn 103) (zr 103)) := ⟨List.mem_of_getElem? (i := 349) rfl, rfl⟩
set_option maxRecDepth 100000 in
theorem zmc_104 : zTb_has (.code (zy 104) (zb 104) (zn 104) (zr 104)) := ⟨List.mem_of_getElem? (i := 353) rfl, rfl⟩
set_option maxRecDepth 100000 in
theorem zmc_105 : zTb_has (.code (zy 105) (zb 105) (zn 105) (zr 105)) := ⟨List.mem_of_getElem? (i := 704) rfl, rfl⟩
set_option maxRecDepth 100000 in
theorem zmc_106 : zTb_has (.code (zy 106) (zb 106) (zn 106) (zr 106)) := ⟨List.mem_of_getElem? (i := 516) rfl, rfl⟩
set_option maxRecDepth 100000 in
theorem zmc_107 : zTb_has (.code (zy 107) (zb 107) (zn 107) (zr 107)) := ⟨List.mem_of_getElem? (i := 685) rfl, rfl⟩
set_option maxRecDepth 100000 in
theorem zmc_108 : zTb_has (.code (zy 108) (zb 108) (zn 108) (zr 108)) := ⟨List.mem_of_getElem? (i := 693) rfl, rfl⟩
set_option maxRecDepth 100000 in
theorem zmc_109 : zTb_has (.code (zy 109) (zb 109) (zn 109) (zr 109)) := ⟨List.mem_of_getElem? (i := 712) rfl, rfl⟩
set_option maxRecDepth 100000 in
theorem zmc_110 : zTb_has (.code (zy 110) (zb 110) (zn 110) (zr 110)) := ⟨List.mem_of_getElem? (i := 896) rfl, rfl⟩
set_option maxRecDepth 100000 in
theorem zmc_111 : zTb_has (.code (zy 111) (zb 111) (zn 111) (zr 111)) := ⟨List.mem_of_getElem? (i := 892) rfl, rfl⟩
set_option maxRecDepth 100000 in
theorem zmc_112 : zTb_has (.code (zy 112) (zb 112) (zn 112) (zr 112)) := ⟨List.mem_of_getElem? (i := 1016) rfl, rfl⟩
set_option maxRecDepth 100000 in
theorem zmc_113 : zTb_has (.code (zy 113) (zb 113) (zn 113) (zr 113)) := ⟨List.mem_of_getElem? (i := 1287) rfl, rfl⟩
set_option maxRecDepth 100000 in
theorem zmc_114 : zTb_has (.code (zy 114) (zb 114) (zn 114) (zr 114)) := ⟨List.mem_of_getElem? (i := 1174) rfl, rfl⟩
set_option maxRecDepth 100000 in
theorem zmc_115 : zTb_has (.code (zy 115) (zb 115) (zn 115) (zr 115)) := ⟨List.mem_of_getElem? (i := 1178) rfl, rfl⟩
set_option maxRecDepth 100000 in
theorem zmc_116 : zTb_has (.code (zy 116) (zb 116) (zn 116) (zr 116)) := ⟨List.mem_of_getElem? (i := 987) rfl, rfl⟩
set_option maxRecDepth 100000 in
theorem zmc_117 : zTb_has (.code (zy 117) (zb 117) (zn 117) (zr 117)) := ⟨List.mem_of_getElem? (i := 960) rfl, rfl⟩
set_option maxRecDepth 100000 in
theorem zmc_118 : zTb_has (.code (zy 118) (zb 118) (zn 118) (zr 118)) := ⟨List.mem_of_getElem? (i := 976) rfl, rfl⟩
set_option maxRecDepth 100000 in
theorem zmc_119 : zTb_has (.code (zy 119) (zb 119) (zn 119) (zr 119)) := ⟨List.mem_of_getElem? (i := 964) rfl, rfl⟩
set_option maxRecDepth 100000 in
theorem zmc_120 : zTb_has (.code (zy 120) (zb 120) (zn 120) (zr 120)) := ⟨List.mem_of_getElem? (i := 1043) rfl, rfl⟩
set_option maxRecDepth 100000 in
theorem zmc_121 : zTb_has (.code (zy 121) (zb 121) (zn 121) (zr 121)) := ⟨List.mem_of_getElem? (i := 972) rfl, rfl⟩
set_option maxRecDepth 100000 in
theorem zmc_122 : zTb_has (.code (zy 122) (zb 122) (zn 122) (zr 122)) := ⟨List.mem_of_getElem? (i := 889) rfl, rfl⟩
set_option maxRecDepth 100000 in
theorem zmc_123 : zTb_has (.code (zy 123) (zb 123) (zn 123) (zr 123)) := ⟨List.mem_of_getElem? (i := 930) rfl, rfl⟩
set_option maxRecDepth 100000 in
theorem zmc_124 : zTb_has (.code (zy 124) (zb 124) (zn 124) (zr 124)) := ⟨List.mem_of_getElem? (i := 934) rfl, rfl⟩
set_option maxRecDepth 100000 in
theorem zmc_125 : zTb_has (.code (zy 125) (zb 125) (zn 125) (zr 125)) := ⟨List.mem_of_getElem? (i := 938) rfl, rfl⟩
set_option maxRecDepth 100000 in
theorem zmc_126 : zTb_has (.code (zy 126) (zb 126) (zn 126) (zr 126)) := ⟨List.mem_of_getElem? (i := 906) rfl, rfl⟩
set_option maxRecDepth 100000 in
theorem zmc_127 : zTb_has (.code (zy 127) (zb 127) (zn 127) (zr 127)) := ⟨List.mem_of_getElem? (i := 910) rfl, rfl⟩
set_option maxRecDepth 100000 in
theorem zmc_128 : zTb_has (.code (zy 128) (zb 128) (zn 128) (zr 128)) := ⟨List.mem_of_getElem? (i := 914) rfl, rfl⟩
set_option maxRecDepth 100000 in
theorem zmc_129 : zTb_has (.code (zy 129) (zb 129) (zn 129) (zr 129)) := ⟨List.mem_of_getElem? (i := 918) rfl, rfl⟩
set_option maxRecDepth 100000 in
theorem zmc_130 : zTb_has (.code (zy 130) (zb 130) (zn 130) (zr 130)) := ⟨List.mem_of_getElem? (i := 922) rfl, rfl⟩
set_option maxRecDepth 100000 in
theorem zmc_131 : zTb_has (.code (zy 131) (zb 131) (zn 131) (zr 131)) := ⟨List.mem_of_getElem? (i := 942) rfl, rfl⟩
set_option maxRecDepth 100000 in
theorem zmc_132 : zTb_has (.code (zy 132) (zb 132) (zn 132) (zr 132)) := ⟨List.mem_of_getElem? (i := 926) rfl, rfl⟩
set_option maxRecDepth 100000 in
theorem zmc_133 : zTb_has (.code (zy 133) (zb 133) (zn 133) (zr 133)) := ⟨List.mem_of_getElem? (i := 950) rfl, rfl⟩
set_option maxRecDepth 100000 in
theorem zmc_134 : zTb_has (.code (zy 134) (zb 134) (zn 134) (zr 134)) := ⟨List.mem_of_getElem? (i := 902) rfl, rfl⟩
set_option maxRecDepth 100000 in
theorem zmc_135 : zTb_has (.code (zy 135) (zb 135) (zn 135) (zr 135)) := ⟨List.mem_of_getElem? (i := 946) rfl, rfl⟩
set_option maxRecDepth 100000 in
theorem zmc_136 : zTb_has (.code (zy 136) (zb 136) (zn 136) (zr 136)) := ⟨List.mem_of_getElem? (i := 1010) rfl, rfl⟩
set_option maxRecDepth 100000 in
theorem zmc_137 : zTb_has (.code (zy 137) (zb 137) (zn 137) (zr 137)) := ⟨List.mem_of_getElem? (i := 1007) rfl, rfl⟩
set_option maxRecDepth 100000 in
theorem zmc_138 : zTb_has (.code (zy 138) (zb 138) (zn 138) (zr 138)) := ⟨List.mem_of_getElem? (i := 999) rfl, rfl⟩
set_option maxRecDepth 100000 in
theorem zmc_139 : zTb_has (.code (zy 139) (zb 139) (zn 139) (zr 139)) := ⟨List.mem_of_getElem? (i := 995) rfl, rfl⟩
set_option maxRecDepth 100000 in
theorem zmc_140 : zTb_has (.code (zy 140) (zb 140) (zn 140) (zr 140)) := ⟨List.mem_of_getElem? (i := 1024) rfl, rfl⟩
set_option maxRecDepth 100000 in
theorem zmc_141 : zTb_has (.code (zy 141) (zb 141) (zn 141) (zr 141)) := ⟨List.mem_of_getElem? (i := 1013) rfl, rfl⟩
set_option maxRecDepth 100000 in
theorem zmc_142 : zTb_has (.code (zy 142) (zb 142) (zn 142) (zr 142)) := ⟨List.mem_of_getElem? (i := 1003) rfl, rfl⟩
set_option maxRecDepth 100000 in
theorem zmc_143 : zTb_has (.code (zy 143) (zb 143) (zn 143) (zr 143)) := ⟨List.mem_of_getElem? (i := 991) rfl, rfl⟩
set_option maxRecDepth 100000 in
theorem zmc_144 : zTb_has (.code (zy 144) (zb 144) (zn 144) (zr 144)) := ⟨List.mem_of_getElem? (i := 1020) rfl, rfl⟩
set_option maxRecDepth 100000 in
theorem zmc_145 : zTb_has (.code (zy 145) (zb 145) (zn 145) (zr 145)) := ⟨List.mem_of_getElem? (i := 979) rfl, rfl⟩
set_option maxRecDepth 100000 in
theorem zmc_146 : zTb_has (.code (zy 146) (zb 146) (zn 146) (zr 146)) := ⟨List.mem_of_getElem? (i := 968) rfl, rfl⟩
set_option maxRecDepth 100000 in
theorem zmc_147 : zTb_has (.code (zy 147) (zb 147) (zn 147) (zr 147)) := ⟨List.mem_of_getElem? (i := 1086) rfl, rfl⟩
set_option maxRecDepth 100000 in
theorem zmc_148 : zTb_has (.code (zy 148) (zb 148) (zn 148) (zr 148)) := ⟨List.mem_of_getElem? (i := 1051) rfl, rfl⟩
set_option maxRecDepth 100000 in
theorem zmc_149 : zTb_has (.code (zy 149) (zb 149) (zn 149) (zr 149)) := ⟨List.mem_of_getElem? (i := 1098) rfl, rfl⟩
set_option maxRecDepth 100000 in
theorem zmc_150 : zTb_has (.code (zy 150) (zb 150) (zn 150) (zr 150)) := ⟨List.mem_of_getElem? (i := 1094) rfl, rfl⟩
set_option maxRecDepth 100000 in
theorem zmc_151 : zTb_has (.code (zy 151) (zb 151) (zn 151) (zr 151)) := ⟨List.mem_of_getElem? (i := 1102) rfl, rfl⟩
set_option maxRecDepth 100000 in
theorem zmc_152 : zTb_has (.code (zy 152) (zb 152) (zn 152) (zr 152)) := ⟨List.mem_of_getElem? (i := 1090) rfl, rfl⟩
set_option maxRecDepth 100000 in
theorem zmc_153 : zTb_has (.code (zy 153) (zb 153) (zn 153) (zr 153)) := ⟨List.mem_of_getElem? (i := 1082) rfl, rfl⟩
set_option maxRecDepth 100000 in
theorem zmc_154 : zTb_has (.code (zy 154) (zb 154) (zn 154) (zr 154)) := ⟨List.mem_of_getElem? (i := 1078) rfl, rfl⟩
set_option maxRecDepth 100000 in
theorem zmc_155 : zTb_has (.code (zy 155) (zb 155) (zn 155) (zr 155)) := ⟨List.mem_of_getElem? (i := 1074) rfl, rfl⟩
set_option maxRecDepth 100000 in
theorem zmc_156 : zTb_has (.code (zy 156) (zb 156) (zn 156) (zr 156)) := ⟨List.mem_of_getElem? (i := 1186) rfl, rfl⟩
set_option maxRecDepth 100000 in
theorem zmc_157 : zTb_has (.code (zy 157) (zb 157) (zn 157) (zr 157)) := ⟨List.mem_of_getElem? (i := 1307) rfl, rfl⟩
set_option maxRecDepth 100000 in
theorem zmc_158 : zTb_has (.code (zy 158) (zb 158) (zn 158) (zr 158)) := ⟨List.mem_of_getElem? (i := 957) rfl, rfl⟩
set_option maxRecDepth 100000 in
theorem zmc_159 : zTb_has (.code (zy 159) (zb 159) (zn 159) (zr 159)) := ⟨List.mem_of_getElem? (i := 954) rfl, rfl⟩
set_option maxRecDepth 100000 in
theorem zmc_160 : zTb_has (.code (zy 160) (zb 160) (zn 160) (zr 160)) := ⟨List.mem_of_getElem? (i := 983) rfl, rfl⟩
set_option maxRecDepth 100000 in
theorem zmc_161 : zTb_has (.code (zy 161) (zb 161) (zn 161) (zr 161)) := ⟨List.mem_of_getElem? (i := 1028) rfl, rfl⟩
set_option maxRecDepth 100000 in
theorem zmc_162 : zTb_has (.code (zy 162) (zb 162) (zn 162) (zr 162)) := ⟨List.mem_of_getElem? (i := 1032) rfl, rfl⟩
set_option maxRecDepth 100000 in
theorem zmc_163 : zTb_has (.code (zy 163) (zb 163) (zn 163) (zr 163)) := ⟨List.mem_of_getElem? (i := 1039) rfl, rfl⟩
set_option maxRecDepth 100000 in
theorem zmc_164 : zTb_has (.code (zy 164) (zb 164) (zn 164) (zr 164)) := ⟨List.mem_of_getElem? (i := 1047) rfl, rfl⟩
set_option maxRecDepth 100000 in
theorem zmc_165 : zTb_has (.code (zy 165) (zb 165) (zn 165) (zr 165)) := ⟨List.mem_of_getElem? (i := 1058) rfl, rfl⟩
set_option maxRecDepth 100000 in
theorem zmc_166 : zTb_has (.code (zy 166) (zb 166) (zn 166) (zr 166)) := ⟨List.mem_of_getElem? (i := 1055) rfl, rfl⟩
set_option maxRecDepth 100000 in
theorem zmc_167 : zTb_has (.code (zy 167) (zb 167) (zn 167) (zr 167)) := ⟨List.mem_of_getElem? (i := 1062) rfl, rfl⟩
set_option maxRecDepth 100000 in
theorem zmc_168 : zTb_has (.code (zy 168) (zb 168) (zn 168) (zr 168)) := ⟨List.mem_of_getElem? (i := 1066) rfl, rfl⟩
set_option maxRecDepth 100000 in
theorem zmc_169 : zTb_has (.code (zy 169) (zb 169) (zn 169) (zr 169)) := ⟨List.mem_of_getElem? (i := 1070) rfl, rfl⟩
set_option maxRecDepth 100000 in
theorem zmc_170 : zTb_has (.code (zy 170) (zb 170) (zn 170) (zr 170)) := ⟨List.mem_of_getElem? (i := 1110) rfl, rfl⟩
set_option maxRecDepth 100000 in
theorem zmc_171 : zTb_has (.code (zy 171) (zb 171) (zn 171) (zr 171)) := ⟨List.mem_of_getElem? (i := 1106) rfl, rfl⟩
set_option maxRecDepth 100000 in
theorem zmc_172 : zTb_has (.code (zy 172) (zb 172) (zn 172) (zr 172)) := ⟨List.mem_of_getElem? (i := 1115) rfl, rfl⟩
set_option maxRecDepth 100000 in
theorem zmc_173 : zTb_has (.code (zy 173) (zb 173) (zn 173) (zr 173)) := ⟨List.mem_of_getElem? (i := 1119) rfl, rfl⟩
set_option maxRecDepth 100000 in
theorem zmc_174 : zTb_has (.code (zy 174) (zb 174) (zn 174) (zr 174)) := ⟨List.mem_of_getElem? (i := 1127) rfl, rfl⟩
set_option maxRecDepth 100000 in
theorem zmc_175 : zTb_has (.code (zy 175) (zb 175) (zn 175) (zr 175)) := ⟨List.mem_of_getElem? (i := 1123) rfl, rfl⟩
set_option maxRecDepth 100000 in
theorem zmc_176 : zTb_has (.code (zy 176) (zb 176) (zn 176) (zr 176)) := ⟨List.mem_of_getElem? (i := 1135) rfl, rfl⟩
set_option maxRecDepth 100000 in
theorem zmc_177 : zTb_has (.code (zy 177) (zb 177) (zn 177) (zr 177)) := ⟨List.mem_of_getElem? (i := 1131) rfl, rfl⟩
set_option maxRecDepth 100000 in
theorem zmc_178 : zTb_has (.code (zy 178) (zb 178) (zn 178) (zr 178)) := ⟨List.mem_of_getElem? (i := 1147) rfl, rfl⟩
set_option maxRecDepth 100000 in
theorem zmc_179 : zTb_has (.code (zy 179) (zb 179) (zn 179) (zr 179)) := ⟨List.mem_of_getElem? (i := 1151) rfl, rfl⟩
set_option maxRecDepth 100000 in
theorem zmc_180 : zTb_has (.code (zy 180) (zb 180) (zn 180) (zr 180)) := ⟨List.mem_of_getElem? (i := 1143) rfl, rfl⟩
set_option maxRecDepth 100000 in
theorem zmc_181 : zTb_has (.code (zy 181) (zb 181) (zn 181) (zr 181)) := ⟨List.mem_of_getElem? (i := 1158) rfl, rfl⟩
set_option maxRecDepth 100000 in
theorem zmc_182 : zTb_has (.code (zy 182) (zb 182) (zn 182) (zr 182)) := ⟨List.mem_of_getElem? (i := 1139) rfl, rfl⟩
set_option maxRecDepth 100000 in
theorem zmc_183 : zTb_has (.code (zy 183) (zb 183) (zn 183) (zr 183)) := ⟨List.mem_of_getElem? (i := 1155) rfl, rfl⟩
set_option maxRecDepth 100000 in
theorem zmc_184 : zTb_has (.code (zy 184) (zb 184) (zn 184) (zr 184)) := ⟨List.mem_of_getElem? (i := 1166) rfl, rfl⟩
set_option maxRecDepth 100000 in
theorem zmc_185 : zTb_has (.code (zy 185) (zb 185) (zn 185) (zr 185)) := ⟨List.mem_of_getElem? (i := 1162) rfl, rfl⟩
set_option maxRecDepth 100000 in
theorem zmc_186 : zTb_has (.code (zy 186) (zb 186) (zn 186) (zr 186)) := ⟨List.mem_of_getElem? (i := 1170) rfl, rfl⟩
set_option maxRecDepth 100000 in
theorem zmc_187 : zTb_has (.code (zy 187) (zb 187) (zn 187) (zr 187)) := ⟨List.mem_of_getElem? (i := 1182) rfl, rfl⟩
set_option maxRecDepth 100000 in
theorem zmc_188 : zTb_has (.code (zy 188) (zb 188) (zn 188) (zr 188)) := ⟨List.mem_of_getElem? (i := 1190) rfl, rfl⟩
set_option maxRecDepth 100000 in
theorem zmc_189 : zTb_has (.code (zy 189) (zb 189) (zn 189) (zr 189)) := ⟨List.mem_of_getElem? (i := 1198) rfl, rfl⟩
set_option maxRecDepth 100000 in
theorem zmc_190 : zTb_has (.code (zy 190) (zb 190) (zn 190) (zr 190)) := ⟨List.mem_of_getElem? (i := 1194) rfl, rfl⟩
set_option maxRecDepth 100000 in
theorem zmc_191 : zTb_has (.code (zy 191) (zb 191) (zn 191) (zr 191)) := ⟨List.mem_of_getElem? (i := 1206) rfl, rfl⟩
set_option maxRecDepth 100000 in
theorem zmc_192 : zTb_has (.code (zy 192) (zb 192) (zn 192) (zr 192)) := ⟨List.mem_of_getElem? (i := 1202) rfl, rfl⟩
set_option maxRecDepth 100000 in
theorem zmc_193 : zTb_has (.code (zy 193) (zb 193) (zn 193) (zr 193)) := ⟨List.mem_of_getElem? (i := 1213) rfl, rfl⟩
set_option maxRecDepth 100000 in
theorem zmc_194 : zTb_has (.code (zy 194) (zb 194) (zn 194) (zr 194)) := ⟨List.mem_of_getElem? (i := 1210) rfl, rfl⟩
set_option maxRecDepth 100000 in
theorem zmc_195 : zTb_has (.code (zy 195) (zb 195) (zn 195) (zr 195)) := ⟨List.mem_of_getElem? (i := 1217) rfl, rfl⟩
set_option maxRecDepth 100000 in
theorem zmc_196 : zTb_has (.code (zy 196) (zb 196) (zn 196) (zr 196)) := ⟨List.mem_of_getElem? (i := 1236) rfl, rfl⟩
set_option maxRecDepth 100000 in
theorem zmc_197 : zTb_has (.code (zy 197) (zb 197) (zn 197) (zr 197)) := ⟨List.mem_of_getElem? (i := 1035) rfl, rfl⟩
set_option maxRecDepth 100000 in
theorem zmc_198 : zTb_has (.code (zy 198) (zb 198) (zn 198) (zr 198)) := ⟨List.mem_of_getElem? (i := 1228) rfl, rfl⟩
set_option maxRecDepth 100000 in
theorem zmc_199 : zTb_has (.code (zy 199) (zb 199) (zn 199) (zr 199)) := ⟨List.mem_of_getElem? (i := 1244) rfl, rfl⟩
set_option maxRecDepth 100000 in
theorem zmc_200 : zTb_has (.code (zy 200) (zb 200) (zn 200) (zr 200)) := ⟨List.mem_of_getElem? (i := 1232) rfl, rfl⟩
set_option maxRecDepth 100000 in
theorem zmc_201 : zTb_has (.code (zy 201) (zb 201) (zn 201) (zr 201)) := ⟨List.mem_of_getElem? (i := 1240) rfl, rfl⟩
set_option maxRecDepth 100000 in
theorem zmc_202 : zTb_has (.code (zy 202) (zb 202) (zn 202) (zr 202)) := ⟨List.mem_of_getElem? (i := 1248) rfl, rfl⟩
set_option maxRecDepth 100000 in
theorem zmc_203 : zTb_has (.code (zy 203) (zb 203) (zn 203) (zr 203)) := ⟨List.mem_of_getElem? (i := 1252) rfl, rfl⟩
set_option maxRecDepth 100000 in
theorem zmc_204 : zTb_has (.code (zy 204) (zb 204) (zn 204) (zr 204)) := ⟨List.mem_of_getElem? (i := 1224) rfl, rfl⟩
set_option maxRecDepth 100000 in
theorem zmc_205 : zTb_has (.code (zy 205) (zb 205) (zn 205) (zr 205)) := ⟨List.mem_of_getElem? (i := 1256) rfl, rfl⟩
set_option maxRecDepth 100000 in
theorem zmc_206 : zTb_has (.code (zy 206) (zb 206) (zn 206) (zr 206)) := ⟨List.mem_of_getElem? (i := 1220) rfl, rfl⟩
set_option maxRecDepth 100000 in
theorem zmc_207 : zTb_has (.code (zy 207) (zb 207) (zn 207) (zr 207)) := ⟨List.mem_of_getElem? (i := 1260) rfl, rfl⟩
set_option maxRecDepth 100000 in
theorem zmc_208 : zTb_has (.code (zy 208) (zb 208) (zn 208) (zr 208)) := ⟨List.mem_of_getElem? (i := 1264) rfl, rfl⟩
set_option maxRecDepth 100000 in
theorem zmc_209 : zTb_has (.code (zy 209) (zb 209) (zn 209) (zr 209)) := ⟨List.mem_of_getElem? (i := 1268) rfl, rfl⟩
set_option maxRecDepth 100000 in
theorem zmc_210 : zTb_has (.code (zy 210) (zb 210) (zn 210) (zr 210)) := ⟨List.mem_of_getElem? (i := 1276) rfl, rfl⟩
set_option maxRecDepth 100000 in
theorem zmc_211 : zTb_has (.code (zy 211) (zb 211) (zn 211) (zr 211)) := ⟨List.mem_of_getElem? (i := 1272) rfl, rfl⟩
set_option maxRecDepth 100000 in
theorem zmc_212 : zTb_has (.code (zy 212) (zb 212) (zn 212) (zr 212)) := ⟨List.mem_of_getElem? (i := 1280) rfl, rfl⟩
set_option maxRecDepth 100000 in
theorem zmc_213 : zTb_has (.code (zy 213) (zb 213) (zn 213) (zr 213)) := ⟨List.mem_of_getElem? (i := 1284) rfl, rfl⟩
set_option maxRecDepth 100000 in
theorem zmc_214 : zTb_has (.code (zy 214) (zb 214) (zn 214) (zr 214)) := ⟨List.mem_of_getElem? (i := 1291) rfl, rfl⟩
set_option maxRecDepth 100000 in
theorem zmc_215 : zTb_has (.code (zy 215) (zb 215) (zn 215) (zr 215)) := ⟨List.mem_of_getElem? (i := 1295) rfl, rfl⟩
set_option maxRecDepth 100000 in
theorem zmc_216 : zTb_has (.code (zy 216) (zb 216) (zn 216) (zr 216)) := ⟨List.mem_of_getElem? (i := 1299) rfl, rfl⟩
set_option maxRecDepth 100000 in
theorem zmc_217 : zTb_has (.code (zy 217) (zb 217) (zn 217) (zr 217)) := ⟨List.mem_of_getElem? (i := 1303) rfl, rfl⟩
set_option maxRecDepth 100000 in
theorem zmc_218 : zTb_has (.code (zy 218) (zb 218) (zn 218) (zr 218)) := ⟨List.mem_of_getElem? (i := 1311) rfl, rfl⟩
set_option maxRecDepth 100000 in
theorem zmc_219 : zTb_has (.code (zy 219) (zb 219) (zn 219) (zr 219)) := ⟨List.mem_of_getElem? (i := 646) rfl, rfl⟩
set_option maxRecDepth 100000 in
theorem zmc_220 : zTb_has (.code (zy 220) (zb 220) (zn 220) (zr 220)) := ⟨List.mem_of_getElem? (i := 396) rfl, rfl⟩
set_option maxRecDepth 100000 in
theorem zmc_221 : zTb_has (.code (zy 221) (zb 221) (zn 221) (zr 221)) := ⟨List.mem_of_getElem? (i := 369) rfl, rfl⟩
set_option maxRecDepth 100000 in
theorem zmc_222 : zTb_has (.code (zy 222) (zb 222) (zn 222) (zr 222)) := ⟨List.mem_of_getElem? (i := 402) rfl, rfl⟩
set_option maxRecDepth 100000 in
theorem zmc_223 : zTb_has (.code (zy 223) (zb 223) (zn 223) (zr 223)) := ⟨List.mem_of_getElem? (i := 399) rfl, rfl⟩
theorem zmcc_0 : ∀ mj, 0 ≤ mj → mj < 25 → zTb_has (.code (zy mj) (zb mj) (zn mj) (zr mj)) := by
  intro mj h1 h2
  have h : mj = 0 ∨ mj = 1 ∨ mj = 2 ∨ mj = 3 ∨ mj = 4 ∨ mj = 5 ∨ mj = 6 ∨ mj = 7 ∨ mj = 8 ∨ mj = 9 ∨ mj = 10 ∨ mj = 11 ∨ mj = 12 ∨ mj = 13 ∨ mj = 14 ∨ mj = 15 ∨ mj = 16 ∨ mj = 17 ∨ mj = 18 ∨ mj = 19 ∨ mj = 20 ∨ mj = 21 ∨ mj = 22 ∨ mj = 23 ∨ mj = 24 := by omega
  rcases h with rfl | rfl | rfl | rfl | rfl | rfl | rfl | rfl | rfl | rfl | rfl | rfl | rfl | rfl | rfl | rfl | rfl | rfl | rfl | rfl | rfl | rfl | rfl | rfl | rfl
  · exact zmc_0
  · exact zmc_1
  · exact zmc_2
  · exact zmc_3
  · exact zmc_4
  · exact zmc_5
  · exact zmc_6
  · exact zmc_7
  · exact zmc_8
  · exact zmc_9
  · exact zmc_10
  · exact zmc_11
  · exact zmc_12
  · exact zmc_13
  · exact zmc_14
  · exact zmc_15
  · exact zmc_16
  · exact zmc_17
  · exact zmc_18
  · exact zmc_19
  · exact zmc_20
  · exact zmc_21
  · exact zmc_22
  · exact zmc_23
  · exact zmc_24
theorem zmcc_1 : ∀ mj, 25 ≤ mj → mj < 50 → zTb_has (.code (zy mj) (zb mj) (zn mj) (zr mj)) := by
  intro mj h1 h2
  have h : mj = 25 ∨ mj = 26 ∨ mj = 27 ∨ mj = 28 ∨ mj = 29 ∨ mj = 30 ∨ mj = 31 ∨ mj = 32 ∨ mj = 33 ∨ mj = 34 ∨ mj = 35 ∨ mj = 36 ∨ mj = 37 ∨ mj = 38 ∨ mj = 39 ∨ mj = 40 ∨ mj = 41 ∨ mj = 42 ∨ mj = 43 ∨ mj = 44 ∨ mj = 45 ∨ mj = 46 ∨ mj = 47 ∨ mj = 48 ∨ mj = 49 := by omega
  rcases h with rfl | rfl | rfl | rfl | rfl | rfl | rfl | rfl | rfl | rfl | rfl | rfl | rfl | rfl | rfl | rfl | rfl | rfl | rfl | rfl | rfl | rfl | rfl | rfl | rfl
  · exact zmc_25
  · exact zmc_26
  · exact zmc_27
  · exact zmc_28
  · exact zmc_29
  · exact zmc_30
  · exact zmc_31
  · exact zmc_32
  · exact zmc_33
  · exact zmc_34
  · exact zmc_35
  · exact zmc_36
  · exact zmc_37
  · exact zmc_38
  · exact zmc_39
  · exact zmc_40
  · exact zmc_41
  · exact zmc_42
  · exact zmc_43
  · exact zmc_44
  · exact zmc_45
  · exact zmc_46
  · exact zmc_47
  · exact zmc_48
  · exact zmc_49
theorem zmcc_2 : ∀ mj, 50 ≤ mj → mj < 75 → zTb_has (.code (zy mj) (zb mj) (zn mj) (zr mj)) := by
  intro mj h1 h2
  have h : mj = 50 ∨ mj = 51 ∨ mj = 52 ∨ mj = 53 ∨ mj = 54 ∨ mj = 55 ∨ mj = 56 ∨ mj = 57 ∨ mj = 58 ∨ mj = 59 ∨ mj = 60 ∨ mj = 61 ∨ mj = 62 ∨ mj = 63 ∨ mj = 64 ∨ mj = 65 ∨ mj = 66 ∨ mj = 67 ∨ mj = 68 ∨ mj = 69 ∨ mj = 70 ∨ mj = 71 ∨ mj = 72 ∨ mj = 73 ∨ mj = 74 := by omega
  rcases h with rfl | rfl | rfl | rfl | rfl | rfl | rfl | rfl | rfl | rfl | rfl | rfl | rfl | rfl | rfl | rfl | rfl | rfl | rfl | rfl | rfl | rfl | rfl | rfl | rfl
  · exact zmc_50
  · exact zmc_51
  · exact zmc_52
  · exact zmc_53
  · exact zmc_54
  · exact zmc_55
  · exact zmc_56
  · exact zmc_57
  · exact zmc_58
  · exact zmc_59
  · exact zmc_60
  · exact zmc_61
  · exact zmc_62
  · exact zmc_63
  · exact zmc_64
  · exact zmc_65
  · exact zmc_66
  · exact zmc_67
  · exact zmc_68
  · exact zmc_69
  · exact zmc_70
  · exact zmc_71
  · exact zmc_72
  · exact zmc_73
  · exact zmc_74
theorem zmcc_3 : ∀ mj, 75 ≤ mj → mj < 100 → zTb_has (.code (zy mj) (zb mj) (zn mj) (zr mj)) := by
  intro mj h1 h2
  have h : mj = 75 ∨ mj = 76 ∨ mj = 77 ∨ mj = 78 ∨ mj = 79 ∨ mj = 80 ∨ mj = 81 ∨ mj = 82 ∨ mj = 83 ∨ mj = 84 ∨ mj = 85 ∨ mj = 86 ∨ mj = 87 ∨ mj = 88 ∨ mj = 89 ∨ mj = 90 ∨ mj = 91 ∨ mj = 92 ∨ mj = 93 ∨ mj = 94 ∨ mj = 95 ∨ mj = 96 ∨ mj = 97 ∨ mj = 98 ∨ mj = 99 := by omega
  rcases h with rfl | rfl | rfl | rfl | rfl | rfl | rfl | rfl | rfl | rfl | rfl | rfl | rfl | rfl | rfl | rfl | rfl | rfl | rfl | rfl | rfl | rfl | rfl | rfl | rfl
  · exact zmc_75
  · exact zmc_76
  · exact zmc_77
  · exact zmc_78
  · exact zmc_79
  · exact zmc_80
  · exact zmc_81
  · exact zmc_82
  · exact zmc_83
  · exact zmc_84
  · exact zmc_85
  · exact zmc_86
  · exact zmc_87
  · exact zmc_88
  · exact zmc_89
  · exact zmc_90
  · exact zmc_91
  · exact zmc_92
  · exact zmc_93
  · exact zmc_94
  · exact zmc_95
  · exact zmc_96
  · exact zmc_97
  · exact zmc_98
  · exact zmc_99
theorem zmcc_4 : ∀ mj, 100 ≤ mj → mj < 125 → zTb_has (.code (zy mj) (zb mj) (zn mj) (zr mj)) := by
  intro mj h1 h2
  have h : mj = 100 ∨ mj = 101 ∨ mj = 102 ∨ mj = 103 ∨ mj = 104 ∨ mj = 105 ∨ mj = 106 ∨ mj = 107 ∨ mj = 108 ∨ mj = 109 ∨ mj = 110 ∨ mj = 111 ∨ mj = 112 ∨ mj = 113 ∨ mj = 114 ∨ mj = 115 ∨ mj = 116 ∨ mj = 117 ∨ mj = 118 ∨ mj = 119 ∨ mj = 120 ∨ mj = 121 ∨ mj = 122 ∨ mj = 123 ∨ mj = 124 := by omega
  rcases h with rfl | rfl | rfl | rfl | rfl | rfl | rfl | rfl | rfl | rfl | rfl | rfl | rfl | rfl | rfl | rfl | rfl | rfl | rfl | rfl | rfl | rfl | rfl | rfl | rfl
  · exact zmc_100
  · exact zmc_101
  · exact zmc_102
  · exact zmc_103
  · exact zmc_104
  · exact zmc_105
  · exact zmc_106
  · exact zmc_107
  · exact zmc_108
  · exact zmc_109
  · exact zmc_110
  · exact zmc_111
  · exact zmc_112
  · exact zmc_113
  · exact zmc_114
  · exact zmc_115
  · exact zmc_116
  · exact zmc_117
  · exact zmc_118
  · exact zmc_119
  · exact zmc_120
  · exact zmc_121
  · exact zmc_122
  · exact zmc_123
  · exact zmc_124
theorem zmcc_5 : ∀ mj, 125 ≤ mj → mj < 150 → zTb_has (.code (zy mj) (zb mj) (zn mj) (zr mj)) := by
  intro mj h1 h2
  have h : mj = 125 ∨ mj = 126 ∨ mj = 127 ∨ mj = 128 ∨ mj = 129 ∨ mj = 130 ∨ mj = 131 ∨ mj = 132 ∨ mj = 133 ∨ mj = 134 ∨ mj = 135 ∨ mj = 136 ∨ mj = 137 ∨ mj = 138 ∨ mj = 139 ∨ mj = 140 ∨ mj = 141 ∨ mj = 142 ∨ mj = 143 ∨ mj = 144 ∨ mj = 145 ∨ mj = 146 ∨ mj = 147 ∨ mj = 148 ∨ mj = 149 := by omega
  rcases h with rfl | rfl | rfl | rfl | rfl | rfl | rfl | rfl | rfl | rfl | rfl | rfl | rfl | rfl | rfl | rfl | rfl | rfl | rfl | rfl | rfl | rfl | rfl | rfl | rfl
  · exact zmc_125
  · exact zmc_126
  · exact zmc_127
  · exact zmc_128
  · exact zmc_129
  · exact zmc_130
  · exact zmc_131
  · exact zmc_132
  · exact zmc_133
  · exact zmc_134
  · exact zmc_135
  · exact zmc_136
  · exact zmc_137
  · exact zmc_138
  · exact zmc_139
  · exact zmc_140
  · exact zmc_141
  · exact zmc_142
  · exact zmc_143
  · exact zmc_144
  · exact zmc_145
  · exact zmc_146
  · exact zmc_147
  · exact zmc_148
  · exact zmc_149
theorem zmcc_6 : ∀ mj, 150 ≤ mj → mj < 175 → zTb_has (.code (zy mj) (zb mj) (zn mj) (zr mj)) := by
  intro mj h1 h2
  have h : mj = 150 ∨ mj = 151 ∨ mj = 152 ∨ mj = 153 ∨ mj = 154 ∨ mj = 155 ∨ mj = 156 ∨ mj = 157 ∨ mj = 158 ∨ mj = 159 ∨ mj = 160 ∨ mj = 161 ∨ mj = 162 ∨ mj = 163 ∨ mj = 164 ∨ mj = 165 ∨ mj = 166 ∨ mj = 167 ∨ mj = 168 ∨ mj = 169 ∨ mj = 170 ∨ mj = 171 ∨ mj = 172 ∨ mj = 173 ∨ mj = 174 := by omega
  rcases h with rfl | rfl | rfl | rfl | rfl | rfl | rfl | rfl | rfl | rfl | rfl | rfl | rfl | rfl | rfl | rfl | rfl | rfl | rfl | rfl | rfl | rfl | rfl | rfl | rfl
  · exact zmc_150
  · exact zmc_151
  · exact zmc_152
  · exact zmc_153
  · exact zmc_154
  · exact zmc_155
  · exact zmc_156
  · exact zmc_157
  · exact zmc_158
  · exact zmc_159
  · exact zmc_160
  · exact zmc_161
  · exact zmc_162
  · exact zmc_163
  · exact zmc_164
  · exact zmc_165
  · exact zmc_166
  · exact zmc_167
  · exact zmc_168
  · exact zmc_169
  · exact zmc_170
  · exact zmc_171
  · exact zmc_172
  · exact zmc_173
  · exact zmc_174
theorem zmcc_7 : ∀ mj, 175 ≤ mj → mj < 200 → zTb_has (.code (zy mj) (zb mj) (zn mj) (zr mj)) := by
  intro mj h1 h2
  have h : mj = 175 ∨ mj = 176 ∨ mj = 177 ∨ mj = 178 ∨ mj = 179 ∨ mj = 180 ∨ mj = 181 ∨ mj = 182 ∨ mj = 183 ∨ mj = 184 ∨ mj = 185 ∨ mj = 186 ∨ mj = 187 ∨ mj = 188 ∨ mj = 189 ∨ mj = 190 ∨ mj = 191 ∨ mj = 192 ∨ mj = 193 ∨ mj = 194 ∨ mj = 195 ∨ mj = 196 ∨ mj = 197 ∨ mj = 198 ∨ mj = 199 := by omega
  rcases h with rfl | rfl | rfl | rfl | rfl | rfl | rfl | rfl | rfl | rfl | rfl | rfl | rfl | rfl | rfl | rfl | rfl | rfl | rfl | rfl | rfl | rfl | rfl | rfl | rfl
  · exact zmc_175
  · exact zmc_176
  · exact zmc_177
  · exact zmc_178
  · exact zmc_179
  · exact zmc_180
  · exact zmc_181
  · exact zmc_182
  · exact zmc_183
  · exact zmc_184
  · exact zmc_185
  · exact zmc_186
  · exact zmc_187
  · exact zmc_188
  · exact zmc_189
  · exact zmc_190
  · exact zmc_191
  · exact zmc_192
  · exact zmc_193
  · exact zmc_194
  · exact zmc_195
  · exact zmc_196
  · exact zmc_197
  · exact zmc_198
  · exact zmc_199
theorem zmcc_8 : ∀ mj, 200 ≤ mj → mj < 224 → zTb_has (.code (zy mj) (zb mj) (zn mj) (zr mj)) := by
  intro mj h1 h2
  have h : mj = 200 ∨ mj = 201 ∨ mj = 202 ∨ mj = 203 ∨ mj = 204 ∨ mj = 205 ∨ mj = 206 ∨ mj = 207 ∨ mj = 208 ∨ mj = 209 ∨ mj = 210 ∨ mj = 211 ∨ mj = 212 ∨ mj = 213 ∨ mj = 214 ∨ mj = 215 ∨ mj = 216 ∨ mj = 217 ∨ mj = 218 ∨ mj = 219 ∨ mj = 220 ∨ mj = 221 ∨ mj = 222 ∨ mj = 223 := by omega
  rcases h with rfl | rfl | rfl | rfl | rfl | rfl | rfl | rfl | rfl | rfl | rfl | rfl | rfl | rfl | rfl | rfl | rfl | rfl | rfl | rfl | rfl | rfl | rfl | rfl
  · exact zmc_200
  · exact zmc_201
  · exact zmc_202
  · exact zmc_203
  · exact zmc_204
  · exact zmc_205
  · exact zmc_206
  · exact zmc_207
  · exact zmc_208
  · exact zmc_209
  · exact zmc_210
  · exact zmc_211
  · exact zmc_212
  · exact zmc_213
  · exact zmc_214
  · exact zmc_215
  · exact zmc_216
  · exact zmc_217
  · exact zmc_218
  · exact zmc_219
  · exact zmc_220
  · exact zmc_221
  · exact zmc_222
  · exact zmc_223
theorem zm_code {mj : Nat} (h : mj < zMN) (h9 : zo mj ≠ 9) : Cond.code (zy mj) (zb mj) (zn mj) (zr mj) ∈ zTb := by
  have h : mj < 225 := h
  by_cases c0 : mj < 25
  · exact zTb_has_in (zmcc_0 mj (by omega) c0)
  by_cases c1 : mj < 50
  · exact zTb_has_in (zmcc_1 mj (by omega) c1)
  by_cases c2 : mj < 75
  · exact zTb_has_in (zmcc_2 mj (by omega) c2)
  by_cases c3 : mj < 100
  · exact zTb_has_in (zmcc_3 mj (by omega) c3)
  by_cases c4 : mj < 125
  · exact zTb_has_in (zmcc_4 mj (by omega) c4)
  by_cases c5 : mj < 150
  · exact zTb_has_in (zmcc_5 mj (by omega) c5)
  by_cases c6 : mj < 175
  · exact zTb_has_in (zmcc_6 mj (by omega) c6)
  by_cases c7 : mj < 200
  · exact zTb_has_in (zmcc_7 mj (by omega) c7)
  by_cases c8 : mj < 224
  · exact zTb_has_in (zmcc_8 mj (by omega) c8)
  exact absurd (by have : mj = 224 := by omega
                   subst this; rfl) h9
