theorem gm_0 : Cond.code (mY 0) (mB 0) (mL 0) (mR 0) ∈ gW := gWm (w := Cond.code (mY 0) (mB 0) (mL 0) (mR 0)) 799 (by decide +kernel) (by decide +kernel)
theorem gm_1 : Cond.code (mY 1) (mB 1) (mL 1) (mR 1) ∈ gW := gWm (w := Cond.code (mY 1) (mB 1) (mL 1) (mR 1)) 421 (by decide +kernel) (by decide +kernel)
theorem gm_2 : Cond.code (mY 2) (mB 2) (mL 2) (mR 2) ∈ gW := gWm (w := Cond.code (mY 2) (mB 2) (mL 2) (mR 2)) 647 (by decide +kernel) (by decide +kernel)
theorem gm_3 : Cond.code (mY 3) (mB 3) (mL 3) (mR 3) ∈ gW := gWm (w := Cond.code (mY 3) (mB 3) (mL 3) (mR 3)) 417 (by decide +kernel) (by decide +kernel)
theorem gm_4 : Cond.code (mY 4) (mB 4) (mL 4) (mR 4) ∈ gW := gWm (w := Cond.code (mY 4) (mB 4) (mL 4) (mR 4)) 928 (by decide +kernel) (by decide +kernel)
theorem gm_5 : Cond.code (mY 5) (mB 5) (mL 5) (mR 5) ∈ gW := gWm (w := Cond.code (mY 5) (mB 5) (mL 5) (mR 5)) 132 (by decide +kernel) (by decide +kernel)
theorem gm_6 : Cond.code (mY 6) (mB 6) (mL 6) (mR 6) ∈ gW := gWm (w := Cond.code (mY 6) (mB 6) (mL 6) (mR 6)) 662 (by decide +kernel) (by decide +kernel)
theorem gm_7 : Cond.code (mY 7) (mB 7) (mL 7) (mR 7) ∈ gW := gWm (w := Cond.code (mY 7) (mB 7) (mL 7) (mR 7)) 666 (by decide +kernel) (by decide +kernel)
theorem gm_8 : Cond.code (mY 8) (mB 8) (mL 8) (mR 8) ∈ gW := gWm (w := Cond.code (mY 8) (mB 8) (mL 8) (mR 8)) 265 (by decide +kernel) (by decide +kernel)
theorem gm_9 : Cond.code (mY 9) (mB 9) (mL 9) (mR 9) ∈ gW := gWm (w := Cond.code (mY 9) (mB 9) (mL 9) (mR 9)) 307 (by decide +kernel) (by decide +kernel)
theorem gm_10 : Cond.code (mY 10) (mB 10) (mL 10) (mR 10) ∈ gW := gWm (w := Cond.code (mY 10) (mB 10) (mL 10) (mR 10)) 560 (by decide +kernel) (by decide +kernel)
theorem gm_11 : Cond.code (mY 11) (mB 11) (mL 11) (mR 11) ∈ gW := gWm (w := Cond.code (mY 11) (mB 11) (mL 11) (mR 11)) 592 (by decide +kernel) (by decide +kernel)
theorem gm_12 : Cond.code (mY 12) (mB 12) (mL 12) (mR 12) ∈ gW := gWm (w := Cond.code (mY 12) (mB 12) (mL 12) (mR 12)) 596 (by decide +kernel) (by decide +kernel)
theorem gm_13 : Cond.code (mY 13) (mB 13) (mL 13) (mR 13) ∈ gW := gWm (w := Cond.code (mY 13) (mB 13) (mL 13) (mR 13)) 652 (by decide +kernel) (by decide +kernel)
theorem gm_14 : Cond.code (mY 14) (mB 14) (mL 14) (mR 14) ∈ gW := gWm (w := Cond.code (mY 14) (mB 14) (mL 14) (mR 14)) 657 (by decide +kernel) (by decide +kernel)
theorem gm_15 : Cond.code (mY 15) (mB 15) (mL 15) (mR 15) ∈ gW := gWm (w := Cond.code (mY 15) (mB 15) (mL 15) (mR 15)) 715 (by decide +kernel) (by decide +kernel)
theorem gm_16 : Cond.code (mY 16) (mB 16) (mL 16) (mR 16) ∈ gW := gWm (w := Cond.code (mY 16) (mB 16) (mL 16) (mR 16)) 188 (by decide +kernel) (by decide +kernel)
theorem gm_17 : Cond.code (mY 17) (mB 17) (mL 17) (mR 17) ∈ gW := gWm (w := Cond.code (mY 17) (mB 17) (mL 17) (mR 17)) 631 (by decide +kernel) (by decide +kernel)
theorem gm_18 : Cond.code (mY 18) (mB 18) (mL 18) (mR 18) ∈ gW := gWm (w := Cond.code (mY 18) (mB 18) (mL 18) (mR 18)) 178 (by decide +kernel) (by decide +kernel)
theorem gm_19 : Cond.code (mY 19) (mB 19) (mL 19) (mR 19) ∈ gW := gWm (w := Cond.code (mY 19) (mB 19) (mL 19) (mR 19)) 480 (by decide +kernel) (by decide +kernel)
theorem gm_20 : Cond.code (mY 20) (mB 20) (mL 20) (mR 20) ∈ gW := gWm (w := Cond.code (mY 20) (mB 20) (mL 20) (mR 20)) 426 (by decide +kernel) (by decide +kernel)
theorem gm_21 : Cond.code (mY 21) (mB 21) (mL 21) (mR 21) ∈ gW := gWm (w := Cond.code (mY 21) (mB 21) (mL 21) (mR 21)) 438 (by decide +kernel) (by decide +kernel)
theorem gm_22 : Cond.code (mY 22) (mB 22) (mL 22) (mR 22) ∈ gW := gWm (w := Cond.code (mY 22) (mB 22) (mL 22) (mR 22)) 442 (by decide +kernel) (by decide +kernel)
theorem gm_23 : Cond.code (mY 23) (mB 23) (mL 23) (mR 23) ∈ gW := gWm (w := Cond.code (mY 23) (mB 23) (mL 23) (mR 23)) 446 (by decide +kernel) (by decide +kernel)
theorem gm_24 : Cond.code (mY 24) (mB 24) (mL 24) (mR 24) ∈ gW := gWm (w := Cond.code (mY 24) (mB 24) (mL 24) (mR 24)) 450 (by decide +kernel) (by decide +kernel)
theorem gm_25 : Cond.code (mY 25) (mB 25) (mL 25) (mR 25) ∈ gW := gWm (w := Cond.code (mY 25) (mB 25) (mL 25) (mR 25)) 457 (by decide +kernel) (by decide +kernel)
theorem gm_26 : Cond.code (mY 26) (mB 26) (mL 26) (mR 26) ∈ gW := gWm (w := Cond.code (mY 26) (mB 26) (mL 26) (mR 26)) 472 (by decide +kernel) (by decide +kernel)
theorem gm_27 : Cond.code (mY 27) (mB 27) (mL 27) (mR 27) ∈ gW := gWm (w := Cond.code (mY 27) (mB 27) (mL 27) (mR 27)) 461 (by decide +kernel) (by decide +kernel)
theorem gm_28 : Cond.code (mY 28) (mB 28) (mL 28) (mR 28) ∈ gW := gWm (w := Cond.code (mY 28) (mB 28) (mL 28) (mR 28)) 465 (by decide +kernel) (by decide +kernel)
theorem gm_29 : Cond.code (mY 29) (mB 29) (mL 29) (mR 29) ∈ gW := gWm (w := Cond.code (mY 29) (mB 29) (mL 29) (mR 29)) 488 (by decide +kernel) (by decide +kernel)
theorem gm_30 : Cond.code (mY 30) (mB 30) (mL 30) (mR 30) ∈ gW := gWm (w := Cond.code (mY 30) (mB 30) (mL 30) (mR 30)) 627 (by decide +kernel) (by decide +kernel)
theorem gm_31 : Cond.code (mY 31) (mB 31) (mL 31) (mR 31) ∈ gW := gWm (w := Cond.code (mY 31) (mB 31) (mL 31) (mR 31)) 635 (by decide +kernel) (by decide +kernel)
theorem gm_32 : Cond.code (mY 32) (mB 32) (mL 32) (mR 32) ∈ gW := gWm (w := Cond.code (mY 32) (mB 32) (mL 32) (mR 32)) 484 (by decide +kernel) (by decide +kernel)
theorem gm_33 : Cond.code (mY 33) (mB 33) (mL 33) (mR 33) ∈ gW := gWm (w := Cond.code (mY 33) (mB 33) (mL 33) (mR 33)) 556 (by decide +kernel) (by decide +kernel)
theorem gm_34 : Cond.code (mY 34) (mB 34) (mL 34) (mR 34) ∈ gW := gWm (w := Cond.code (mY 34) (mB 34) (mL 34) (mR 34)) 492 (by decide +kernel) (by decide +kernel)
theorem gm_35 : Cond.code (mY 35) (mB 35) (mL 35) (mR 35) ∈ gW := gWm (w := Cond.code (mY 35) (mB 35) (mL 35) (mR 35)) 583 (by decide +kernel) (by decide +kernel)
theorem gm_36 : Cond.code (mY 36) (mB 36) (mL 36) (mR 36) ∈ gW := gWm (w := Cond.code (mY 36) (mB 36) (mL 36) (mR 36)) 688 (by decide +kernel) (by decide +kernel)
theorem gm_37 : Cond.code (mY 37) (mB 37) (mL 37) (mR 37) ∈ gW := gWm (w := Cond.code (mY 37) (mB 37) (mL 37) (mR 37)) 618 (by decide +kernel) (by decide +kernel)
theorem gm_38 : Cond.code (mY 38) (mB 38) (mL 38) (mR 38) ∈ gW := gWm (w := Cond.code (mY 38) (mB 38) (mL 38) (mR 38)) 314 (by decide +kernel) (by decide +kernel)
theorem gm_39 : Cond.code (mY 39) (mB 39) (mL 39) (mR 39) ∈ gW := gWm (w := Cond.code (mY 39) (mB 39) (mL 39) (mR 39)) 413 (by decide +kernel) (by decide +kernel)
theorem gm_40 : Cond.code (mY 40) (mB 40) (mL 40) (mR 40) ∈ gW := gWm (w := Cond.code (mY 40) (mB 40) (mL 40) (mR 40)) 564 (by decide +kernel) (by decide +kernel)
theorem gm_41 : Cond.code (mY 41) (mB 41) (mL 41) (mR 41) ∈ gW := gWm (w := Cond.code (mY 41) (mB 41) (mL 41) (mR 41)) 568 (by decide +kernel) (by decide +kernel)
theorem gm_42 : Cond.code (mY 42) (mB 42) (mL 42) (mR 42) ∈ gW := gWm (w := Cond.code (mY 42) (mB 42) (mL 42) (mR 42)) 600 (by decide +kernel) (by decide +kernel)
theorem gm_43 : Cond.code (mY 43) (mB 43) (mL 43) (mR 43) ∈ gW := gWm (w := Cond.code (mY 43) (mB 43) (mL 43) (mR 43)) 605 (by decide +kernel) (by decide +kernel)
theorem gm_44 : Cond.code (mY 44) (mB 44) (mL 44) (mR 44) ∈ gW := gWm (w := Cond.code (mY 44) (mB 44) (mL 44) (mR 44)) 609 (by decide +kernel) (by decide +kernel)
theorem gm_45 : Cond.code (mY 45) (mB 45) (mL 45) (mR 45) ∈ gW := gWm (w := Cond.code (mY 45) (mB 45) (mL 45) (mR 45)) 623 (by decide +kernel) (by decide +kernel)
theorem gm_46 : Cond.code (mY 46) (mB 46) (mL 46) (mR 46) ∈ gW := gWm (w := Cond.code (mY 46) (mB 46) (mL 46) (mR 46)) 670 (by decide +kernel) (by decide +kernel)
theorem gm_47 : Cond.code (mY 47) (mB 47) (mL 47) (mR 47) ∈ gW := gWm (w := Cond.code (mY 47) (mB 47) (mL 47) (mR 47)) 674 (by decide +kernel) (by decide +kernel)
theorem gm_48 : Cond.code (mY 48) (mB 48) (mL 48) (mR 48) ∈ gW := gWm (w := Cond.code (mY 48) (mB 48) (mL 48) (mR 48)) 682 (by decide +kernel) (by decide +kernel)
theorem gm_49 : Cond.code (mY 49) (mB 49) (mL 49) (mR 49) ∈ gW := gWm (w := Cond.code (mY 49) (mB 49) (mL 49) (mR 49)) 700 (by decide +kernel) (by decide +kernel)
theorem gm_50 : Cond.code (mY 50) (mB 50) (mL 50) (mR 50) ∈ gW := gWm (w := Cond.code (mY 50) (mB 50) (mL 50) (mR 50)) 704 (by decide +kernel) (by decide +kernel)
theorem gm_51 : Cond.code (mY 51) (mB 51) (mL 51) (mR 51) ∈ gW := gWm (w := Cond.code (mY 51) (mB 51) (mL 51) (mR 51)) 709 (by decide +kernel) (by decide +kernel)
theorem gm_52 : Cond.code (mY 52) (mB 52) (mL 52) (mR 52) ∈ gW := gWm (w := Cond.code (mY 52) (mB 52) (mL 52) (mR 52)) 164 (by decide +kernel) (by decide +kernel)
theorem gm_53 : Cond.code (mY 53) (mB 53) (mL 53) (mR 53) ∈ gW := gWm (w := Cond.code (mY 53) (mB 53) (mL 53) (mR 53)) 476 (by decide +kernel) (by decide +kernel)
theorem gm_54 : Cond.code (mY 54) (mB 54) (mL 54) (mR 54) ∈ gW := gWm (w := Cond.code (mY 54) (mB 54) (mL 54) (mR 54)) 430 (by decide +kernel) (by decide +kernel)
theorem gm_55 : Cond.code (mY 55) (mB 55) (mL 55) (mR 55) ∈ gW := gWm (w := Cond.code (mY 55) (mB 55) (mL 55) (mR 55)) 292 (by decide +kernel) (by decide +kernel)
theorem gm_56 : Cond.code (mY 56) (mB 56) (mL 56) (mR 56) ∈ gW := gWm (w := Cond.code (mY 56) (mB 56) (mL 56) (mR 56)) 434 (by decide +kernel) (by decide +kernel)
theorem gm_57 : Cond.code (mY 57) (mB 57) (mL 57) (mR 57) ∈ gW := gWm (w := Cond.code (mY 57) (mB 57) (mL 57) (mR 57)) 497 (by decide +kernel) (by decide +kernel)
theorem gm_58 : Cond.code (mY 58) (mB 58) (mL 58) (mR 58) ∈ gW := gWm (w := Cond.code (mY 58) (mB 58) (mL 58) (mR 58)) 614 (by decide +kernel) (by decide +kernel)
theorem gm_59 : Cond.code (mY 59) (mB 59) (mL 59) (mR 59) ∈ gW := gWm (w := Cond.code (mY 59) (mB 59) (mL 59) (mR 59)) 640 (by decide +kernel) (by decide +kernel)
theorem gm_60 : Cond.code (mY 60) (mB 60) (mL 60) (mR 60) ∈ gW := gWm (w := Cond.code (mY 60) (mB 60) (mL 60) (mR 60)) 572 (by decide +kernel) (by decide +kernel)
theorem gm_61 : Cond.code (mY 61) (mB 61) (mL 61) (mR 61) ∈ gW := gWm (w := Cond.code (mY 61) (mB 61) (mL 61) (mR 61)) 576 (by decide +kernel) (by decide +kernel)
theorem gm_62 : Cond.code (mY 62) (mB 62) (mL 62) (mR 62) ∈ gW := gWm (w := Cond.code (mY 62) (mB 62) (mL 62) (mR 62)) 678 (by decide +kernel) (by decide +kernel)
theorem gm_63 : Cond.code (mY 63) (mB 63) (mL 63) (mR 63) ∈ gW := gWm (w := Cond.code (mY 63) (mB 63) (mL 63) (mR 63)) 502 (by decide +kernel) (by decide +kernel)
theorem gm_64 : Cond.code (mY 64) (mB 64) (mL 64) (mR 64) ∈ gW := gWm (w := Cond.code (mY 64) (mB 64) (mL 64) (mR 64)) 300 (by decide +kernel) (by decide +kernel)
theorem gm_65 : Cond.code (mY 65) (mB 65) (mL 65) (mR 65) ∈ gW := gWm (w := Cond.code (mY 65) (mB 65) (mL 65) (mR 65)) 296 (by decide +kernel) (by decide +kernel)
theorem gm_66 : Cond.code (mY 66) (mB 66) (mL 66) (mR 66) ∈ gW := gWm (w := Cond.code (mY 66) (mB 66) (mL 66) (mR 66)) 98 (by decide +kernel) (by decide +kernel)
theorem gm_67 : Cond.code (mY 67) (mB 67) (mL 67) (mR 67) ∈ gW := gWm (w := Cond.code (mY 67) (mB 67) (mL 67) (mR 67)) 727 (by decide +kernel) (by decide +kernel)
theorem gm_68 : Cond.code (mY 68) (mB 68) (mL 68) (mR 68) ∈ gW := gWm (w := Cond.code (mY 68) (mB 68) (mL 68) (mR 68)) 836 (by decide +kernel) (by decide +kernel)
theorem gm_69 : Cond.code (mY 69) (mB 69) (mL 69) (mR 69) ∈ gW := gWm (w := Cond.code (mY 69) (mB 69) (mL 69) (mR 69)) 892 (by decide +kernel) (by decide +kernel)
theorem gm_70 : Cond.code (mY 70) (mB 70) (mL 70) (mR 70) ∈ gW := gWm (w := Cond.code (mY 70) (mB 70) (mL 70) (mR 70)) 916 (by decide +kernel) (by decide +kernel)
theorem gm_71 : Cond.code (mY 71) (mB 71) (mL 71) (mR 71) ∈ gW := gWm (w := Cond.code (mY 71) (mB 71) (mL 71) (mR 71)) 924 (by decide +kernel) (by decide +kernel)
theorem gm_72 : Cond.code (mY 72) (mB 72) (mL 72) (mR 72) ∈ gW := gWm (w := Cond.code (mY 72) (mB 72) (mL 72) (mR 72)) 935 (by decide +kernel) (by decide +kernel)
theorem gm_73 : Cond.code (mY 73) (mB 73) (mL 73) (mR 73) ∈ gW := gWm (w := Cond.code (mY 73) (mB 73) (mL 73) (mR 73)) 261 (by decide +kernel) (by decide +kernel)
theorem gm_74 : Cond.code (mY 74) (mB 74) (mL 74) (mR 74) ∈ gW := gWm (w := Cond.code (mY 74) (mB 74) (mL 74) (mR 74)) 943 (by decide +kernel) (by decide +kernel)
theorem gm_75 : Cond.code (mY 75) (mB 75) (mL 75) (mR 75) ∈ gW := gWm (w := Cond.code (mY 75) (mB 75) (mL 75) (mR 75)) 955 (by decide +kernel) (by decide +kernel)
theorem gm_76 : Cond.code (mY 76) (mB 76) (mL 76) (mR 76) ∈ gW := gWm (w := Cond.code (mY 76) (mB 76) (mL 76) (mR 76)) 962 (by decide +kernel) (by decide +kernel)
theorem gm_77 : Cond.code (mY 77) (mB 77) (mL 77) (mR 77) ∈ gW := gWm (w := Cond.code (mY 77) (mB 77) (mL 77) (mR 77)) 980 (by decide +kernel) (by decide +kernel)
theorem gm_78 : Cond.code (mY 78) (mB 78) (mL 78) (mR 78) ∈ gW := gWm (w := Cond.code (mY 78) (mB 78) (mL 78) (mR 78)) 988 (by decide +kernel) (by decide +kernel)
theorem gm_79 : Cond.code (mY 79) (mB 79) (mL 79) (mR 79) ∈ gW := gWm (w := Cond.code (mY 79) (mB 79) (mL 79) (mR 79)) 1004 (by decide +kernel) (by decide +kernel)
theorem gm_80 : Cond.code (mY 80) (mB 80) (mL 80) (mR 80) ∈ gW := gWm (w := Cond.code (mY 80) (mB 80) (mL 80) (mR 80)) 1011 (by decide +kernel) (by decide +kernel)
theorem gm_81 : Cond.code (mY 81) (mB 81) (mL 81) (mR 81) ∈ gW := gWm (w := Cond.code (mY 81) (mB 81) (mL 81) (mR 81)) 840 (by decide +kernel) (by decide +kernel)
theorem gm_82 : Cond.code (mY 82) (mB 82) (mL 82) (mR 82) ∈ gW := gWm (w := Cond.code (mY 82) (mB 82) (mL 82) (mR 82)) 947 (by decide +kernel) (by decide +kernel)
theorem gm_83 : Cond.code (mY 83) (mB 83) (mL 83) (mR 83) ∈ gW := gWm (w := Cond.code (mY 83) (mB 83) (mL 83) (mR 83)) 288 (by decide +kernel) (by decide +kernel)
theorem gm_84 : Cond.code (mY 84) (mB 84) (mL 84) (mR 84) ∈ gW := gWm (w := Cond.code (mY 84) (mB 84) (mL 84) (mR 84)) 992 (by decide +kernel) (by decide +kernel)
theorem gm_85 : Cond.code (mY 85) (mB 85) (mL 85) (mR 85) ∈ gW := gWm (w := Cond.code (mY 85) (mB 85) (mL 85) (mR 85)) 971 (by decide +kernel) (by decide +kernel)
theorem gm_86 : Cond.code (mY 86) (mB 86) (mL 86) (mR 86) ∈ gW := gWm (w := Cond.code (mY 86) (mB 86) (mL 86) (mR 86)) 859 (by decide +kernel) (by decide +kernel)
theorem gm_87 : Cond.code (mY 87) (mB 87) (mL 87) (mR 87) ∈ gW := gWm (w := Cond.code (mY 87) (mB 87) (mL 87) (mR 87)) 862 (by decide +kernel) (by decide +kernel)
theorem gm_88 : Cond.code (mY 88) (mB 88) (mL 88) (mR 88) ∈ gW := gWm (w := Cond.code (mY 88) (mB 88) (mL 88) (mR 88)) 865 (by decide +kernel) (by decide +kernel)
theorem gm_89 : Cond.code (mY 89) (mB 89) (mL 89) (mR 89) ∈ gW := gWm (w := Cond.code (mY 89) (mB 89) (mL 89) (mR 89)) 468 (by decide +kernel) (by decide +kernel)
theorem gm_90 : Cond.code (mY 90) (mB 90) (mL 90) (mR 90) ∈ gW := gWm (w := Cond.code (mY 90) (mB 90) (mL 90) (mR 90)) 505 (by decide +kernel) (by decide +kernel)
theorem gm_91 : Cond.code (mY 91) (mB 91) (mL 91) (mR 91) ∈ gW := gWm (w := Cond.code (mY 91) (mB 91) (mL 91) (mR 91)) 1017 (by decide +kernel) (by decide +kernel)
theorem gm_92 : Cond.code (mY 92) (mB 92) (mL 92) (mR 92) ∈ gW := gWm (w := Cond.code (mY 92) (mB 92) (mL 92) (mR 92)) 1137 (by decide +kernel) (by decide +kernel)
theorem gm_93 : Cond.code (mY 93) (mB 93) (mL 93) (mR 93) ∈ gW := gWm (w := Cond.code (mY 93) (mB 93) (mL 93) (mR 93)) 1155 (by decide +kernel) (by decide +kernel)
theorem gm_94 : Cond.code (mY 94) (mB 94) (mL 94) (mR 94) ∈ gW := gWm (w := Cond.code (mY 94) (mB 94) (mL 94) (mR 94)) 1141 (by decide +kernel) (by decide +kernel)
theorem gm_95 : Cond.code (mY 95) (mB 95) (mL 95) (mR 95) ∈ gW := gWm (w := Cond.code (mY 95) (mB 95) (mL 95) (mR 95)) 1151 (by decide +kernel) (by decide +kernel)
theorem gm_96 : Cond.code (mY 96) (mB 96) (mL 96) (mR 96) ∈ gW := gWm (w := Cond.code (mY 96) (mB 96) (mL 96) (mR 96)) 1148 (by decide +kernel) (by decide +kernel)
theorem gm_97 : Cond.code (mY 97) (mB 97) (mL 97) (mR 97) ∈ gW := gWm (w := Cond.code (mY 97) (mB 97) (mL 97) (mR 97)) 1158 (by decide +kernel) (by decide +kernel)
theorem gm_98 : Cond.code (mY 98) (mB 98) (mL 98) (mR 98) ∈ gW := gWm (w := Cond.code (mY 98) (mB 98) (mL 98) (mR 98)) 1145 (by decide +kernel) (by decide +kernel)
theorem gm_99 : Cond.code (mY 99) (mB 99) (mL 99) (mR 99) ∈ gW := gWm (w := Cond.code (mY 99) (mB 99) (mL 99) (mR 99)) 1162 (by decide +kernel) (by decide +kernel)
theorem gm_100 : Cond.code (mY 100) (mB 100) (mL 100) (mR 100) ∈ gW := gWm (w := Cond.code (mY 100) (mB 100) (mL 100) (mR 100)) 1166 (by decide +kernel) (by decide +kernel)
theorem gm_101 : Cond.code (mY 101) (mB 101) (mL 101) (mR 101) ∈ gW := gWm (w := Cond.code (mY 101) (mB 101) (mL 101) (mR 101)) 1170 (by decide +kernel) (by decide +kernel)
theorem gm_102 : Cond.code (mY 102) (mB 102) (mL 102) (mR 102) ∈ gW := gWm (w := Cond.code (mY 102) (mB 102) (mL 102) (mR 102)) 1174 (by decide +kernel) (by decide +kernel)
theorem gm_103 : Cond.code (mY 103) (mB 103) (mL 103) (mR 103) ∈ gW := gWm (w := Cond.code (mY 103) (mB 103) (mL 103) (mR 103)) 1202 (by decide +kernel) (by decide +kernel)
theorem gm_104 : Cond.code (mY 104) (mB 104) (mL 104) (mR 104) ∈ gW := gWm (w := Cond.code (mY 104) (mB 104) (mL 104) (mR 104)) 1186 (by decide +kernel) (by decide +kernel)
theorem gm_105 : Cond.code (mY 105) (mB 105) (mL 105) (mR 105) ∈ gW := gWm (w := Cond.code (mY 105) (mB 105) (mL 105) (mR 105)) 1240 (by decide +kernel) (by decide +kernel)
theorem gm_106 : Cond.code (mY 106) (mB 106) (mL 106) (mR 106) ∈ gW := gWm (w := Cond.code (mY 106) (mB 106) (mL 106) (mR 106)) 1213 (by decide +kernel) (by decide +kernel)
theorem gm_107 : Cond.code (mY 107) (mB 107) (mL 107) (mR 107) ∈ gW := gWm (w := Cond.code (mY 107) (mB 107) (mL 107) (mR 107)) 1210 (by decide +kernel) (by decide +kernel)
theorem gm_108 : Cond.code (mY 108) (mB 108) (mL 108) (mR 108) ∈ gW := gWm (w := Cond.code (mY 108) (mB 108) (mL 108) (mR 108)) 1217 (by decide +kernel) (by decide +kernel)
theorem gm_109 : Cond.code (mY 109) (mB 109) (mL 109) (mR 109) ∈ gW := gWm (w := Cond.code (mY 109) (mB 109) (mL 109) (mR 109)) 1206 (by decide +kernel) (by decide +kernel)
theorem gm_110 : Cond.code (mY 110) (mB 110) (mL 110) (mR 110) ∈ gW := gWm (w := Cond.code (mY 110) (mB 110) (mL 110) (mR 110)) 1198 (by decide +kernel) (by decide +kernel)
theorem gm_111 : Cond.code (mY 111) (mB 111) (mL 111) (mR 111) ∈ gW := gWm (w := Cond.code (mY 111) (mB 111) (mL 111) (mR 111)) 1229 (by decide +kernel) (by decide +kernel)
theorem gm_112 : Cond.code (mY 112) (mB 112) (mL 112) (mR 112) ∈ gW := gWm (w := Cond.code (mY 112) (mB 112) (mL 112) (mR 112)) 1285 (by decide +kernel) (by decide +kernel)
theorem gm_113 : Cond.code (mY 113) (mB 113) (mL 113) (mR 113) ∈ gW := gWm (w := Cond.code (mY 113) (mB 113) (mL 113) (mR 113)) 1248 (by decide +kernel) (by decide +kernel)
theorem gm_114 : Cond.code (mY 114) (mB 114) (mL 114) (mR 114) ∈ gW := gWm (w := Cond.code (mY 114) (mB 114) (mL 114) (mR 114)) 1268 (by decide +kernel) (by decide +kernel)
theorem gm_115 : Cond.code (mY 115) (mB 115) (mL 115) (mR 115) ∈ gW := gWm (w := Cond.code (mY 115) (mB 115) (mL 115) (mR 115)) 1225 (by decide +kernel) (by decide +kernel)
theorem gm_116 : Cond.code (mY 116) (mB 116) (mL 116) (mR 116) ∈ gW := gWm (w := Cond.code (mY 116) (mB 116) (mL 116) (mR 116)) 1276 (by decide +kernel) (by decide +kernel)
theorem gm_117 : Cond.code (mY 117) (mB 117) (mL 117) (mR 117) ∈ gW := gWm (w := Cond.code (mY 117) (mB 117) (mL 117) (mR 117)) 1280 (by decide +kernel) (by decide +kernel)
theorem gm_118 : Cond.code (mY 118) (mB 118) (mL 118) (mR 118) ∈ gW := gWm (w := Cond.code (mY 118) (mB 118) (mL 118) (mR 118)) 1260 (by decide +kernel) (by decide +kernel)
theorem gm_119 : Cond.code (mY 119) (mB 119) (mL 119) (mR 119) ∈ gW := gWm (w := Cond.code (mY 119) (mB 119) (mL 119) (mR 119)) 1233 (by decide +kernel) (by decide +kernel)
theorem gm_120 : Cond.code (mY 120) (mB 120) (mL 120) (mR 120) ∈ gW := gWm (w := Cond.code (mY 120) (mB 120) (mL 120) (mR 120)) 1237 (by decide +kernel) (by decide +kernel)
theorem gm_121 : Cond.code (mY 121) (mB 121) (mL 121) (mR 121) ∈ gW := gWm (w := Cond.code (mY 121) (mB 121) (mL 121) (mR 121)) 1221 (by decide +kernel) (by decide +kernel)
theorem gm_122 : Cond.code (mY 122) (mB 122) (mL 122) (mR 122) ∈ gW := gWm (w := Cond.code (mY 122) (mB 122) (mL 122) (mR 122)) 1194 (by decide +kernel) (by decide +kernel)
theorem gm_123 : Cond.code (mY 123) (mB 123) (mL 123) (mR 123) ∈ gW := gWm (w := Cond.code (mY 123) (mB 123) (mL 123) (mR 123)) 1244 (by decide +kernel) (by decide +kernel)
theorem gm_124 : Cond.code (mY 124) (mB 124) (mL 124) (mR 124) ∈ gW := gWm (w := Cond.code (mY 124) (mB 124) (mL 124) (mR 124)) 1190 (by decide +kernel) (by decide +kernel)
theorem gm_125 : Cond.code (mY 125) (mB 125) (mL 125) (mR 125) ∈ gW := gWm (w := Cond.code (mY 125) (mB 125) (mL 125) (mR 125)) 1182 (by decide +kernel) (by decide +kernel)
theorem gm_126 : Cond.code (mY 126) (mB 126) (mL 126) (mR 126) ∈ gW := gWm (w := Cond.code (mY 126) (mB 126) (mL 126) (mR 126)) 1256 (by decide +kernel) (by decide +kernel)
theorem gm_127 : Cond.code (mY 127) (mB 127) (mL 127) (mR 127) ∈ gW := gWm (w := Cond.code (mY 127) (mB 127) (mL 127) (mR 127)) 1264 (by decide +kernel) (by decide +kernel)
theorem gm_128 : Cond.code (mY 128) (mB 128) (mL 128) (mR 128) ∈ gW := gWm (w := Cond.code (mY 128) (mB 128) (mL 128) (mR 128)) 1272 (by decide +kernel) (by decide +kernel)
theorem gm_129 : Cond.code (mY 129) (mB 129) (mL 129) (mR 129) ∈ gW := gWm (w := Cond.code (mY 129) (mB 129) (mL 129) (mR 129)) 1252 (by decide +kernel) (by decide +kernel)
theorem gm_130 : Cond.code (mY 130) (mB 130) (mL 130) (mR 130) ∈ gW := gWm (w := Cond.code (mY 130) (mB 130) (mL 130) (mR 130)) 1295 (by decide +kernel) (by decide +kernel)
theorem gm_131 : Cond.code (mY 131) (mB 131) (mL 131) (mR 131) ∈ gW := gWm (w := Cond.code (mY 131) (mB 131) (mL 131) (mR 131)) 1291 (by decide +kernel) (by decide +kernel)
theorem gm_132 : Cond.code (mY 132) (mB 132) (mL 132) (mR 132) ∈ gW := gWm (w := Cond.code (mY 132) (mB 132) (mL 132) (mR 132)) 1311 (by decide +kernel) (by decide +kernel)
theorem gm_133 : Cond.code (mY 133) (mB 133) (mL 133) (mR 133) ∈ gW := gWm (w := Cond.code (mY 133) (mB 133) (mL 133) (mR 133)) 1315 (by decide +kernel) (by decide +kernel)
theorem gm_134 : Cond.code (mY 134) (mB 134) (mL 134) (mR 134) ∈ gW := gWm (w := Cond.code (mY 134) (mB 134) (mL 134) (mR 134)) 1307 (by decide +kernel) (by decide +kernel)
theorem gm_135 : Cond.code (mY 135) (mB 135) (mL 135) (mR 135) ∈ gW := gWm (w := Cond.code (mY 135) (mB 135) (mL 135) (mR 135)) 1320 (by decide +kernel) (by decide +kernel)
theorem gm_136 : Cond.code (mY 136) (mB 136) (mL 136) (mR 136) ∈ gW := gWm (w := Cond.code (mY 136) (mB 136) (mL 136) (mR 136)) 1324 (by decide +kernel) (by decide +kernel)
theorem gm_137 : Cond.code (mY 137) (mB 137) (mL 137) (mR 137) ∈ gW := gWm (w := Cond.code (mY 137) (mB 137) (mL 137) (mR 137)) 1303 (by decide +kernel) (by decide +kernel)
theorem gm_138 : Cond.code (mY 138) (mB 138) (mL 138) (mR 138) ∈ gW := gWm (w := Cond.code (mY 138) (mB 138) (mL 138) (mR 138)) 1299 (by decide +kernel) (by decide +kernel)
theorem gm_139 : Cond.code (mY 139) (mB 139) (mL 139) (mR 139) ∈ gW := gWm (w := Cond.code (mY 139) (mB 139) (mL 139) (mR 139)) 1334 (by decide +kernel) (by decide +kernel)
theorem gm_140 : Cond.code (mY 140) (mB 140) (mL 140) (mR 140) ∈ gW := gWm (w := Cond.code (mY 140) (mB 140) (mL 140) (mR 140)) 1330 (by decide +kernel) (by decide +kernel)
theorem gm_141 : Cond.code (mY 141) (mB 141) (mL 141) (mR 141) ∈ gW := gWm (w := Cond.code (mY 141) (mB 141) (mL 141) (mR 141)) 1178 (by decide +kernel) (by decide +kernel)
theorem gm_142 : Cond.code (mY 142) (mB 142) (mL 142) (mR 142) ∈ gW := gWm (w := Cond.code (mY 142) (mB 142) (mL 142) (mR 142)) 1342 (by decide +kernel) (by decide +kernel)
theorem gm_143 : Cond.code (mY 143) (mB 143) (mL 143) (mR 143) ∈ gW := gWm (w := Cond.code (mY 143) (mB 143) (mL 143) (mR 143)) 1338 (by decide +kernel) (by decide +kernel)
theorem gm_144 : Cond.code (mY 144) (mB 144) (mL 144) (mR 144) ∈ gW := gWm (w := Cond.code (mY 144) (mB 144) (mL 144) (mR 144)) 1346 (by decide +kernel) (by decide +kernel)
theorem gm_145 : Cond.code (mY 145) (mB 145) (mL 145) (mR 145) ∈ gW := gWm (w := Cond.code (mY 145) (mB 145) (mL 145) (mR 145)) 1350 (by decide +kernel) (by decide +kernel)
theorem gm_146 : Cond.code (mY 146) (mB 146) (mL 146) (mR 146) ∈ gW := gWm (w := Cond.code (mY 146) (mB 146) (mL 146) (mR 146)) 1354 (by decide +kernel) (by decide +kernel)
theorem gm_147 : Cond.code (mY 147) (mB 147) (mL 147) (mR 147) ∈ gW := gWm (w := Cond.code (mY 147) (mB 147) (mL 147) (mR 147)) 1358 (by decide +kernel) (by decide +kernel)
theorem gm_148 : Cond.code (mY 148) (mB 148) (mL 148) (mR 148) ∈ gW := gWm (w := Cond.code (mY 148) (mB 148) (mL 148) (mR 148)) 1364 (by decide +kernel) (by decide +kernel)
theorem gm_149 : Cond.code (mY 149) (mB 149) (mL 149) (mR 149) ∈ gW := gWm (w := Cond.code (mY 149) (mB 149) (mL 149) (mR 149)) 1368 (by decide +kernel) (by decide +kernel)
theorem gm_150 : Cond.code (mY 150) (mB 150) (mL 150) (mR 150) ∈ gW := gWm (w := Cond.code (mY 150) (mB 150) (mL 150) (mR 150)) 510 (by decide +kernel) (by decide +kernel)
theorem gm_151 : Cond.code (mY 151) (mB 151) (mL 151) (mR 151) ∈ gW := gWm (w := Cond.code (mY 151) (mB 151) (mL 151) (mR 151)) 520 (by decide +kernel) (by decide +kernel)
theorem gm_152 : Cond.code (mY 152) (mB 152) (mL 152) (mR 152) ∈ gW := gWm (w := Cond.code (mY 152) (mB 152) (mL 152) (mR 152)) 514 (by decide +kernel) (by decide +kernel)
theorem gm_153 : Cond.code (mY 153) (mB 153) (mL 153) (mR 153) ∈ gW := gWm (w := Cond.code (mY 153) (mB 153) (mL 153) (mR 153)) 524 (by decide +kernel) (by decide +kernel)
theorem gm_154 : Cond.code (mY 154) (mB 154) (mL 154) (mR 154) ∈ gW := gWm (w := Cond.code (mY 154) (mB 154) (mL 154) (mR 154)) 530 (by decide +kernel) (by decide +kernel)
theorem gm_155 : Cond.code (mY 155) (mB 155) (mL 155) (mR 155) ∈ gW := gWm (w := Cond.code (mY 155) (mB 155) (mL 155) (mR 155)) 527 (by decide +kernel) (by decide +kernel)
theorem gm_156 : Cond.code (mY 156) (mB 156) (mL 156) (mR 156) ∈ gW := gWm (w := Cond.code (mY 156) (mB 156) (mL 156) (mR 156)) 112 (by decide +kernel) (by decide +kernel)
theorem gm_157 : Cond.code (mY 157) (mB 157) (mL 157) (mR 157) ∈ gW := gWm (w := Cond.code (mY 157) (mB 157) (mL 157) (mR 157)) 109 (by decide +kernel) (by decide +kernel)
theorem gm_158 : Cond.code (mY 158) (mB 158) (mL 158) (mR 158) ∈ gW := gWm (w := Cond.code (mY 158) (mB 158) (mL 158) (mR 158)) 106 (by decide +kernel) (by decide +kernel)
theorem gm_159 : Cond.code (mY 159) (mB 159) (mL 159) (mR 159) ∈ gW := gWm (w := Cond.code (mY 159) (mB 159) (mL 159) (mR 159)) 367 (by decide +kernel) (by decide +kernel)
theorem gm_160 : Cond.code (mY 160) (mB 160) (mL 160) (mR 160) ∈ gW := gWm (w := Cond.code (mY 160) (mB 160) (mL 160) (mR 160)) 363 (by decide +kernel) (by decide +kernel)
theorem gm_161 : Cond.code (mY 161) (mB 161) (mL 161) (mR 161) ∈ gW := gWm (w := Cond.code (mY 161) (mB 161) (mL 161) (mR 161)) 269 (by decide +kernel) (by decide +kernel)
theorem gm_162 : Cond.code (mY 162) (mB 162) (mL 162) (mR 162) ∈ gW := gWm (w := Cond.code (mY 162) (mB 162) (mL 162) (mR 162)) 283 (by decide +kernel) (by decide +kernel)
theorem gm_163 : Cond.code (mY 163) (mB 163) (mL 163) (mR 163) ∈ gW := gWm (w := Cond.code (mY 163) (mB 163) (mL 163) (mR 163)) 273 (by decide +kernel) (by decide +kernel)
theorem gm_164 : Cond.code (mY 164) (mB 164) (mL 164) (mR 164) ∈ gW := gWm (w := Cond.code (mY 164) (mB 164) (mL 164) (mR 164)) 588 (by decide +kernel) (by decide +kernel)
theorem gm_165 : Cond.code (mY 165) (mB 165) (mL 165) (mR 165) ∈ gW := gWm (w := Cond.code (mY 165) (mB 165) (mL 165) (mR 165)) 359 (by decide +kernel) (by decide +kernel)
theorem gm_166 : Cond.code (mY 166) (mB 166) (mL 166) (mR 166) ∈ gW := gWm (w := Cond.code (mY 166) (mB 166) (mL 166) (mR 166)) 355 (by decide +kernel) (by decide +kernel)
theorem gm_167 : Cond.code (mY 167) (mB 167) (mL 167) (mR 167) ∈ gW := gWm (w := Cond.code (mY 167) (mB 167) (mL 167) (mR 167)) 380 (by decide +kernel) (by decide +kernel)
theorem gm_168 : Cond.code (mY 168) (mB 168) (mL 168) (mR 168) ∈ gW := gWm (w := Cond.code (mY 168) (mB 168) (mL 168) (mR 168)) 400 (by decide +kernel) (by decide +kernel)
theorem gm_169 : Cond.code (mY 169) (mB 169) (mL 169) (mR 169) ∈ gW := gWm (w := Cond.code (mY 169) (mB 169) (mL 169) (mR 169)) 276 (by decide +kernel) (by decide +kernel)
theorem gm_170 : Cond.code (mY 170) (mB 170) (mL 170) (mR 170) ∈ gW := gWm (w := Cond.code (mY 170) (mB 170) (mL 170) (mR 170)) 370 (by decide +kernel) (by decide +kernel)
theorem gm_171 : Cond.code (mY 171) (mB 171) (mL 171) (mR 171) ∈ gW := gWm (w := Cond.code (mY 171) (mB 171) (mL 171) (mR 171)) 279 (by decide +kernel) (by decide +kernel)
theorem mC_ok : ∀ k, k < 172 → Cond.code (mY k) (mB k) (mL k) (mR k) ∈ gW := by
  intro k hk
  match k, hk with
  | 0, _ => exact gm_0
  | 1, _ => exact gm_1
  | 2, _ => exact gm_2
  | 3, _ => exact gm_3
  | 4, _ => exact gm_4
  | 5, _ => exact gm_5
  | 6, _ => exact gm_6
  | 7, _ => exact gm_7
  | 8, _ => exact gm_8
  | 9, _ => exact gm_9
  | 10, _ => exact gm_10
  | 11, _ => exact gm_11
  | 12, _ => exact gm_12
  | 13, _ => exact gm_13
  | 14, _ => exact gm_14
  | 15, _ => exact gm_15
  | 16, _ => exact gm_16
  | 17, _ => exact gm_17
  | 18, _ => exact gm_18
  | 19, _ => exact gm_19
  | 20, _ => exact gm_20
  | 21, _ => exact gm_21
  | 22, _ => exact gm_22
  | 23, _ => exact gm_23
  | 24, _ => exact gm_24
  | 25, _ => exact gm_25
  | 26, _ => exact gm_26
  | 27, _ => exact gm_27
  | 28, _ => exact gm_28
  | 29, _ => exact gm_29
  | 30, _ => exact gm_30
  | 31, _ => exact gm_31
  | 32, _ => exact gm_32
  | 33, _ => exact gm_33
  | 34, _ => exact gm_34
  | 35, _ => exact gm_35
  | 36, _ => exact gm_36
  | 37, _ => exact gm_37
  | 38, _ => exact gm_38
  | 39, _ => exact gm_39
  | 40, _ => exact gm_40
  | 41, _ => exact gm_41
  | 42, _ => exact gm_42
  | 43, _ => exact gm_43
  | 44, _ => exact gm_44
  | 45, _ => exact gm_45
  | 46, _ => exact gm_46
  | 47, _ => exact gm_47
  | 48, _ => exact gm_48
  | 49, _ => exact gm_49
  | 50, _ => exact gm_50
  | 51, _ => exact gm_51
  | 52, _ => exact gm_52
  | 53, _ => exact gm_53
  | 54, _ => exact gm_54
  | 55, _ => exact gm_55
  | 56, _ => exact gm_56
  | 57, _ => exact gm_57
  | 58, _ => exact gm_58
  | 59, _ => exact gm_59
  | 60, _ => exact gm_60
  | 61, _ => exact gm_61
  | 62, _ => exact gm_62
  | 63, _ => exact gm_63
  | 64, _ => exact gm_64
  | 65, _ => exact gm_65
  | 66, _ => exact gm_66
  | 67, _ => exact gm_67
  | 68, _ => exact gm_68
  | 69, _ => exact gm_69
  | 70, _ => exact gm_70
  | 71, _ => exact gm_71
  | 72, _ => exact gm_72
  | 73, _ => exact gm_73
  | 74, _ => exact gm_74
  | 75, _ => exact gm_75
  | 76, _ => exact gm_76
  | 77, _ => exact gm_77
  | 78, _ => exact gm_78
  | 79, _ => exact gm_79
  | 80, _ => exact gm_80
  | 81, _ => exact gm_81
  | 82, _ => exact gm_82
  | 83, _ => exact gm_83
  | 84, _ => exact gm_84
  | 85, _ => exact gm_85
  | 86, _ => exact gm_86
  | 87, _ => exact gm_87
  | 88, _ => exact gm_88
  | 89, _ => exact gm_89
  | 90, _ => exact gm_90
  | 91, _ => exact gm_91
  | 92, _ => exact gm_92
  | 93, _ => exact gm_93
  | 94, _ => exact gm_94
  | 95, _ => exact gm_95
  | 96, _ => exact gm_96
  | 97, _ => exact gm_97
  | 98, _ => exact gm_98
  | 99, _ => exact gm_99
  | 100, _ => exact gm_100
  | 101, _ => exact gm_101
  | 102, _ => exact gm_102
  | 103, _ => exact gm_103
  | 104, _ => exact gm_104
  | 105, _ => exact gm_105
  | 106, _ => exact gm_106
  | 107, _ => exact gm_107
  | 108, _ => exact gm_108
  | 109, _ => exact gm_109
  | 110, _ => exact gm_110
  | 111, _ => exact gm_111
  | 112, _ => exact gm_112
  | 113, _ => exact gm_113
  | 114, _ => exact gm_114
  | 115, _ => exact gm_115
  | 116, _ => exact gm_116
  | 117, _ => exact gm_117
  | 118, _ => exact gm_118
  | 119, _ => exact gm_119
  | 120, _ => exact gm_120
  | 121, _ => exact gm_121
  | 122, _ => exact gm_122
  | 123, _ => exact gm_123
  | 124, _ => exact gm_124
  | 125, _ => exact gm_125
  | 126, _ => exact gm_126
  | 127, _ => exact gm_127
  | 128, _ => exact gm_128
  | 129, _ => exact gm_129
  | 130, _ => exact gm_130
  | 131, _ => exact gm_131
  | 132, _ => exact gm_132
  | 133, _ => exact gm_133
  | 134, _ => exact gm_134
  | 135, _ => exact gm_135
  | 136, _ => exact gm_136
  | 137, _ => exact gm_137
  | 138, _ => exact gm_138
  | 139, _ => exact gm_139
  | 140, _ => exact gm_140
  | 141, _ => exact gm_141
  | 142, _ => exact gm_142
  | 143, _ => exact gm_143
  | 144, _ => exact gm_144
  | 145, _ => exact gm_145
  | 146, _ => exact gm_146
  | 147, _ => exact gm_147
  | 148, _ => exact gm_148
  | 149, _ => exact gm_149
  | 150, _ => exact gm_150
  | 151, _ => exact gm_151
  | 152, _ => exact gm_152
  | 153, _ => exact gm_153
  | 154, _ => exact gm_154
  | 155, _ => exact gm_155
  | 156, _ => exact gm_156
  | 157, _ => exact gm_157
  | 158, _ => exact gm_158
  | 159, _ => exact gm_159
  | 160, _ => exact gm_160
  | 161, _ => exact gm_161
  | 162, _ => exact gm_162
  | 163, _ => exact gm_163
  | 164, _ => exact gm_164
  | 165, _ => exact gm_165
  | 166, _ => exact gm_166
  | 167, _ => exact gm_167
  | 168, _ => exact gm_168
  | 169, _ => exact gm_169
  | 170, _ => exact gm_170
  | 171, _ => exact gm_171
  | n + 172, h => exact absurd h (by omega)
