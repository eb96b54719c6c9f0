def ip_pi (i : Nat) : Nat := (cond (Nat.blt i 94) (cond (Nat.blt i 47) (cond (Nat.blt i 23) (cond (Nat.blt i 11) (cond (Nat.blt i 5) (cond (Nat.blt i 2) (cond (Nat.blt i 1) 1 1) (cond (Nat.blt i 3) 3 (cond (Nat.blt i 4) 2 2))) (cond (Nat.blt i 8) (cond (Nat.blt i 6) 2 (cond (Nat.blt i 7) 8 2)) (cond (Nat.blt i 9) 2 (cond (Nat.blt i 10) 2 2)))) (cond (Nat.blt i 17) (cond (Nat.blt i 14) (cond (Nat.blt i 12) 2 (cond (Nat.blt i 13) 2 2)) (cond (Nat.blt i 15) 2 (cond (Nat.blt i 16) 2 1))) (cond (Nat.blt i 20) (cond (Nat.blt i 18) 1 (cond (Nat.blt i 19) 1 1)) (cond (Nat.blt i 21) 1 (cond (Nat.blt i 22) 2 4))))) (cond (Nat.blt i 35) (cond (Nat.blt i 29) (cond (Nat.blt i 26) (cond (Nat.blt i 24) 5 (cond (Nat.blt i 25) 5 5)) (cond (Nat.blt i 27) 1 (cond (Nat.blt i 28) 2 3))) (cond (Nat.blt i 32) (cond (Nat.blt i 30) 1 (cond (Nat.blt i 31) 1 9)) (cond (Nat.blt i 33) 1 (cond (Nat.blt i 34) 1 1)))) (cond (Nat.blt i 41) (cond (Nat.blt i 38) (cond (Nat.blt i 36) 1 (cond (Nat.blt i 37) 1 1)) (cond (Nat.blt i 39) 1 (cond (Nat.blt i 40) 1 1))) (cond (Nat.blt i 44) (cond (Nat.blt i 42) 1 (cond (Nat.blt i 43) 1 1)) (cond (Nat.blt i 45) 1 (cond (Nat.blt i 46) 5 1)))))) (cond (Nat.blt i 70) (cond (Nat.blt i 58) (cond (Nat.blt i 52) (cond (Nat.blt i 49) (cond (Nat.blt i 48) 1 1) (cond (Nat.blt i 50) 1 (cond (Nat.blt i 51) 6 6))) (cond (Nat.blt i 55) (cond (Nat.blt i 53) 6 (cond (Nat.blt i 54) 8 6)) (cond (Nat.blt i 56) 6 (cond (Nat.blt i 57) 6 1)))) (cond (Nat.blt i 64) (cond (Nat.blt i 61) (cond (Nat.blt i 59) 10 (cond (Nat.blt i 60) 1 1)) (cond (Nat.blt i 62) 1 (cond (Nat.blt i 63) 1 4))) (cond (Nat.blt i 67) (cond (Nat.blt i 65) 1 (cond (Nat.blt i 66) 1 1)) (cond (Nat.blt i 68) 1 (cond (Nat.blt i 69) 1 1))))) (cond (Nat.blt i 82) (cond (Nat.blt i 76) (cond (Nat.blt i 73) (cond (Nat.blt i 71) 1 (cond (Nat.blt i 72) 1 1)) (cond (Nat.blt i 74) 1 (cond (Nat.blt i 75) 1 1))) (cond (Nat.blt i 79) (cond (Nat.blt i 77) 1 (cond (Nat.blt i 78) 1 1)) (cond (Nat.blt i 80) 1 (cond (Nat.blt i 81) 1 1)))) (cond (Nat.blt i 88) (cond (Nat.blt i 85) (cond (Nat.blt i 83) 4 (cond (Nat.blt i 84) 1 1)) (cond (Nat.blt i 86) 1 (cond (Nat.blt i 87) 1 1))) (cond (Nat.blt i 91) (cond (Nat.blt i 89) 5 (cond (Nat.blt i 90) 4 1)) (cond (Nat.blt i 92) 1 (cond (Nat.blt i 93) 1 1))))))) (cond (Nat.blt i 141) (cond (Nat.blt i 117) (cond (Nat.blt i 105) (cond (Nat.blt i 99) (cond (Nat.blt i 96) (cond (Nat.blt i 95) 1 1) (cond (Nat.blt i 97) 1 (cond (Nat.blt i 98) 1 1))) (cond (Nat.blt i 102) (cond (Nat.blt i 100) 7 (cond (Nat.blt i 101) 7 7)) (cond (Nat.blt i 103) 7 (cond (Nat.blt i 104) 7 7)))) (cond (Nat.blt i 111) (cond (Nat.blt i 108) (cond (Nat.blt i 106) 7 (cond (Nat.blt i 107) 7 7)) (cond (Nat.blt i 109) 7 (cond (Nat.blt i 110) 7 7))) (cond (Nat.blt i 114) (cond (Nat.blt i 112) 7 (cond (Nat.blt i 113) 7 7)) (cond (Nat.blt i 115) 7 (cond (Nat.blt i 116) 7 7))))) (cond (Nat.blt i 129) (cond (Nat.blt i 123) (cond (Nat.blt i 120) (cond (Nat.blt i 118) 7 (cond (Nat.blt i 119) 7 7)) (cond (Nat.blt i 121) 7 (cond (Nat.blt i 122) 7 7))) (cond (Nat.blt i 126) (cond (Nat.blt i 124) 7 (cond (Nat.blt i 125) 7 7)) (cond (Nat.blt i 127) 7 (cond (Nat.blt i 128) 7 7)))) (cond (Nat.blt i 135) (cond (Nat.blt i 132) (cond (Nat.blt i 130) 7 (cond (Nat.blt i 131) 7 7)) (cond (Nat.blt i 133) 7 (cond (Nat.blt i 134) 7 7))) (cond (Nat.blt i 138) (cond (Nat.blt i 136) 7 (cond (Nat.blt i 137) 7 7)) (cond (Nat.blt i 139) 7 (cond (Nat.blt i 140) 7 7)))))) (cond (Nat.blt i 165) (cond (Nat.blt i 153) (cond (Nat.blt i 147) (cond (Nat.blt i 144) (cond (Nat.blt i 142) 7 (cond (Nat.blt i 143) 7 7)) (cond (Nat.blt i 145) 7 (cond (Nat.blt i 146) 7 7))) (cond (Nat.blt i 150) (cond (Nat.blt i 148) 7 (cond (Nat.blt i 149) 7 7)) (cond (Nat.blt i 151) 7 (cond (Nat.blt i 152) 7 7)))) (cond (Nat.blt i 159) (cond (Nat.blt i 156) (cond (Nat.blt i 154) 7 (cond (Nat.blt i 155) 7 7)) (cond (Nat.blt i 157) 7 (cond (Nat.blt i 158) 7 7))) (cond (Nat.blt i 162) (cond (Nat.blt i 160) 7 (cond (Nat.blt i 161) 7 7)) (cond (Nat.blt i 163) 7 (cond (Nat.blt i 164) 7 7))))) (cond (Nat.blt i 177) (cond (Nat.blt i 171) (cond (Nat.blt i 168) (cond (Nat.blt i 166) 7 (cond (Nat.blt i 167) 7 7)) (cond (Nat.blt i 169) 7 (cond (Nat.blt i 170) 7 7))) (cond (Nat.blt i 174) (cond (Nat.blt i 172) 7 (cond (Nat.blt i 173) 7 7)) (cond (Nat.blt i 175) 7 (cond (Nat.blt i 176) 7 7)))) (cond (Nat.blt i 183) (cond (Nat.blt i 180) (cond (Nat.blt i 178) 7 (cond (Nat.blt i 179) 7 7)) (cond (Nat.blt i 181) 7 (cond (Nat.blt i 182) 7 7))) (cond (Nat.blt i 186) (cond (Nat.blt i 184) 7 (cond (Nat.blt i 185) 7 7)) (cond (Nat.blt i 187) 7 (cond (Nat.blt i 188) 7 7))))))))
def ip_ps (i : Nat) : Nat := (cond (Nat.blt i 94) (cond (Nat.blt i 47) (cond (Nat.blt i 23) (cond (Nat.blt i 11) (cond (Nat.blt i 5) (cond (Nat.blt i 2) (cond (Nat.blt i 1) 236 240) (cond (Nat.blt i 3) 257 (cond (Nat.blt i 4) 265 261))) (cond (Nat.blt i 8) (cond (Nat.blt i 6) 253 (cond (Nat.blt i 7) 281 278)) (cond (Nat.blt i 9) 291 (cond (Nat.blt i 10) 285 303)))) (cond (Nat.blt i 17) (cond (Nat.blt i 14) (cond (Nat.blt i 12) 299 (cond (Nat.blt i 13) 307 311)) (cond (Nat.blt i 15) 295 (cond (Nat.blt i 16) 274 270))) (cond (Nat.blt i 20) (cond (Nat.blt i 18) 318 (cond (Nat.blt i 19) 315 249)) (cond (Nat.blt i 21) 244 (cond (Nat.blt i 22) 326 330))))) (cond (Nat.blt i 35) (cond (Nat.blt i 29) (cond (Nat.blt i 26) (cond (Nat.blt i 24) 342 (cond (Nat.blt i 25) 338 346)) (cond (Nat.blt i 27) 334 (cond (Nat.blt i 28) 350 354))) (cond (Nat.blt i 32) (cond (Nat.blt i 30) 321 (cond (Nat.blt i 31) 362 365)) (cond (Nat.blt i 33) 357 (cond (Nat.blt i 34) 371 382)))) (cond (Nat.blt i 41) (cond (Nat.blt i 38) (cond (Nat.blt i 36) 379 (cond (Nat.blt i 37) 375 391)) (cond (Nat.blt i 39) 394 (cond (Nat.blt i 40) 387 402))) (cond (Nat.blt i 44) (cond (Nat.blt i 42) 408 (cond (Nat.blt i 43) 405 417)) (cond (Nat.blt i 45) 420 (cond (Nat.blt i 46) 412 435)))))) (cond (Nat.blt i 70) (cond (Nat.blt i 58) (cond (Nat.blt i 52) (cond (Nat.blt i 49) (cond (Nat.blt i 48) 432 429) (cond (Nat.blt i 50) 439 (cond (Nat.blt i 51) 447 451))) (cond (Nat.blt i 55) (cond (Nat.blt i 53) 465 (cond (Nat.blt i 54) 468 461)) (cond (Nat.blt i 56) 472 (cond (Nat.blt i 57) 457 443)))) (cond (Nat.blt i 64) (cond (Nat.blt i 61) (cond (Nat.blt i 59) 478 (cond (Nat.blt i 60) 484 475)) (cond (Nat.blt i 62) 488 (cond (Nat.blt i 63) 500 496))) (cond (Nat.blt i 67) (cond (Nat.blt i 65) 492 (cond (Nat.blt i 66) 506 503)) (cond (Nat.blt i 68) 397 (cond (Nat.blt i 69) 515 511))))) (cond (Nat.blt i 82) (cond (Nat.blt i 76) (cond (Nat.blt i 73) (cond (Nat.blt i 71) 518 (cond (Nat.blt i 72) 523 531)) (cond (Nat.blt i 74) 527 (cond (Nat.blt i 75) 538 541))) (cond (Nat.blt i 79) (cond (Nat.blt i 77) 534 (cond (Nat.blt i 78) 545 549)) (cond (Nat.blt i 80) 559 (cond (Nat.blt i 81) 554 562)))) (cond (Nat.blt i 88) (cond (Nat.blt i 85) (cond (Nat.blt i 83) 571 (cond (Nat.blt i 84) 566 574)) (cond (Nat.blt i 86) 582 (cond (Nat.blt i 87) 588 578))) (cond (Nat.blt i 91) (cond (Nat.blt i 89) 600 (cond (Nat.blt i 90) 596 591)) (cond (Nat.blt i 92) 604 (cond (Nat.blt i 93) 613 617))))))) (cond (Nat.blt i 141) (cond (Nat.blt i 117) (cond (Nat.blt i 105) (cond (Nat.blt i 99) (cond (Nat.blt i 96) (cond (Nat.blt i 95) 621 625) (cond (Nat.blt i 97) 608 (cond (Nat.blt i 98) 634 628))) (cond (Nat.blt i 102) (cond (Nat.blt i 100) 654 (cond (Nat.blt i 101) 651 795)) (cond (Nat.blt i 103) 790 (cond (Nat.blt i 104) 798 814)))) (cond (Nat.blt i 111) (cond (Nat.blt i 108) (cond (Nat.blt i 106) 811 (cond (Nat.blt i 107) 834 826)) (cond (Nat.blt i 109) 842 (cond (Nat.blt i 110) 838 822))) (cond (Nat.blt i 114) (cond (Nat.blt i 112) 818 (cond (Nat.blt i 113) 807 802)) (cond (Nat.blt i 115) 845 (cond (Nat.blt i 116) 854 870))))) (cond (Nat.blt i 129) (cond (Nat.blt i 123) (cond (Nat.blt i 120) (cond (Nat.blt i 118) 866 (cond (Nat.blt i 119) 875 879)) (cond (Nat.blt i 121) 887 (cond (Nat.blt i 122) 883 891))) (cond (Nat.blt i 126) (cond (Nat.blt i 124) 862 (cond (Nat.blt i 125) 858 849)) (cond (Nat.blt i 127) 899 (cond (Nat.blt i 128) 902 894)))) (cond (Nat.blt i 135) (cond (Nat.blt i 132) (cond (Nat.blt i 130) 915 (cond (Nat.blt i 131) 919 923)) (cond (Nat.blt i 133) 911 (cond (Nat.blt i 134) 905 926))) (cond (Nat.blt i 138) (cond (Nat.blt i 136) 936 (cond (Nat.blt i 137) 951 955)) (cond (Nat.blt i 139) 948 (cond (Nat.blt i 140) 962 959)))))) (cond (Nat.blt i 165) (cond (Nat.blt i 153) (cond (Nat.blt i 147) (cond (Nat.blt i 144) (cond (Nat.blt i 142) 965 (cond (Nat.blt i 143) 976 983)) (cond (Nat.blt i 145) 980 (cond (Nat.blt i 146) 987 973))) (cond (Nat.blt i 150) (cond (Nat.blt i 148) 969 (cond (Nat.blt i 149) 991 995)) (cond (Nat.blt i 151) 1002 (cond (Nat.blt i 152) 999 1006)))) (cond (Nat.blt i 159) (cond (Nat.blt i 156) (cond (Nat.blt i 154) 940 (cond (Nat.blt i 155) 931 1009)) (cond (Nat.blt i 157) 1014 (cond (Nat.blt i 158) 1019 1031))) (cond (Nat.blt i 162) (cond (Nat.blt i 160) 1028 (cond (Nat.blt i 161) 1023 1038)) (cond (Nat.blt i 163) 1041 (cond (Nat.blt i 164) 1034 1044))))) (cond (Nat.blt i 177) (cond (Nat.blt i 171) (cond (Nat.blt i 168) (cond (Nat.blt i 166) 1048 (cond (Nat.blt i 167) 1062 1065)) (cond (Nat.blt i 169) 1058 (cond (Nat.blt i 170) 1052 1073))) (cond (Nat.blt i 174) (cond (Nat.blt i 172) 1068 (cond (Nat.blt i 173) 1076 1080)) (cond (Nat.blt i 175) 1091 (cond (Nat.blt i 176) 1084 1102)))) (cond (Nat.blt i 183) (cond (Nat.blt i 180) (cond (Nat.blt i 178) 1098 (cond (Nat.blt i 179) 1105 1118)) (cond (Nat.blt i 181) 1122 (cond (Nat.blt i 182) 1126 1134))) (cond (Nat.blt i 186) (cond (Nat.blt i 184) 1130 (cond (Nat.blt i 185) 1114 1109)) (cond (Nat.blt i 187) 1147 (cond (Nat.blt i 188) 1143 1137))))))))
def ip_pS (i : Nat) : Nat := (cond (Nat.blt i 94) (cond (Nat.blt i 47) (cond (Nat.blt i 23) (cond (Nat.blt i 11) (cond (Nat.blt i 5) (cond (Nat.blt i 2) (cond (Nat.blt i 1) 334 338) (cond (Nat.blt i 3) 2 (cond (Nat.blt i 4) 4 3))) (cond (Nat.blt i 8) (cond (Nat.blt i 6) 1 (cond (Nat.blt i 7) 0 7)) (cond (Nat.blt i 9) 9 (cond (Nat.blt i 10) 8 12)))) (cond (Nat.blt i 17) (cond (Nat.blt i 14) (cond (Nat.blt i 12) 11 (cond (Nat.blt i 13) 13 14)) (cond (Nat.blt i 15) 10 (cond (Nat.blt i 16) 6 5))) (cond (Nat.blt i 20) (cond (Nat.blt i 18) 0 (cond (Nat.blt i 19) 15 0)) (cond (Nat.blt i 21) 342 (cond (Nat.blt i 22) 16 17))))) (cond (Nat.blt i 35) (cond (Nat.blt i 29) (cond (Nat.blt i 26) (cond (Nat.blt i 24) 20 (cond (Nat.blt i 25) 19 21)) (cond (Nat.blt i 27) 18 (cond (Nat.blt i 28) 22 23))) (cond (Nat.blt i 32) (cond (Nat.blt i 30) 419 (cond (Nat.blt i 31) 24 0)) (cond (Nat.blt i 33) 455 (cond (Nat.blt i 34) 469 0)))) (cond (Nat.blt i 41) (cond (Nat.blt i 38) (cond (Nat.blt i 36) 0 (cond (Nat.blt i 37) 473 0)) (cond (Nat.blt i 39) 0 (cond (Nat.blt i 40) 485 25))) (cond (Nat.blt i 44) (cond (Nat.blt i 42) 0 (cond (Nat.blt i 43) 0 0)) (cond (Nat.blt i 45) 0 (cond (Nat.blt i 46) 26 0)))))) (cond (Nat.blt i 70) (cond (Nat.blt i 58) (cond (Nat.blt i 52) (cond (Nat.blt i 49) (cond (Nat.blt i 48) 0 27) (cond (Nat.blt i 50) 28 (cond (Nat.blt i 51) 30 31))) (cond (Nat.blt i 55) (cond (Nat.blt i 53) 34 (cond (Nat.blt i 54) 0 33)) (cond (Nat.blt i 56) 35 (cond (Nat.blt i 57) 32 29)))) (cond (Nat.blt i 64) (cond (Nat.blt i 61) (cond (Nat.blt i 59) 0 (cond (Nat.blt i 60) 0 0)) (cond (Nat.blt i 62) 36 (cond (Nat.blt i 63) 0 38))) (cond (Nat.blt i 67) (cond (Nat.blt i 65) 37 (cond (Nat.blt i 66) 0 0)) (cond (Nat.blt i 68) 495 (cond (Nat.blt i 69) 0 609))))) (cond (Nat.blt i 82) (cond (Nat.blt i 76) (cond (Nat.blt i 73) (cond (Nat.blt i 71) 616 (cond (Nat.blt i 72) 621 0)) (cond (Nat.blt i 74) 625 (cond (Nat.blt i 75) 0 0))) (cond (Nat.blt i 79) (cond (Nat.blt i 77) 632 (cond (Nat.blt i 78) 643 647)) (cond (Nat.blt i 80) 39 (cond (Nat.blt i 81) 652 660)))) (cond (Nat.blt i 88) (cond (Nat.blt i 85) (cond (Nat.blt i 83) 40 (cond (Nat.blt i 84) 664 672)) (cond (Nat.blt i 86) 0 (cond (Nat.blt i 87) 0 676))) (cond (Nat.blt i 91) (cond (Nat.blt i 89) 42 (cond (Nat.blt i 90) 41 689)) (cond (Nat.blt i 92) 702 (cond (Nat.blt i 93) 43 44))))))) (cond (Nat.blt i 141) (cond (Nat.blt i 117) (cond (Nat.blt i 105) (cond (Nat.blt i 99) (cond (Nat.blt i 96) (cond (Nat.blt i 95) 45 46) (cond (Nat.blt i 97) 706 (cond (Nat.blt i 98) 47 726))) (cond (Nat.blt i 102) (cond (Nat.blt i 100) 0 (cond (Nat.blt i 101) 0 0)) (cond (Nat.blt i 103) 888 (cond (Nat.blt i 104) 896 0)))) (cond (Nat.blt i 111) (cond (Nat.blt i 108) (cond (Nat.blt i 106) 49 (cond (Nat.blt i 107) 53 52)) (cond (Nat.blt i 109) 55 (cond (Nat.blt i 110) 54 51))) (cond (Nat.blt i 114) (cond (Nat.blt i 112) 50 (cond (Nat.blt i 113) 48 900)) (cond (Nat.blt i 115) 943 (cond (Nat.blt i 116) 56 60))))) (cond (Nat.blt i 129) (cond (Nat.blt i 123) (cond (Nat.blt i 120) (cond (Nat.blt i 118) 59 (cond (Nat.blt i 119) 61 62)) (cond (Nat.blt i 121) 64 (cond (Nat.blt i 122) 63 65))) (cond (Nat.blt i 126) (cond (Nat.blt i 124) 58 (cond (Nat.blt i 125) 57 947)) (cond (Nat.blt i 127) 66 (cond (Nat.blt i 128) 0 992)))) (cond (Nat.blt i 135) (cond (Nat.blt i 132) (cond (Nat.blt i 130) 68 (cond (Nat.blt i 131) 69 70)) (cond (Nat.blt i 133) 67 (cond (Nat.blt i 134) 1003 1024))) (cond (Nat.blt i 138) (cond (Nat.blt i 136) 71 (cond (Nat.blt i 137) 0 74)) (cond (Nat.blt i 139) 73 (cond (Nat.blt i 140) 0 75)))))) (cond (Nat.blt i 165) (cond (Nat.blt i 153) (cond (Nat.blt i 147) (cond (Nat.blt i 144) (cond (Nat.blt i 142) 0 (cond (Nat.blt i 143) 0 0)) (cond (Nat.blt i 145) 78 (cond (Nat.blt i 146) 79 77))) (cond (Nat.blt i 150) (cond (Nat.blt i 148) 76 (cond (Nat.blt i 149) 80 81)) (cond (Nat.blt i 151) 0 (cond (Nat.blt i 152) 82 83)))) (cond (Nat.blt i 159) (cond (Nat.blt i 156) (cond (Nat.blt i 154) 72 (cond (Nat.blt i 155) 1029 1107)) (cond (Nat.blt i 157) 1112 (cond (Nat.blt i 158) 1117 0))) (cond (Nat.blt i 162) (cond (Nat.blt i 160) 84 (cond (Nat.blt i 161) 1121 0)) (cond (Nat.blt i 163) 0 (cond (Nat.blt i 164) 1132 1142))))) (cond (Nat.blt i 177) (cond (Nat.blt i 171) (cond (Nat.blt i 168) (cond (Nat.blt i 166) 1146 (cond (Nat.blt i 167) 86 0)) (cond (Nat.blt i 169) 85 (cond (Nat.blt i 170) 1150 87))) (cond (Nat.blt i 174) (cond (Nat.blt i 172) 1166 (cond (Nat.blt i 173) 1174 1178)) (cond (Nat.blt i 175) 88 (cond (Nat.blt i 176) 1182 0)))) (cond (Nat.blt i 183) (cond (Nat.blt i 180) (cond (Nat.blt i 178) 1196 (cond (Nat.blt i 179) 1203 90)) (cond (Nat.blt i 181) 91 (cond (Nat.blt i 182) 92 94))) (cond (Nat.blt i 186) (cond (Nat.blt i 184) 93 (cond (Nat.blt i 185) 89 1207)) (cond (Nat.blt i 187) 96 (cond (Nat.blt i 188) 95 1235))))))))
def ip_flW (c p ci k : Nat) (nst : Bool) : Cond := match ip_cl[ci]? with
  | some q => cond nst (.fieldLinkNest (ip_on c) p (q.2.1 k).1 (q.2.1 k).2.1 (q.2.1 k).2.2.1 "AccusedAsks") (.fieldLink (ip_on c) p (q.2.1 k).1 (q.2.1 k).2.1 (q.2.1 k).2.2.1)
  | none => .initialized ""
def ip_clW (c p i : Nat) (nst : Bool) : Cond := cond nst (.methodLinkNest (ip_on c) p (ip_y i) "AccusedAsks") (.methodLink (ip_on c) p (ip_y i))
def ip_slN (d : Nat) : String × String := cond (Nat.beq d 55) ("WHERE_SO", "[J") (cond (Nat.beq d 56) ("FIXED", "[I") ("FIXED_ANSWERS", "[I"))
def ip_slW (c p d : Nat) (nst : Bool) : Cond := cond nst (.fieldLinkNest (ip_on c) p "AccusedAsks" (ip_slN d).1 (ip_slN d).2 "AccusedAsks") (.fieldLink (ip_on c) p "AccusedAsks" (ip_slN d).1 (ip_slN d).2)
set_option maxRecDepth 100000 in
theorem ip_fl_ck : (List.range 11000).all (fun n => match ip_flT n with | none => true | some q => decide (tables_1[q.2.2.2]? = some (ip_flW (n / 1000) (n % 1000) q.1 q.2.1 q.2.2.1) ∧ (∃ r ∈ ip_cl[q.1]?, q.2.1 < r.2.2))) = true := by decide +kernel
set_option maxRecDepth 100000 in
theorem ip_cl_ck : (List.range 11000).all (fun n => match ip_clT n with | none => true | some q => decide (tables_1[q.2.2]? = some (ip_clW (n / 1000) (n % 1000) q.1 q.2.1) ∧ q.1 < 189)) = true := by decide +kernel
set_option maxRecDepth 100000 in
theorem ip_kI_ck : (List.range 11000).all (fun n => match ip_kIT n with | none => true | some q => decide (tables_1[q.2]? = some (.constant (ip_on (n / 1000)) (n % 1000) q.1))) = true := by decide +kernel
set_option maxRecDepth 100000 in
theorem ip_kL_ck : (List.range 11000).all (fun n => match ip_kLT n with | none => true | some q => decide (tables_1[q.2]? = some (.constantLong (ip_on (n / 1000)) (n % 1000) q.1))) = true := by decide +kernel
set_option maxRecDepth 100000 in
theorem ip_sl_ck : (List.range 11000).all (fun n => match ip_slT n with | none => true | some q => decide (tables_1[q.2.2]? = some (ip_slW (n / 1000) (n % 1000) q.1 q.2.1) ∧ 55 ≤ q.1 ∧ q.1 ≤ 57)) = true := by decide +kernel
set_option maxRecDepth 100000 in
theorem ip_m_ck : (List.range 189).all (fun i => decide (tables_1[ip_pi i]? = some (.initialized (ip_y i).cls)) && decide (ip_on (ip_ow i) = (ip_y i).cls) && (plainName (ip_y i).cls || Nat.beq (ip_ow i) 10) && decide ((ip_y i).cls ≠ "java/lang/invoke/MethodHandle" ∧ (ip_y i).cls ≠ "java/lang/invoke/VarHandle") && decide ((parseMethodDescriptor (ip_y i).desc).map (fun d => d.parameters.length) = some (ip_np i)) && cond (ip_sta i) (decide (tables_1[ip_ps i]? = some (.static (ip_y i)))) (decide (tables_1[ip_ps i]? = some (.instanceMethod (ip_y i))) && decide (lw_tbl[ip_pS i]? = some (.selects (ip_y i).cls (ip_y i) (ip_y i))))) = true := by decide +kernel
set_option maxRecDepth 100000 in
theorem ip_c0 : tables_1[238]? = some (.code (ip_y 0) prog_1_method_2_code 2 (some .int)) := rfl
set_option maxRecDepth 100000 in
theorem ip_c1 : tables_1[242]? = some (.code (ip_y 1) prog_1_method_3_code 2 (some .int)) := rfl
set_option maxRecDepth 100000 in
theorem ip_c2 : tables_1[258]? = some (.code (ip_y 2) prog_4_method_2_code 1 none) := rfl
set_option maxRecDepth 100000 in
theorem ip_c3 : tables_1[266]? = some (.code (ip_y 3) prog_5_method_12_code 1 none) := rfl
set_option maxRecDepth 100000 in
theorem ip_c4 : tables_1[262]? = some (.code (ip_y 4) prog_5_method_11_code 1 none) := rfl
set_option maxRecDepth 100000 in
theorem ip_c5 : tables_1[254]? = some (.code (ip_y 5) prog_5_method_2_code 1 none) := rfl
set_option maxRecDepth 100000 in
theorem ip_c6 : tables_1[282]? = some (.code (ip_y 6) prog_11_method_65_code 2 (some .int)) := rfl
set_option maxRecDepth 100000 in
theorem ip_c7 : tables_1[279]? = some (.code (ip_y 7) prog_5_method_8_code 2 (some .boolean)) := rfl
set_option maxRecDepth 100000 in
theorem ip_c8 : tables_1[292]? = some (.code (ip_y 8) prog_5_method_13_code 3 none) := rfl
set_option maxRecDepth 100000 in
theorem ip_c9 : tables_1[286]? = some (.code (ip_y 9) prog_5_method_6_code 2 (some .boolean)) := rfl
set_option maxRecDepth 100000 in
theorem ip_c10 : tables_1[304]? = some (.code (ip_y 10) prog_5_method_14_code 1 (some .long)) := rfl
set_option maxRecDepth 100000 in
theorem ip_c11 : tables_1[300]? = some (.code (ip_y 11) prog_5_method_10_code 3 (some .boolean)) := rfl
set_option maxRecDepth 100000 in
theorem ip_c12 : tables_1[308]? = some (.code (ip_y 12) prog_5_method_9_code 3 (some .boolean)) := rfl
set_option maxRecDepth 100000 in
theorem ip_c13 : tables_1[312]? = some (.code (ip_y 13) prog_5_method_15_code 1 (some .long)) := rfl
set_option maxRecDepth 100000 in
theorem ip_c14 : tables_1[296]? = some (.code (ip_y 14) prog_5_method_7_code 2 (some .boolean)) := rfl
set_option maxRecDepth 100000 in
theorem ip_c15 : tables_1[275]? = some (.code (ip_y 15) prog_5_method_5_code 2 (some .boolean)) := rfl
set_option maxRecDepth 100000 in
theorem ip_c16 : tables_1[271]? = some (.code (ip_y 16) prog_1_method_30_code 3 (some .int)) := rfl
set_option maxRecDepth 100000 in
theorem ip_c17 : tables_1[319]? = some (.code (ip_y 17) prog_1_method_32_code 1 (some .int)) := rfl
set_option maxRecDepth 100000 in
theorem ip_c18 : tables_1[316]? = some (.code (ip_y 18) prog_1_method_29_code 4 (some .boolean)) := rfl
set_option maxRecDepth 100000 in
theorem ip_c19 : tables_1[250]? = some (.code (ip_y 19) prog_1_method_28_code 2 (some .int)) := rfl
set_option maxRecDepth 100000 in
theorem ip_c20 : tables_1[246]? = some (.code (ip_y 20) prog_1_method_4_code 1 (some .int)) := rfl
set_option maxRecDepth 100000 in
theorem ip_c21 : tables_1[327]? = some (.code (ip_y 21) prog_5_method_3_code 1 (some .boolean)) := rfl
set_option maxRecDepth 100000 in
theorem ip_c22 : tables_1[331]? = some (.code (ip_y 22) prog_2_method_2_code 2 none) := rfl
set_option maxRecDepth 100000 in
theorem ip_c23 : tables_1[343]? = some (.code (ip_y 23) prog_3_method_4_code 1 none) := rfl
set_option maxRecDepth 100000 in
theorem ip_c24 : tables_1[339]? = some (.code (ip_y 24) prog_3_method_2_code 2 none) := rfl
set_option maxRecDepth 100000 in
theorem ip_c25 : tables_1[347]? = some (.code (ip_y 25) prog_3_method_3_code 3 none) := rfl
set_option maxRecDepth 100000 in
theorem ip_c26 : tables_1[335]? = some (.code (ip_y 26) prog_1_method_31_code 5 none) := rfl
set_option maxRecDepth 100000 in
theorem ip_c27 : tables_1[351]? = some (.code (ip_y 27) prog_5_method_4_code 1 (some (.object "AccusedAsks$Law"))) := rfl
set_option maxRecDepth 100000 in
theorem ip_c28 : tables_1[355]? = some (.code (ip_y 28) prog_4_method_3_code 2 none) := rfl
set_option maxRecDepth 100000 in
theorem ip_c29 : tables_1[323]? = some (.code (ip_y 29) prog_1_method_5_code 2 (some .int)) := rfl
set_option maxRecDepth 100000 in
theorem ip_c30 : tables_1[363]? = some (.code (ip_y 30) prog_1_method_33_code 1 (some .boolean)) := rfl
set_option maxRecDepth 100000 in
theorem ip_c31 : tables_1[366]? = some (.code (ip_y 31) prog_10_method_50_code 2 (some .int)) := rfl
set_option maxRecDepth 100000 in
theorem ip_c32 : tables_1[359]? = some (.code (ip_y 32) prog_1_method_6_code 1 (some .int)) := rfl
set_option maxRecDepth 100000 in
theorem ip_c33 : tables_1[373]? = some (.code (ip_y 33) prog_1_method_7_code 1 (some .int)) := rfl
set_option maxRecDepth 100000 in
theorem ip_c34 : tables_1[383]? = some (.code (ip_y 34) prog_1_method_43_code 4 (some .long)) := rfl
set_option maxRecDepth 100000 in
theorem ip_c35 : tables_1[380]? = some (.code (ip_y 35) prog_1_method_45_code 4 (some .int)) := rfl
set_option maxRecDepth 100000 in
theorem ip_c36 : tables_1[377]? = some (.code (ip_y 36) prog_1_method_8_code 2 (some .int)) := rfl
set_option maxRecDepth 100000 in
theorem ip_c37 : tables_1[392]? = some (.code (ip_y 37) prog_1_method_36_code 1 (some .boolean)) := rfl
set_option maxRecDepth 100000 in
theorem ip_c38 : tables_1[395]? = some (.code (ip_y 38) prog_1_method_40_code 3 (some .boolean)) := rfl
set_option maxRecDepth 100000 in
theorem ip_c39 : tables_1[389]? = some (.code (ip_y 39) prog_1_method_9_code 2 (some .int)) := rfl
set_option maxRecDepth 100000 in
theorem ip_c40 : tables_1[403]? = some (.code (ip_y 40) prog_1_method_34_code 2 (some .boolean)) := rfl
set_option maxRecDepth 100000 in
theorem ip_c41 : tables_1[409]? = some (.code (ip_y 41) prog_1_method_39_code 2 (some .int)) := rfl
set_option maxRecDepth 100000 in
theorem ip_c42 : tables_1[406]? = some (.code (ip_y 42) prog_1_method_41_code 3 (some .int)) := rfl
set_option maxRecDepth 100000 in
theorem ip_c43 : tables_1[418]? = some (.code (ip_y 43) prog_1_method_42_code 2 (some .long)) := rfl
set_option maxRecDepth 100000 in
theorem ip_c44 : tables_1[421]? = some (.code (ip_y 44) prog_1_method_47_code 3 (some .long)) := rfl
set_option maxRecDepth 100000 in
theorem ip_c45 : tables_1[413]? = some (.code (ip_y 45) prog_3_method_6_code 4 (some .long)) := rfl
set_option maxRecDepth 100000 in
theorem ip_c46 : tables_1[436]? = some (.code (ip_y 46) prog_1_method_44_code 6 (some .long)) := rfl
set_option maxRecDepth 100000 in
theorem ip_c47 : tables_1[433]? = some (.code (ip_y 47) prog_1_method_48_code 6 (some .long)) := rfl
set_option maxRecDepth 100000 in
theorem ip_c48 : tables_1[430]? = some (.code (ip_y 48) prog_1_method_49_code 2 (some .long)) := rfl
set_option maxRecDepth 100000 in
theorem ip_c49 : tables_1[440]? = some (.code (ip_y 49) prog_1_method_50_code 6 (some .int)) := rfl
set_option maxRecDepth 100000 in
theorem ip_c50 : tables_1[448]? = some (.code (ip_y 50) prog_6_method_2_code 6 (some .boolean)) := rfl
set_option maxRecDepth 100000 in
theorem ip_c51 : tables_1[452]? = some (.code (ip_y 51) prog_6_method_3_code 8 none) := rfl
set_option maxRecDepth 100000 in
theorem ip_c52 : tables_1[466]? = some (.code (ip_y 52) prog_6_method_6_code 5 (some .int)) := rfl
set_option maxRecDepth 100000 in
theorem ip_c53 : tables_1[469]? = some (.code (ip_y 53) prog_11_method_69_code 2 (some .int)) := rfl
set_option maxRecDepth 100000 in
theorem ip_c54 : tables_1[462]? = some (.code (ip_y 54) prog_6_method_5_code 6 (some .int)) := rfl
set_option maxRecDepth 100000 in
theorem ip_c55 : tables_1[473]? = some (.code (ip_y 55) prog_6_method_7_code 3 (some .int)) := rfl
set_option maxRecDepth 100000 in
theorem ip_c56 : tables_1[458]? = some (.code (ip_y 56) prog_6_method_4_code 7 none) := rfl
set_option maxRecDepth 100000 in
theorem ip_c57 : tables_1[444]? = some (.code (ip_y 57) prog_1_method_51_code 6 (some (.object "AccusedAsks$Prospect"))) := rfl
set_option maxRecDepth 100000 in
theorem ip_c58 : tables_1[479]? = some (.code (ip_y 58) prog_9_method_49_code 1 (some .int)) := rfl
set_option maxRecDepth 100000 in
theorem ip_c59 : tables_1[485]? = some (.code (ip_y 59) prog_1_method_52_code 8 (some .long)) := rfl
set_option maxRecDepth 100000 in
theorem ip_c60 : tables_1[476]? = some (.code (ip_y 60) prog_1_method_53_code 8 (some .int)) := rfl
set_option maxRecDepth 100000 in
theorem ip_c61 : tables_1[489]? = some (.code (ip_y 61) prog_1_method_55_code 10 (some .int)) := rfl
set_option maxRecDepth 100000 in
theorem ip_c62 : tables_1[501]? = some (.code (ip_y 62) prog_1_method_46_code 3 (some .int)) := rfl
set_option maxRecDepth 100000 in
theorem ip_c63 : tables_1[497]? = some (.code (ip_y 63) prog_2_method_5_code 6 (some .boolean)) := rfl
set_option maxRecDepth 100000 in
theorem ip_c64 : tables_1[493]? = some (.code (ip_y 64) prog_1_method_57_code 4 (some .int)) := rfl
set_option maxRecDepth 100000 in
theorem ip_c65 : tables_1[507]? = some (.code (ip_y 65) prog_1_method_59_code 4 (some .int)) := rfl
set_option maxRecDepth 100000 in
theorem ip_c66 : tables_1[504]? = some (.code (ip_y 66) prog_1_method_58_code 6 (some .int)) := rfl
set_option maxRecDepth 100000 in
theorem ip_c67 : tables_1[399]? = some (.code (ip_y 67) prog_1_method_10_code 4 (some .int)) := rfl
set_option maxRecDepth 100000 in
theorem ip_c68 : tables_1[516]? = some (.code (ip_y 68) prog_1_method_38_code 2 (some .boolean)) := rfl
set_option maxRecDepth 100000 in
theorem ip_c69 : tables_1[513]? = some (.code (ip_y 69) prog_1_method_11_code 3 (some .int)) := rfl
set_option maxRecDepth 100000 in
theorem ip_c70 : tables_1[520]? = some (.code (ip_y 70) prog_1_method_12_code 2 (some .long)) := rfl
set_option maxRecDepth 100000 in
theorem ip_c71 : tables_1[525]? = some (.code (ip_y 71) prog_1_method_13_code 4 (some .int)) := rfl
set_option maxRecDepth 100000 in
theorem ip_c72 : tables_1[532]? = some (.code (ip_y 72) prog_1_method_56_code 3 (some .int)) := rfl
set_option maxRecDepth 100000 in
theorem ip_c73 : tables_1[529]? = some (.code (ip_y 73) prog_1_method_14_code 7 (some .int)) := rfl
set_option maxRecDepth 100000 in
theorem ip_c74 : tables_1[539]? = some (.code (ip_y 74) prog_1_method_35_code 1 (some .boolean)) := rfl
set_option maxRecDepth 100000 in
theorem ip_c75 : tables_1[542]? = some (.code (ip_y 75) prog_1_method_37_code 1 (some .boolean)) := rfl
set_option maxRecDepth 100000 in
theorem ip_c76 : tables_1[536]? = some (.code (ip_y 76) prog_1_method_15_code 5 (some .int)) := rfl
set_option maxRecDepth 100000 in
theorem ip_c77 : tables_1[547]? = some (.code (ip_y 77) prog_1_method_16_code 5 (some .int)) := rfl
set_option maxRecDepth 100000 in
theorem ip_c78 : tables_1[551]? = some (.code (ip_y 78) prog_1_method_17_code 4 (some .int)) := rfl
set_option maxRecDepth 100000 in
theorem ip_c79 : tables_1[560]? = some (.code (ip_y 79) prog_1_method_54_code 13 (some .int)) := rfl
set_option maxRecDepth 100000 in
theorem ip_c80 : tables_1[556]? = some (.code (ip_y 80) prog_1_method_18_code 6 (some .int)) := rfl
set_option maxRecDepth 100000 in
theorem ip_c81 : tables_1[564]? = some (.code (ip_y 81) prog_1_method_19_code 7 (some .int)) := rfl
set_option maxRecDepth 100000 in
theorem ip_c82 : tables_1[572]? = some (.code (ip_y 82) prog_2_method_4_code 5 none) := rfl
set_option maxRecDepth 100000 in
theorem ip_c83 : tables_1[568]? = some (.code (ip_y 83) prog_1_method_20_code 5 (some .int)) := rfl
set_option maxRecDepth 100000 in
theorem ip_c84 : tables_1[576]? = some (.code (ip_y 84) prog_1_method_21_code 2 (some .int)) := rfl
set_option maxRecDepth 100000 in
theorem ip_c85 : tables_1[583]? = some (.code (ip_y 85) prog_1_method_60_code 1 (some .int)) := rfl
set_option maxRecDepth 100000 in
theorem ip_c86 : tables_1[589]? = some (.code (ip_y 86) prog_1_method_61_code 2 (some .int)) := rfl
set_option maxRecDepth 100000 in
theorem ip_c87 : tables_1[580]? = some (.code (ip_y 87) prog_1_method_22_code 11 (some .int)) := rfl
set_option maxRecDepth 100000 in
theorem ip_c88 : tables_1[601]? = some (.code (ip_y 88) prog_3_method_5_code 2 none) := rfl
set_option maxRecDepth 100000 in
theorem ip_c89 : tables_1[597]? = some (.code (ip_y 89) prog_2_method_3_code 3 none) := rfl
set_option maxRecDepth 100000 in
theorem ip_c90 : tables_1[593]? = some (.code (ip_y 90) prog_1_method_23_code 1 (some .int)) := rfl
set_option maxRecDepth 100000 in
theorem ip_c91 : tables_1[606]? = some (.code (ip_y 91) prog_1_method_24_code 1 (some .int)) := rfl
set_option maxRecDepth 100000 in
theorem ip_c92 : tables_1[614]? = some (.code (ip_y 92) prog_1_method_62_code 3 (some .int)) := rfl
set_option maxRecDepth 100000 in
theorem ip_c93 : tables_1[618]? = some (.code (ip_y 93) prog_1_method_63_code 4 (some .int)) := rfl
set_option maxRecDepth 100000 in
theorem ip_c94 : tables_1[622]? = some (.code (ip_y 94) prog_1_method_64_code 3 (some .int)) := rfl
set_option maxRecDepth 100000 in
theorem ip_c95 : tables_1[626]? = some (.code (ip_y 95) prog_1_method_65_code 3 (some .int)) := rfl
set_option maxRecDepth 100000 in
theorem ip_c96 : tables_1[610]? = some (.code (ip_y 96) prog_1_method_25_code 2 (some .int)) := rfl
set_option maxRecDepth 100000 in
theorem ip_c97 : tables_1[635]? = some (.code (ip_y 97) prog_1_method_27_code 7 (some .long)) := rfl
set_option maxRecDepth 100000 in
theorem ip_c98 : tables_1[630]? = some (.code (ip_y 98) prog_1_method_26_code 4 (some .long)) := rfl
set_option maxRecDepth 100000 in
theorem ip_c99 : tables_1[655]? = some (.code (ip_y 99) prog_8_method_42_code 2 (some .int)) := rfl
set_option maxRecDepth 100000 in
theorem ip_c100 : tables_1[652]? = some (.code (ip_y 100) prog_8_method_6_code 5 (some .long)) := rfl
set_option maxRecDepth 100000 in
theorem ip_c101 : tables_1[796]? = some (.code (ip_y 101) prog_8_method_2_code 6 (some .boolean)) := rfl
set_option maxRecDepth 100000 in
theorem ip_c102 : tables_1[792]? = some (.code (ip_y 102) prog_8_method_8_code 2 (some .int)) := rfl
set_option maxRecDepth 100000 in
theorem ip_c103 : tables_1[800]? = some (.code (ip_y 103) prog_8_method_9_code 2 (some .int)) := rfl
set_option maxRecDepth 100000 in
theorem ip_c104 : tables_1[815]? = some (.code (ip_y 104) prog_8_method_10_code 1 (some .int)) := rfl
set_option maxRecDepth 100000 in
theorem ip_c105 : tables_1[812]? = some (.code (ip_y 105) prog_8_method_18_code 3 (some .boolean)) := rfl
set_option maxRecDepth 100000 in
theorem ip_c106 : tables_1[835]? = some (.code (ip_y 106) prog_8_method_11_code 2 (some .boolean)) := rfl
set_option maxRecDepth 100000 in
theorem ip_c107 : tables_1[827]? = some (.code (ip_y 107) prog_8_method_13_code 2 (some .boolean)) := rfl
set_option maxRecDepth 100000 in
theorem ip_c108 : tables_1[843]? = some (.code (ip_y 108) prog_8_method_12_code 2 (some .boolean)) := rfl
set_option maxRecDepth 100000 in
theorem ip_c109 : tables_1[839]? = some (.code (ip_y 109) prog_8_method_14_code 2 (some .boolean)) := rfl
set_option maxRecDepth 100000 in
theorem ip_c110 : tables_1[823]? = some (.code (ip_y 110) prog_8_method_15_code 2 (some .boolean)) := rfl
set_option maxRecDepth 100000 in
theorem ip_c111 : tables_1[819]? = some (.code (ip_y 111) prog_8_method_17_code 3 (some .int)) := rfl
set_option maxRecDepth 100000 in
theorem ip_c112 : tables_1[808]? = some (.code (ip_y 112) prog_8_method_19_code 2 (some .int)) := rfl
set_option maxRecDepth 100000 in
theorem ip_c113 : tables_1[804]? = some (.code (ip_y 113) prog_8_method_20_code 1 (some .int)) := rfl
set_option maxRecDepth 100000 in
theorem ip_c114 : tables_1[847]? = some (.code (ip_y 114) prog_8_method_21_code 1 (some .int)) := rfl
set_option maxRecDepth 100000 in
theorem ip_c115 : tables_1[855]? = some (.code (ip_y 115) prog_8_method_16_code 1 (some .boolean)) := rfl
set_option maxRecDepth 100000 in
theorem ip_c116 : tables_1[871]? = some (.code (ip_y 116) prog_8_method_22_code 1 none) := rfl
set_option maxRecDepth 100000 in
theorem ip_c117 : tables_1[867]? = some (.code (ip_y 117) prog_8_method_23_code 2 none) := rfl
set_option maxRecDepth 100000 in
theorem ip_c118 : tables_1[876]? = some (.code (ip_y 118) prog_8_method_7_code 2 (some .long)) := rfl
set_option maxRecDepth 100000 in
theorem ip_c119 : tables_1[880]? = some (.code (ip_y 119) prog_8_method_25_code 3 none) := rfl
set_option maxRecDepth 100000 in
theorem ip_c120 : tables_1[888]? = some (.code (ip_y 120) prog_8_method_24_code 1 (some .long)) := rfl
set_option maxRecDepth 100000 in
theorem ip_c121 : tables_1[884]? = some (.code (ip_y 121) prog_8_method_26_code 3 none) := rfl
set_option maxRecDepth 100000 in
theorem ip_c122 : tables_1[892]? = some (.code (ip_y 122) prog_8_method_27_code 3 none) := rfl
set_option maxRecDepth 100000 in
theorem ip_c123 : tables_1[863]? = some (.code (ip_y 123) prog_8_method_28_code 7 (some .long)) := rfl
set_option maxRecDepth 100000 in
theorem ip_c124 : tables_1[859]? = some (.code (ip_y 124) prog_8_method_29_code 3 none) := rfl
set_option maxRecDepth 100000 in
theorem ip_c125 : tables_1[851]? = some (.code (ip_y 125) prog_8_method_30_code 4 (some .int)) := rfl
set_option maxRecDepth 100000 in
theorem ip_c126 : tables_1[900]? = some (.code (ip_y 126) prog_8_method_31_code 1 (some .boolean)) := rfl
set_option maxRecDepth 100000 in
theorem ip_c127 : tables_1[903]? = some (.code (ip_y 127) prog_8_method_4_code 4 (some .int)) := rfl
set_option maxRecDepth 100000 in
theorem ip_c128 : tables_1[896]? = some (.code (ip_y 128) prog_8_method_32_code 1 (some .int)) := rfl
set_option maxRecDepth 100000 in
theorem ip_c129 : tables_1[916]? = some (.code (ip_y 129) prog_8_method_36_code 7 (some .int)) := rfl
set_option maxRecDepth 100000 in
theorem ip_c130 : tables_1[920]? = some (.code (ip_y 130) prog_8_method_37_code 5 (some .int)) := rfl
set_option maxRecDepth 100000 in
theorem ip_c131 : tables_1[924]? = some (.code (ip_y 131) prog_8_method_38_code 4 (some .int)) := rfl
set_option maxRecDepth 100000 in
theorem ip_c132 : tables_1[912]? = some (.code (ip_y 132) prog_8_method_39_code 2 (some .int)) := rfl
set_option maxRecDepth 100000 in
theorem ip_c133 : tables_1[907]? = some (.code (ip_y 133) prog_8_method_40_code 2 (some .int)) := rfl
set_option maxRecDepth 100000 in
theorem ip_c134 : tables_1[928]? = some (.code (ip_y 134) prog_8_method_41_code 2 (some .int)) := rfl
set_option maxRecDepth 100000 in
theorem ip_c135 : tables_1[937]? = some (.code (ip_y 135) prog_8_method_33_code 2 (some .boolean)) := rfl
set_option maxRecDepth 100000 in
theorem ip_c136 : tables_1[952]? = some (.code (ip_y 136) prog_8_method_45_code 3 (some .long)) := rfl
set_option maxRecDepth 100000 in
theorem ip_c137 : tables_1[956]? = some (.code (ip_y 137) prog_8_method_43_code 3 (some .long)) := rfl
set_option maxRecDepth 100000 in
theorem ip_c138 : tables_1[949]? = some (.code (ip_y 138) prog_8_method_46_code 7 (some .long)) := rfl
set_option maxRecDepth 100000 in
theorem ip_c139 : tables_1[963]? = some (.code (ip_y 139) prog_8_method_44_code 6 (some .long)) := rfl
set_option maxRecDepth 100000 in
theorem ip_c140 : tables_1[960]? = some (.code (ip_y 140) prog_8_method_47_code 2 (some .long)) := rfl
set_option maxRecDepth 100000 in
theorem ip_c141 : tables_1[966]? = some (.code (ip_y 141) prog_8_method_48_code 4 (some .int)) := rfl
set_option maxRecDepth 100000 in
theorem ip_c142 : tables_1[977]? = some (.code (ip_y 142) prog_8_method_49_code 1 (some .int)) := rfl
set_option maxRecDepth 100000 in
theorem ip_c143 : tables_1[984]? = some (.code (ip_y 143) prog_8_method_50_code 2 (some .int)) := rfl
set_option maxRecDepth 100000 in
theorem ip_c144 : tables_1[981]? = some (.code (ip_y 144) prog_8_method_51_code 8 (some .long)) := rfl
set_option maxRecDepth 100000 in
theorem ip_c145 : tables_1[988]? = some (.code (ip_y 145) prog_8_method_52_code 12 none) := rfl
set_option maxRecDepth 100000 in
theorem ip_c146 : tables_1[974]? = some (.code (ip_y 146) prog_8_method_53_code 8 (some .int)) := rfl
set_option maxRecDepth 100000 in
theorem ip_c147 : tables_1[970]? = some (.code (ip_y 147) prog_8_method_54_code 4 (some .int)) := rfl
set_option maxRecDepth 100000 in
theorem ip_c148 : tables_1[992]? = some (.code (ip_y 148) prog_8_method_55_code 4 (some .int)) := rfl
set_option maxRecDepth 100000 in
theorem ip_c149 : tables_1[996]? = some (.code (ip_y 149) prog_8_method_57_code 8 (some .int)) := rfl
set_option maxRecDepth 100000 in
theorem ip_c150 : tables_1[1003]? = some (.code (ip_y 150) prog_8_method_76_code 3 (some .int)) := rfl
set_option maxRecDepth 100000 in
theorem ip_c151 : tables_1[1000]? = some (.code (ip_y 151) prog_8_method_77_code 6 (some .int)) := rfl
set_option maxRecDepth 100000 in
theorem ip_c152 : tables_1[1007]? = some (.code (ip_y 152) prog_8_method_78_code 10 (some .int)) := rfl
set_option maxRecDepth 100000 in
theorem ip_c153 : tables_1[941]? = some (.code (ip_y 153) prog_8_method_58_code 3 (some .int)) := rfl
set_option maxRecDepth 100000 in
theorem ip_c154 : tables_1[933]? = some (.code (ip_y 154) prog_8_method_59_code 3 (some .int)) := rfl
set_option maxRecDepth 100000 in
theorem ip_c155 : tables_1[1011]? = some (.code (ip_y 155) prog_8_method_60_code 5 (some .int)) := rfl
set_option maxRecDepth 100000 in
theorem ip_c156 : tables_1[1016]? = some (.code (ip_y 156) prog_8_method_61_code 2 (some .long)) := rfl
set_option maxRecDepth 100000 in
theorem ip_c157 : tables_1[1021]? = some (.code (ip_y 157) prog_8_method_62_code 3 (some .int)) := rfl
set_option maxRecDepth 100000 in
theorem ip_c158 : tables_1[1032]? = some (.code (ip_y 158) prog_8_method_5_code 5 (some .int)) := rfl
set_option maxRecDepth 100000 in
theorem ip_c159 : tables_1[1029]? = some (.code (ip_y 159) prog_8_method_63_code 6 (some .int)) := rfl
set_option maxRecDepth 100000 in
theorem ip_c160 : tables_1[1025]? = some (.code (ip_y 160) prog_8_method_64_code 3 (some .int)) := rfl
set_option maxRecDepth 100000 in
theorem ip_c161 : tables_1[1039]? = some (.code (ip_y 161) prog_8_method_34_code 1 (some .boolean)) := rfl
set_option maxRecDepth 100000 in
theorem ip_c162 : tables_1[1042]? = some (.code (ip_y 162) prog_8_method_35_code 1 (some .boolean)) := rfl
set_option maxRecDepth 100000 in
theorem ip_c163 : tables_1[1036]? = some (.code (ip_y 163) prog_8_method_65_code 4 (some .int)) := rfl
set_option maxRecDepth 100000 in
theorem ip_c164 : tables_1[1046]? = some (.code (ip_y 164) prog_8_method_66_code 4 (some .int)) := rfl
set_option maxRecDepth 100000 in
theorem ip_c165 : tables_1[1050]? = some (.code (ip_y 165) prog_8_method_67_code 4 (some .int)) := rfl
set_option maxRecDepth 100000 in
theorem ip_c166 : tables_1[1063]? = some (.code (ip_y 166) prog_8_method_69_code 11 (some .int)) := rfl
set_option maxRecDepth 100000 in
theorem ip_c167 : tables_1[1066]? = some (.code (ip_y 167) prog_8_method_68_code 3 (some .int)) := rfl
set_option maxRecDepth 100000 in
theorem ip_c168 : tables_1[1059]? = some (.code (ip_y 168) prog_8_method_70_code 14 (some .int)) := rfl
set_option maxRecDepth 100000 in
theorem ip_c169 : tables_1[1054]? = some (.code (ip_y 169) prog_8_method_71_code 4 (some .int)) := rfl
set_option maxRecDepth 100000 in
theorem ip_c170 : tables_1[1074]? = some (.code (ip_y 170) prog_8_method_72_code 5 (some .int)) := rfl
set_option maxRecDepth 100000 in
theorem ip_c171 : tables_1[1070]? = some (.code (ip_y 171) prog_8_method_73_code 1 (some .int)) := rfl
set_option maxRecDepth 100000 in
theorem ip_c172 : tables_1[1078]? = some (.code (ip_y 172) prog_8_method_74_code 5 (some .int)) := rfl
set_option maxRecDepth 100000 in
theorem ip_c173 : tables_1[1082]? = some (.code (ip_y 173) prog_8_method_75_code 2 (some .int)) := rfl
set_option maxRecDepth 100000 in
theorem ip_c174 : tables_1[1092]? = some (.code (ip_y 174) prog_8_method_79_code 2 (some .int)) := rfl
set_option maxRecDepth 100000 in
theorem ip_c175 : tables_1[1086]? = some (.code (ip_y 175) prog_8_method_80_code 11 (some .int)) := rfl
set_option maxRecDepth 100000 in
theorem ip_c176 : tables_1[1103]? = some (.code (ip_y 176) prog_8_method_3_code 3 none) := rfl
set_option maxRecDepth 100000 in
theorem ip_c177 : tables_1[1100]? = some (.code (ip_y 177) prog_8_method_81_code 1 (some .int)) := rfl
set_option maxRecDepth 100000 in
theorem ip_c178 : tables_1[1107]? = some (.code (ip_y 178) prog_8_method_82_code 1 (some .int)) := rfl
set_option maxRecDepth 100000 in
theorem ip_c179 : tables_1[1119]? = some (.code (ip_y 179) prog_8_method_83_code 3 (some .int)) := rfl
set_option maxRecDepth 100000 in
theorem ip_c180 : tables_1[1123]? = some (.code (ip_y 180) prog_8_method_84_code 4 (some .int)) := rfl
set_option maxRecDepth 100000 in
theorem ip_c181 : tables_1[1127]? = some (.code (ip_y 181) prog_8_method_85_code 3 (some .int)) := rfl
set_option maxRecDepth 100000 in
theorem ip_c182 : tables_1[1135]? = some (.code (ip_y 182) prog_8_method_56_code 4 (some .int)) := rfl
set_option maxRecDepth 100000 in
theorem ip_c183 : tables_1[1131]? = some (.code (ip_y 183) prog_8_method_86_code 3 (some .int)) := rfl
set_option maxRecDepth 100000 in
theorem ip_c184 : tables_1[1115]? = some (.code (ip_y 184) prog_8_method_87_code 2 (some .int)) := rfl
set_option maxRecDepth 100000 in
theorem ip_c185 : tables_1[1111]? = some (.code (ip_y 185) prog_8_method_88_code 2 (some .int)) := rfl
set_option maxRecDepth 100000 in
theorem ip_c186 : tables_1[1148]? = some (.code (ip_y 186) prog_8_method_89_code 3 none) := rfl
set_option maxRecDepth 100000 in
theorem ip_c187 : tables_1[1144]? = some (.code (ip_y 187) prog_8_method_90_code 3 none) := rfl
set_option maxRecDepth 100000 in
theorem ip_c188 : tables_1[1139]? = some (.code (ip_y 188) prog_8_method_91_code 2 (some .long)) := rfl
