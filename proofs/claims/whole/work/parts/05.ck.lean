section
set_option maxRecDepth 100000 in
theorem ck0_0 : raAll (chkE 0) cd0_0 = true := by decide +kernel
set_option maxRecDepth 100000 in
theorem ck0_1 : raAll (chkE 0) cd0_1 = true := by decide +kernel
set_option maxRecDepth 100000 in
theorem ck0_2 : raAll (chkE 0) cd0_2 = true := by decide +kernel
set_option maxRecDepth 100000 in
theorem ck0_3 : raAll (chkE 0) cd0_3 = true := by decide +kernel
set_option maxRecDepth 100000 in
theorem ck0_4 : raAll (chkE 0) cd0_4 = true := by decide +kernel
set_option maxRecDepth 100000 in
theorem ck0_5 : raAll (chkE 0) cd0_5 = true := by decide +kernel
set_option maxRecDepth 100000 in
theorem ck0_6 : raAll (chkE 0) cd0_6 = true := by decide +kernel
set_option maxRecDepth 100000 in
theorem ck0_7 : raAll (chkE 0) cd0_7 = true := by decide +kernel
set_option maxRecDepth 100000 in
theorem ck0_8 : raAll (chkE 0) cd0_8 = true := by decide +kernel
set_option maxRecDepth 100000 in
theorem ck0_9 : raAll (chkE 0) cd0_9 = true := by decide +kernel
set_option maxRecDepth 100000 in
theorem ck0_10 : raAll (chkE 0) cd0_10 = true := by decide +kernel
set_option maxRecDepth 100000 in
theorem ck0_11 : raAll (chkE 0) cd0_11 = true := by decide +kernel
set_option maxRecDepth 100000 in
theorem ck0_12 : raAll (chkE 0) cd0_12 = true := by decide +kernel
set_option maxRecDepth 100000 in
theorem ck0_13 : raAll (chkE 0) cd0_13 = true := by decide +kernel
set_option maxRecDepth 100000 in
theorem ck0_14 : raAll (chkE 0) cd0_14 = true := by decide +kernel
set_option maxRecDepth 100000 in
theorem ck0_15 : raAll (chkE 0) cd0_15 = true := by decide +kernel
set_option maxRecDepth 100000 in
theorem ck0_16 : raAll (chkE 0) cd0_16 = true := by decide +kernel
set_option maxRecDepth 100000 in
theorem ck0_17 : raAll (chkE 0) cd0_17 = true := by decide +kernel
set_option maxRecDepth 100000 in
theorem ck0_18 : raAll (chkE 0) cd0_18 = true := by decide +kernel
set_option maxRecDepth 100000 in
theorem ck0_19 : raAll (chkE 0) cd0_19 = true := by decide +kernel
set_option maxRecDepth 100000 in
theorem ck0_20 : raAll (chkE 0) cd0_20 = true := by decide +kernel
set_option maxRecDepth 100000 in
theorem ck0_21 : raAll (chkE 0) cd0_21 = true := by decide +kernel
set_option maxRecDepth 100000 in
theorem ck0_22 : raAll (chkE 0) cd0_22 = true := by decide +kernel
set_option maxRecDepth 100000 in
theorem ck0_23 : raAll (chkE 0) cd0_23 = true := by decide +kernel
set_option maxRecDepth 100000 in
theorem ck0_24 : raAll (chkE 0) cd0_24 = true := by decide +kernel
set_option maxRecDepth 100000 in
theorem ck0 : raAll (chkE 0) cd0 = true := by
  simp only [cd0, raAll, Bool.and_eq_true]
  exact ⟨⟨⟨⟨ck0_0, ⟨ck0_1, ck0_2⟩⟩, ⟨ck0_3, ⟨ck0_4, ck0_5⟩⟩⟩, ⟨⟨ck0_6, ⟨ck0_7, ck0_8⟩⟩, ⟨ck0_9, ⟨ck0_10, ck0_11⟩⟩⟩⟩, ⟨⟨⟨ck0_12, ⟨ck0_13, ck0_14⟩⟩, ⟨ck0_15, ⟨ck0_16, ck0_17⟩⟩⟩, ⟨⟨ck0_18, ⟨ck0_19, ck0_20⟩⟩, ⟨⟨ck0_21, ck0_22⟩, ⟨ck0_23, ck0_24⟩⟩⟩⟩⟩
set_option maxRecDepth 100000 in
theorem ck1 : raAll (chkE 1) cd1 = true := by decide +kernel
set_option maxRecDepth 100000 in
theorem ck2 : raAll (chkE 2) cd2 = true := by decide +kernel
set_option maxRecDepth 100000 in
theorem ck3 : raAll (chkE 3) cd3 = true := by decide +kernel
set_option maxRecDepth 100000 in
theorem ck4 : raAll (chkE 4) cd4 = true := by decide +kernel
set_option maxRecDepth 100000 in
theorem ck5 : raAll (chkE 5) cd5 = true := by decide +kernel
set_option maxRecDepth 100000 in
theorem ck6 : raAll (chkE 6) cd6 = true := by decide +kernel
set_option maxRecDepth 100000 in
theorem ck7 : raAll (chkE 7) cd7 = true := by decide +kernel
set_option maxRecDepth 100000 in
theorem ck8 : raAll (chkE 8) cd8 = true := by decide +kernel
set_option maxRecDepth 100000 in
theorem ck9 : raAll (chkE 9) cd9 = true := by decide +kernel
set_option maxRecDepth 100000 in
theorem ck10 : raAll (chkE 10) cd10 = true := by decide +kernel
set_option maxRecDepth 100000 in
theorem ck11 : raAll (chkE 11) cd11 = true := by decide +kernel
set_option maxRecDepth 100000 in
theorem ck12 : raAll (chkE 12) cd12 = true := by decide +kernel
set_option maxRecDepth 100000 in
theorem ck13 : raAll (chkE 13) cd13 = true := by decide +kernel
set_option maxRecDepth 100000 in
theorem ck14 : raAll (chkE 14) cd14 = true := by decide +kernel
set_option maxRecDepth 100000 in
theorem ck15 : raAll (chkE 15) cd15 = true := by decide +kernel
set_option maxRecDepth 100000 in
theorem ck16 : raAll (chkE 16) cd16 = true := by decide +kernel
set_option maxRecDepth 100000 in
theorem ck17 : raAll (chkE 17) cd17 = true := by decide +kernel
set_option maxRecDepth 100000 in
theorem ck18 : raAll (chkE 18) cd18 = true := by decide +kernel
set_option maxRecDepth 100000 in
theorem ck19 : raAll (chkE 19) cd19 = true := by decide +kernel
set_option maxRecDepth 100000 in
theorem ck20 : raAll (chkE 20) cd20 = true := by decide +kernel
set_option maxRecDepth 100000 in
theorem ck21 : raAll (chkE 21) cd21 = true := by decide +kernel
set_option maxRecDepth 100000 in
theorem ck22 : raAll (chkE 22) cd22 = true := by decide +kernel
set_option maxRecDepth 100000 in
theorem ck23 : raAll (chkE 23) cd23 = true := by decide +kernel
set_option maxRecDepth 100000 in
theorem ck24 : raAll (chkE 24) cd24 = true := by decide +kernel
set_option maxRecDepth 100000 in
theorem ck25 : raAll (chkE 25) cd25 = true := by decide +kernel
set_option maxRecDepth 100000 in
theorem ck26 : raAll (chkE 26) cd26 = true := by decide +kernel
set_option maxRecDepth 100000 in
theorem ck27 : raAll (chkE 27) cd27 = true := by decide +kernel
set_option maxRecDepth 100000 in
theorem ck28 : raAll (chkE 28) cd28 = true := by decide +kernel
set_option maxRecDepth 100000 in
theorem ck29 : raAll (chkE 29) cd29 = true := by decide +kernel
set_option maxRecDepth 100000 in
theorem ck30 : raAll (chkE 30) cd30 = true := by decide +kernel
set_option maxRecDepth 100000 in
theorem ck31 : raAll (chkE 31) cd31 = true := by decide +kernel
set_option maxRecDepth 100000 in
theorem ck32 : raAll (chkE 32) cd32 = true := by decide +kernel
set_option maxRecDepth 100000 in
theorem ck33 : raAll (chkE 33) cd33 = true := by decide +kernel
set_option maxRecDepth 100000 in
theorem ck34 : raAll (chkE 34) cd34 = true := by decide +kernel
set_option maxRecDepth 100000 in
theorem ck35 : raAll (chkE 35) cd35 = true := by decide +kernel
set_option maxRecDepth 100000 in
theorem ck36 : raAll (chkE 36) cd36 = true := by decide +kernel
set_option maxRecDepth 100000 in
theorem ck37 : raAll (chkE 37) cd37 = true := by decide +kernel
set_option maxRecDepth 100000 in
theorem ck38 : raAll (chkE 38) cd38 = true := by decide +kernel
set_option maxRecDepth 100000 in
theorem ck39 : raAll (chkE 39) cd39 = true := by decide +kernel
set_option maxRecDepth 100000 in
theorem ck40 : raAll (chkE 40) cd40 = true := by decide +kernel
set_option maxRecDepth 100000 in
theorem ck41 : raAll (chkE 41) cd41 = true := by decide +kernel
set_option maxRecDepth 100000 in
theorem ck42 : raAll (chkE 42) cd42 = true := by decide +kernel
set_option maxRecDepth 100000 in
theorem ck43 : raAll (chkE 43) cd43 = true := by decide +kernel
set_option maxRecDepth 100000 in
theorem ck44 : raAll (chkE 44) cd44 = true := by decide +kernel
set_option maxRecDepth 100000 in
theorem ck45 : raAll (chkE 45) cd45 = true := by decide +kernel
set_option maxRecDepth 100000 in
theorem ck46 : raAll (chkE 46) cd46 = true := by decide +kernel
set_option maxRecDepth 100000 in
theorem ck47 : raAll (chkE 47) cd47 = true := by decide +kernel
set_option maxRecDepth 100000 in
theorem ck48 : raAll (chkE 48) cd48 = true := by decide +kernel
set_option maxRecDepth 100000 in
theorem ck49 : raAll (chkE 49) cd49 = true := by decide +kernel
set_option maxRecDepth 100000 in
theorem ck50 : raAll (chkE 50) cd50 = true := by decide +kernel
set_option maxRecDepth 100000 in
theorem ck51 : raAll (chkE 51) cd51 = true := by decide +kernel
set_option maxRecDepth 100000 in
theorem ck52 : raAll (chkE 52) cd52 = true := by decide +kernel
set_option maxRecDepth 100000 in
theorem ck53 : raAll (chkE 53) cd53 = true := by decide +kernel
set_option maxRecDepth 100000 in
theorem ck54 : raAll (chkE 54) cd54 = true := by decide +kernel
set_option maxRecDepth 100000 in
theorem ck55 : raAll (chkE 55) cd55 = true := by decide +kernel
set_option maxRecDepth 100000 in
theorem ck56 : raAll (chkE 56) cd56 = true := by decide +kernel
set_option maxRecDepth 100000 in
theorem ck57 : raAll (chkE 57) cd57 = true := by decide +kernel
set_option maxRecDepth 100000 in
theorem ck58 : raAll (chkE 58) cd58 = true := by decide +kernel
set_option maxRecDepth 100000 in
theorem ck59 : raAll (chkE 59) cd59 = true := by decide +kernel
set_option maxRecDepth 100000 in
theorem ck60 : raAll (chkE 60) cd60 = true := by decide +kernel
set_option maxRecDepth 100000 in
theorem ck61 : raAll (chkE 61) cd61 = true := by decide +kernel
set_option maxRecDepth 100000 in
theorem ck62 : raAll (chkE 62) cd62 = true := by decide +kernel
set_option maxRecDepth 100000 in
theorem ck63 : raAll (chkE 63) cd63 = true := by decide +kernel
set_option maxRecDepth 100000 in
theorem ck64 : raAll (chkE 64) cd64 = true := by decide +kernel
set_option maxRecDepth 100000 in
theorem ck65 : raAll (chkE 65) cd65 = true := by decide +kernel
set_option maxRecDepth 100000 in
theorem ck66 : raAll (chkE 66) cd66 = true := by decide +kernel
set_option maxRecDepth 100000 in
theorem ck67 : raAll (chkE 67) cd67 = true := by decide +kernel
set_option maxRecDepth 100000 in
theorem ck68 : raAll (chkE 68) cd68 = true := by decide +kernel
set_option maxRecDepth 100000 in
theorem ck69 : raAll (chkE 69) cd69 = true := by decide +kernel
set_option maxRecDepth 100000 in
theorem ck70 : raAll (chkE 70) cd70 = true := by decide +kernel
set_option maxRecDepth 100000 in
theorem ck71 : raAll (chkE 71) cd71 = true := by decide +kernel
set_option maxRecDepth 100000 in
theorem ck72 : raAll (chkE 72) cd72 = true := by decide +kernel
set_option maxRecDepth 100000 in
theorem ck73 : raAll (chkE 73) cd73 = true := by decide +kernel
set_option maxRecDepth 100000 in
theorem ck74 : raAll (chkE 74) cd74 = true := by decide +kernel
set_option maxRecDepth 100000 in
theorem ck75 : raAll (chkE 75) cd75 = true := by decide +kernel
set_option maxRecDepth 100000 in
theorem ck76 : raAll (chkE 76) cd76 = true := by decide +kernel
set_option maxRecDepth 100000 in
theorem ck77 : raAll (chkE 77) cd77 = true := by decide +kernel
set_option maxRecDepth 100000 in
theorem ck78 : raAll (chkE 78) cd78 = true := by decide +kernel
set_option maxRecDepth 100000 in
theorem ck79 : raAll (chkE 79) cd79 = true := by decide +kernel
set_option maxRecDepth 100000 in
theorem ck80 : raAll (chkE 80) cd80 = true := by decide +kernel
set_option maxRecDepth 100000 in
theorem ck81 : raAll (chkE 81) cd81 = true := by decide +kernel
set_option maxRecDepth 100000 in
theorem ck82 : raAll (chkE 82) cd82 = true := by decide +kernel
set_option maxRecDepth 100000 in
theorem ck83 : raAll (chkE 83) cd83 = true := by decide +kernel
set_option maxRecDepth 100000 in
theorem ck84 : raAll (chkE 84) cd84 = true := by decide +kernel
set_option maxRecDepth 100000 in
theorem ck85 : raAll (chkE 85) cd85 = true := by decide +kernel
set_option maxRecDepth 100000 in
theorem ck86 : raAll (chkE 86) cd86 = true := by decide +kernel
set_option maxRecDepth 100000 in
theorem ck87 : raAll (chkE 87) cd87 = true := by decide +kernel
set_option maxRecDepth 100000 in
theorem ck88 : raAll (chkE 88) cd88 = true := by decide +kernel
set_option maxRecDepth 100000 in
theorem ck89 : raAll (chkE 89) cd89 = true := by decide +kernel
set_option maxRecDepth 100000 in
theorem ck90 : raAll (chkE 90) cd90 = true := by decide +kernel
set_option maxRecDepth 100000 in
theorem ck91 : raAll (chkE 91) cd91 = true := by decide +kernel
set_option maxRecDepth 100000 in
theorem ck92 : raAll (chkE 92) cd92 = true := by decide +kernel
set_option maxRecDepth 100000 in
theorem ck93 : raAll (chkE 93) cd93 = true := by decide +kernel
set_option maxRecDepth 100000 in
theorem ck94 : raAll (chkE 94) cd94 = true := by decide +kernel
set_option maxRecDepth 100000 in
theorem ck95 : raAll (chkE 95) cd95 = true := by decide +kernel
set_option maxRecDepth 100000 in
theorem ck96 : raAll (chkE 96) cd96 = true := by decide +kernel
set_option maxRecDepth 100000 in
theorem ck97 : raAll (chkE 97) cd97 = true := by decide +kernel
set_option maxRecDepth 100000 in
theorem ck98 : raAll (chkE 98) cd98 = true := by decide +kernel
set_option maxRecDepth 100000 in
theorem ck99 : raAll (chkE 99) cd99 = true := by decide +kernel
set_option maxRecDepth 100000 in
theorem ck100 : raAll (chkE 100) cd100 = true := by decide +kernel
set_option maxRecDepth 100000 in
theorem ck101 : raAll (chkE 101) cd101 = true := by decide +kernel
set_option maxRecDepth 100000 in
theorem ck102 : raAll (chkE 102) cd102 = true := by decide +kernel
set_option maxRecDepth 100000 in
theorem ck103 : raAll (chkE 103) cd103 = true := by decide +kernel
set_option maxRecDepth 100000 in
theorem ck104 : raAll (chkE 104) cd104 = true := by decide +kernel
set_option maxRecDepth 100000 in
theorem ck105 : raAll (chkE 105) cd105 = true := by decide +kernel
set_option maxRecDepth 100000 in
theorem ck106 : raAll (chkE 106) cd106 = true := by decide +kernel
set_option maxRecDepth 100000 in
theorem ck107 : raAll (chkE 107) cd107 = true := by decide +kernel
set_option maxRecDepth 100000 in
theorem ck108 : raAll (chkE 108) cd108 = true := by decide +kernel
set_option maxRecDepth 100000 in
theorem ck109 : raAll (chkE 109) cd109 = true := by decide +kernel
set_option maxRecDepth 100000 in
theorem ck110 : raAll (chkE 110) cd110 = true := by decide +kernel
set_option maxRecDepth 100000 in
theorem ck111 : raAll (chkE 111) cd111 = true := by decide +kernel
set_option maxRecDepth 100000 in
theorem ck112 : raAll (chkE 112) cd112 = true := by decide +kernel
set_option maxRecDepth 100000 in
theorem ck113 : raAll (chkE 113) cd113 = true := by decide +kernel
set_option maxRecDepth 100000 in
theorem ck114 : raAll (chkE 114) cd114 = true := by decide +kernel
set_option maxRecDepth 100000 in
theorem ck115 : raAll (chkE 115) cd115 = true := by decide +kernel
set_option maxRecDepth 100000 in
theorem ck116 : raAll (chkE 116) cd116 = true := by decide +kernel
set_option maxRecDepth 100000 in
theorem ck117 : raAll (chkE 117) cd117 = true := by decide +kernel
set_option maxRecDepth 100000 in
theorem ck118 : raAll (chkE 118) cd118 = true := by decide +kernel
set_option maxRecDepth 100000 in
theorem ck119 : raAll (chkE 119) cd119 = true := by decide +kernel
set_option maxRecDepth 100000 in
theorem ck120 : raAll (chkE 120) cd120 = true := by decide +kernel
set_option maxRecDepth 100000 in
theorem ck121 : raAll (chkE 121) cd121 = true := by decide +kernel
set_option maxRecDepth 100000 in
theorem ck122 : raAll (chkE 122) cd122 = true := by decide +kernel
set_option maxRecDepth 100000 in
theorem ck123 : raAll (chkE 123) cd123 = true := by decide +kernel
set_option maxRecDepth 100000 in
theorem ck124 : raAll (chkE 124) cd124 = true := by decide +kernel
set_option maxRecDepth 100000 in
theorem ck125 : raAll (chkE 125) cd125 = true := by decide +kernel
set_option maxRecDepth 100000 in
theorem ck126 : raAll (chkE 126) cd126 = true := by decide +kernel
set_option maxRecDepth 100000 in
theorem ck127 : raAll (chkE 127) cd127 = true := by decide +kernel
set_option maxRecDepth 100000 in
theorem ck128 : raAll (chkE 128) cd128 = true := by decide +kernel
set_option maxRecDepth 100000 in
theorem ck129 : raAll (chkE 129) cd129 = true := by decide +kernel
set_option maxRecDepth 100000 in
theorem ck130 : raAll (chkE 130) cd130 = true := by decide +kernel
set_option maxRecDepth 100000 in
theorem ck131 : raAll (chkE 131) cd131 = true := by decide +kernel
set_option maxRecDepth 100000 in
theorem ck132 : raAll (chkE 132) cd132 = true := by decide +kernel
set_option maxRecDepth 100000 in
theorem ck133 : raAll (chkE 133) cd133 = true := by decide +kernel
set_option maxRecDepth 100000 in
theorem ck134 : raAll (chkE 134) cd134 = true := by decide +kernel
set_option maxRecDepth 100000 in
theorem ck135 : raAll (chkE 135) cd135 = true := by decide +kernel
set_option maxRecDepth 100000 in
theorem ck136 : raAll (chkE 136) cd136 = true := by decide +kernel
set_option maxRecDepth 100000 in
theorem ck137 : raAll (chkE 137) cd137 = true := by decide +kernel
set_option maxRecDepth 100000 in
theorem ck138 : raAll (chkE 138) cd138 = true := by decide +kernel
set_option maxRecDepth 100000 in
theorem ck139 : raAll (chkE 139) cd139 = true := by decide +kernel
set_option maxRecDepth 100000 in
theorem ck140 : raAll (chkE 140) cd140 = true := by decide +kernel
set_option maxRecDepth 100000 in
theorem ck141 : raAll (chkE 141) cd141 = true := by decide +kernel
set_option maxRecDepth 100000 in
theorem ck142 : raAll (chkE 142) cd142 = true := by decide +kernel
set_option maxRecDepth 100000 in
theorem ck143 : raAll (chkE 143) cd143 = true := by decide +kernel
set_option maxRecDepth 100000 in
theorem ck144 : raAll (chkE 144) cd144 = true := by decide +kernel
set_option maxRecDepth 100000 in
theorem ck145 : raAll (chkE 145) cd145 = true := by decide +kernel
set_option maxRecDepth 100000 in
theorem ck146 : raAll (chkE 146) cd146 = true := by decide +kernel
set_option maxRecDepth 100000 in
theorem ck147 : raAll (chkE 147) cd147 = true := by decide +kernel
set_option maxRecDepth 100000 in
theorem ck148 : raAll (chkE 148) cd148 = true := by decide +kernel
set_option maxRecDepth 100000 in
theorem ck149 : raAll (chkE 149) cd149 = true := by decide +kernel
set_option maxRecDepth 100000 in
theorem ck150 : raAll (chkE 150) cd150 = true := by decide +kernel
set_option maxRecDepth 100000 in
theorem ck151 : raAll (chkE 151) cd151 = true := by decide +kernel
set_option maxRecDepth 100000 in
theorem ck152 : raAll (chkE 152) cd152 = true := by decide +kernel
set_option maxRecDepth 100000 in
theorem ck153 : raAll (chkE 153) cd153 = true := by decide +kernel
set_option maxRecDepth 100000 in
theorem ck154 : raAll (chkE 154) cd154 = true := by decide +kernel
set_option maxRecDepth 100000 in
theorem ck155 : raAll (chkE 155) cd155 = true := by decide +kernel
set_option maxRecDepth 100000 in
theorem ck156 : raAll (chkE 156) cd156 = true := by decide +kernel
set_option maxRecDepth 100000 in
theorem ck157 : raAll (chkE 157) cd157 = true := by decide +kernel
set_option maxRecDepth 100000 in
theorem ck158 : raAll (chkE 158) cd158 = true := by decide +kernel
set_option maxRecDepth 100000 in
theorem ck159 : raAll (chkE 159) cd159 = true := by decide +kernel
set_option maxRecDepth 100000 in
theorem ck160 : raAll (chkE 160) cd160 = true := by decide +kernel
set_option maxRecDepth 100000 in
theorem ck161 : raAll (chkE 161) cd161 = true := by decide +kernel
set_option maxRecDepth 100000 in
theorem ck162 : raAll (chkE 162) cd162 = true := by decide +kernel
set_option maxRecDepth 100000 in
theorem ck163_0 : raAll (chkE 163) cd163_0 = true := by decide +kernel
set_option maxRecDepth 100000 in
theorem ck163_1 : raAll (chkE 163) cd163_1 = true := by decide +kernel
set_option maxRecDepth 100000 in
theorem ck163_2 : raAll (chkE 163) cd163_2 = true := by decide +kernel
set_option maxRecDepth 100000 in
theorem ck163_3 : raAll (chkE 163) cd163_3 = true := by decide +kernel
set_option maxRecDepth 100000 in
theorem ck163_4 : raAll (chkE 163) cd163_4 = true := by decide +kernel
set_option maxRecDepth 100000 in
theorem ck163_5 : raAll (chkE 163) cd163_5 = true := by decide +kernel
set_option maxRecDepth 100000 in
theorem ck163_6 : raAll (chkE 163) cd163_6 = true := by decide +kernel
set_option maxRecDepth 100000 in
theorem ck163_7 : raAll (chkE 163) cd163_7 = true := by decide +kernel
set_option maxRecDepth 100000 in
theorem ck163_8 : raAll (chkE 163) cd163_8 = true := by decide +kernel
set_option maxRecDepth 100000 in
theorem ck163 : raAll (chkE 163) cd163 = true := by
  simp only [cd163, raAll, Bool.and_eq_true]
  exact ⟨⟨⟨ck163_0, ck163_1⟩, ⟨ck163_2, ck163_3⟩⟩, ⟨⟨ck163_4, ck163_5⟩, ⟨ck163_6, ⟨ck163_7, ck163_8⟩⟩⟩⟩
set_option maxRecDepth 100000 in
theorem ck164 : raAll (chkE 164) cd164 = true := by decide +kernel
set_option maxRecDepth 100000 in
theorem ck165 : raAll (chkE 165) cd165 = true := by decide +kernel
set_option maxRecDepth 100000 in
theorem ck166 : raAll (chkE 166) cd166 = true := by decide +kernel
set_option maxRecDepth 100000 in
theorem ck167 : raAll (chkE 167) cd167 = true := by decide +kernel
set_option maxRecDepth 100000 in
theorem ck168 : raAll (chkE 168) cd168 = true := by decide +kernel
set_option maxRecDepth 100000 in
theorem ck169 : raAll (chkE 169) cd169 = true := by decide +kernel
set_option maxRecDepth 100000 in
theorem ck170 : raAll (chkE 170) cd170 = true := by decide +kernel
set_option maxRecDepth 100000 in
theorem ck171 : raAll (chkE 171) cd171 = true := by decide +kernel
set_option maxRecDepth 100000 in
theorem ck172 : raAll (chkE 172) cd172 = true := by decide +kernel
set_option maxRecDepth 100000 in
theorem ck173 : raAll (chkE 173) cd173 = true := by decide +kernel
set_option maxRecDepth 100000 in
theorem ck174 : raAll (chkE 174) cd174 = true := by decide +kernel
set_option maxRecDepth 100000 in
theorem ck175 : raAll (chkE 175) cd175 = true := by decide +kernel
set_option maxRecDepth 100000 in
theorem ck176 : raAll (chkE 176) cd176 = true := by decide +kernel
set_option maxRecDepth 100000 in
theorem ck177 : raAll (chkE 177) cd177 = true := by decide +kernel
set_option maxRecDepth 100000 in
theorem ck178 : raAll (chkE 178) cd178 = true := by decide +kernel
set_option maxRecDepth 100000 in
theorem ck179 : raAll (chkE 179) cd179 = true := by decide +kernel
set_option maxRecDepth 100000 in
theorem ck180 : raAll (chkE 180) cd180 = true := by decide +kernel
set_option maxRecDepth 100000 in
theorem ck181 : raAll (chkE 181) cd181 = true := by decide +kernel
set_option maxRecDepth 100000 in
theorem ck182 : raAll (chkE 182) cd182 = true := by decide +kernel
set_option maxRecDepth 100000 in
theorem ck183 : raAll (chkE 183) cd183 = true := by decide +kernel
set_option maxRecDepth 100000 in
theorem ck184 : raAll (chkE 184) cd184 = true := by decide +kernel
set_option maxRecDepth 100000 in
theorem ck185 : raAll (chkE 185) cd185 = true := by decide +kernel
set_option maxRecDepth 100000 in
theorem ck186 : raAll (chkE 186) cd186 = true := by decide +kernel
set_option maxRecDepth 100000 in
theorem ck187 : raAll (chkE 187) cd187 = true := by decide +kernel
set_option maxRecDepth 100000 in
theorem ck188 : raAll (chkE 188) cd188 = true := by decide +kernel
set_option maxRecDepth 100000 in
theorem ck189 : raAll (chkE 189) cd189 = true := by decide +kernel
set_option maxRecDepth 100000 in
theorem ck190 : raAll (chkE 190) cd190 = true := by decide +kernel
set_option maxRecDepth 100000 in
theorem ck191 : raAll (chkE 191) cd191 = true := by decide +kernel
set_option maxRecDepth 100000 in
theorem ck192 : raAll (chkE 192) cd192 = true := by decide +kernel
set_option maxRecDepth 100000 in
theorem ck193 : raAll (chkE 193) cd193 = true := by decide +kernel
set_option maxRecDepth 100000 in
theorem ck194 : raAll (chkE 194) cd194 = true := by decide +kernel
set_option maxRecDepth 100000 in
theorem ck195 : raAll (chkE 195) cd195 = true := by decide +kernel
set_option maxRecDepth 100000 in
theorem ck196_0 : raAll (chkE 196) cd196_0 = true := by decide +kernel
set_option maxRecDepth 100000 in
theorem ck196_1 : raAll (chkE 196) cd196_1 = true := by decide +kernel
set_option maxRecDepth 100000 in
theorem ck196_2 : raAll (chkE 196) cd196_2 = true := by decide +kernel
set_option maxRecDepth 100000 in
theorem ck196_3 : raAll (chkE 196) cd196_3 = true := by decide +kernel
set_option maxRecDepth 100000 in
theorem ck196 : raAll (chkE 196) cd196 = true := by
  simp only [cd196, raAll, Bool.and_eq_true]
  exact ⟨⟨ck196_0, ck196_1⟩, ⟨ck196_2, ck196_3⟩⟩
set_option maxRecDepth 100000 in
theorem ck197 : raAll (chkE 197) cd197 = true := by decide +kernel
set_option maxRecDepth 100000 in
theorem ck198 : raAll (chkE 198) cd198 = true := by decide +kernel
set_option maxRecDepth 100000 in
theorem ck199 : raAll (chkE 199) cd199 = true := by decide +kernel
set_option maxRecDepth 100000 in
theorem ck200 : raAll (chkE 200) cd200 = true := by decide +kernel
set_option maxRecDepth 100000 in
theorem ck201 : raAll (chkE 201) cd201 = true := by decide +kernel
set_option maxRecDepth 100000 in
theorem ck202 : raAll (chkE 202) cd202 = true := by decide +kernel
set_option maxRecDepth 100000 in
theorem ck203 : raAll (chkE 203) cd203 = true := by decide +kernel
set_option maxRecDepth 100000 in
theorem ck204_0 : raAll (chkE 204) cd204_0 = true := by decide +kernel
set_option maxRecDepth 100000 in
theorem ck204_1 : raAll (chkE 204) cd204_1 = true := by decide +kernel
set_option maxRecDepth 100000 in
theorem ck204_2 : raAll (chkE 204) cd204_2 = true := by decide +kernel
set_option maxRecDepth 100000 in
theorem ck204_3 : raAll (chkE 204) cd204_3 = true := by decide +kernel
set_option maxRecDepth 100000 in
theorem ck204 : raAll (chkE 204) cd204 = true := by
  simp only [cd204, raAll, Bool.and_eq_true]
  exact ⟨⟨ck204_0, ck204_1⟩, ⟨ck204_2, ck204_3⟩⟩
set_option maxRecDepth 100000 in
theorem ck205 : raAll (chkE 205) cd205 = true := by decide +kernel
set_option maxRecDepth 100000 in
theorem ck206 : raAll (chkE 206) cd206 = true := by decide +kernel
set_option maxRecDepth 100000 in
theorem ck207 : raAll (chkE 207) cd207 = true := by decide +kernel
set_option maxRecDepth 100000 in
theorem ck208 : raAll (chkE 208) cd208 = true := by decide +kernel
set_option maxRecDepth 100000 in
theorem ck209 : raAll (chkE 209) cd209 = true := by decide +kernel
set_option maxRecDepth 100000 in
theorem ck210 : raAll (chkE 210) cd210 = true := by decide +kernel
set_option maxRecDepth 100000 in
theorem ck211 : raAll (chkE 211) cd211 = true := by decide +kernel
set_option maxRecDepth 100000 in
theorem ck212 : raAll (chkE 212) cd212 = true := by decide +kernel
set_option maxRecDepth 100000 in
theorem ck213 : raAll (chkE 213) cd213 = true := by decide +kernel
set_option maxRecDepth 100000 in
theorem ck214 : raAll (chkE 214) cd214 = true := by decide +kernel
set_option maxRecDepth 100000 in
theorem ck215 : raAll (chkE 215) cd215 = true := by decide +kernel
set_option maxRecDepth 100000 in
theorem ck216 : raAll (chkE 216) cd216 = true := by decide +kernel
set_option maxRecDepth 100000 in
theorem ck217 : raAll (chkE 217) cd217 = true := by decide +kernel
set_option maxRecDepth 100000 in
theorem ck218 : raAll (chkE 218) cd218 = true := by decide +kernel
set_option maxRecDepth 100000 in
theorem ck219 : raAll (chkE 219) cd219 = true := by decide +kernel
set_option maxRecDepth 100000 in
theorem ck220 : raAll (chkE 220) cd220 = true := by decide +kernel
set_option maxRecDepth 100000 in
theorem ck221_0 : raAll (chkE 221) cd221_0 = true := by decide +kernel
set_option maxRecDepth 100000 in
theorem ck221_1 : raAll (chkE 221) cd221_1 = true := by decide +kernel
set_option maxRecDepth 100000 in
theorem ck221_2 : raAll (chkE 221) cd221_2 = true := by decide +kernel
set_option maxRecDepth 100000 in
theorem ck221_3 : raAll (chkE 221) cd221_3 = true := by decide +kernel
set_option maxRecDepth 100000 in
theorem ck221 : raAll (chkE 221) cd221 = true := by
  simp only [cd221, raAll, Bool.and_eq_true]
  exact ⟨⟨ck221_0, ck221_1⟩, ⟨ck221_2, ck221_3⟩⟩
set_option maxRecDepth 100000 in
theorem ck222_0 : raAll (chkE 222) cd222_0 = true := by decide +kernel
set_option maxRecDepth 100000 in
theorem ck222_1 : raAll (chkE 222) cd222_1 = true := by decide +kernel
set_option maxRecDepth 100000 in
theorem ck222_2 : raAll (chkE 222) cd222_2 = true := by decide +kernel
set_option maxRecDepth 100000 in
theorem ck222_3 : raAll (chkE 222) cd222_3 = true := by decide +kernel
set_option maxRecDepth 100000 in
theorem ck222 : raAll (chkE 222) cd222 = true := by
  simp only [cd222, raAll, Bool.and_eq_true]
  exact ⟨⟨ck222_0, ck222_1⟩, ⟨ck222_2, ck222_3⟩⟩
set_option maxRecDepth 100000 in
theorem ck223 : raAll (chkE 223) cd223 = true := by decide +kernel
set_option maxRecDepth 100000 in
theorem ck224 : raAll (chkE 224) cd224 = true := by decide +kernel
set_option maxRecDepth 100000 in
theorem ck225 : raAll (chkE 225) cd225 = true := by decide +kernel
set_option maxRecDepth 100000 in
theorem ck226_0 : raAll (chkE 226) cd226_0 = true := by decide +kernel
set_option maxRecDepth 100000 in
theorem ck226_1 : raAll (chkE 226) cd226_1 = true := by decide +kernel
set_option maxRecDepth 100000 in
theorem ck226_2 : raAll (chkE 226) cd226_2 = true := by decide +kernel
set_option maxRecDepth 100000 in
theorem ck226_3 : raAll (chkE 226) cd226_3 = true := by decide +kernel
set_option maxRecDepth 100000 in
theorem ck226_4 : raAll (chkE 226) cd226_4 = true := by decide +kernel
set_option maxRecDepth 100000 in
theorem ck226 : raAll (chkE 226) cd226 = true := by
  simp only [cd226, raAll, Bool.and_eq_true]
  exact ⟨⟨ck226_0, ck226_1⟩, ⟨ck226_2, ⟨ck226_3, ck226_4⟩⟩⟩
set_option maxRecDepth 100000 in
theorem ck227 : raAll (chkE 227) cd227 = true := by decide +kernel
set_option maxRecDepth 100000 in
theorem ck228 : raAll (chkE 228) cd228 = true := by decide +kernel
set_option maxRecDepth 100000 in
theorem ck229 : raAll (chkE 229) cd229 = true := by decide +kernel
set_option maxRecDepth 100000 in
theorem ck230 : raAll (chkE 230) cd230 = true := by decide +kernel
set_option maxRecDepth 100000 in
theorem ck231 : raAll (chkE 231) cd231 = true := by decide +kernel
set_option maxRecDepth 100000 in
theorem ck232 : raAll (chkE 232) cd232 = true := by decide +kernel
set_option maxRecDepth 100000 in
theorem ck233 : raAll (chkE 233) cd233 = true := by decide +kernel
set_option maxRecDepth 100000 in
theorem ck234 : raAll (chkE 234) cd234 = true := by decide +kernel
set_option maxRecDepth 100000 in
theorem ck235 : raAll (chkE 235) cd235 = true := by decide +kernel
set_option maxRecDepth 100000 in
theorem ck236 : raAll (chkE 236) cd236 = true := by decide +kernel
set_option maxRecDepth 100000 in
theorem ck237 : raAll (chkE 237) cd237 = true := by decide +kernel
set_option maxRecDepth 100000 in
theorem ck238 : raAll (chkE 238) cd238 = true := by decide +kernel
set_option maxRecDepth 100000 in
theorem ck239 : raAll (chkE 239) cd239 = true := by decide +kernel
set_option maxRecDepth 100000 in
theorem ck240 : raAll (chkE 240) cd240 = true := by decide +kernel
set_option maxRecDepth 100000 in
theorem ck241 : raAll (chkE 241) cd241 = true := by decide +kernel
set_option maxRecDepth 100000 in
theorem ck242 : raAll (chkE 242) cd242 = true := by decide +kernel
set_option maxRecDepth 100000 in
theorem ck243 : raAll (chkE 243) cd243 = true := by decide +kernel
set_option maxRecDepth 100000 in
theorem ck244 : raAll (chkE 244) cd244 = true := by decide +kernel
set_option maxRecDepth 100000 in
theorem ck245 : raAll (chkE 245) cd245 = true := by decide +kernel
set_option maxRecDepth 100000 in
theorem ck246 : raAll (chkE 246) cd246 = true := by decide +kernel
set_option maxRecDepth 100000 in
theorem ck247 : raAll (chkE 247) cd247 = true := by decide +kernel
set_option maxRecDepth 100000 in
theorem ck248 : raAll (chkE 248) cd248 = true := by decide +kernel
set_option maxRecDepth 100000 in
theorem ck249 : raAll (chkE 249) cd249 = true := by decide +kernel
set_option maxRecDepth 100000 in
theorem ck250 : raAll (chkE 250) cd250 = true := by decide +kernel
set_option maxRecDepth 100000 in
theorem ck251 : raAll (chkE 251) cd251 = true := by decide +kernel
set_option maxRecDepth 100000 in
theorem ck252 : raAll (chkE 252) cd252 = true := by decide +kernel
set_option maxRecDepth 100000 in
theorem ck253 : raAll (chkE 253) cd253 = true := by decide +kernel
set_option maxRecDepth 100000 in
theorem ck254 : raAll (chkE 254) cd254 = true := by decide +kernel
set_option maxRecDepth 100000 in
theorem ck255 : raAll (chkE 255) cd255 = true := by decide +kernel
set_option maxRecDepth 100000 in
theorem ck256 : raAll (chkE 256) cd256 = true := by decide +kernel
set_option maxRecDepth 100000 in
theorem ck257 : raAll (chkE 257) cd257 = true := by decide +kernel
set_option maxRecDepth 100000 in
theorem ck258 : raAll (chkE 258) cd258 = true := by decide +kernel
set_option maxRecDepth 100000 in
theorem ck259 : raAll (chkE 259) cd259 = true := by decide +kernel
set_option maxRecDepth 100000 in
theorem ck260 : raAll (chkE 260) cd260 = true := by decide +kernel
set_option maxRecDepth 100000 in
theorem ck261 : raAll (chkE 261) cd261 = true := by decide +kernel
set_option maxRecDepth 100000 in
theorem ck262 : raAll (chkE 262) cd262 = true := by decide +kernel
set_option maxRecDepth 100000 in
theorem ck263 : raAll (chkE 263) cd263 = true := by decide +kernel
set_option maxRecDepth 100000 in
theorem ck264 : raAll (chkE 264) cd264 = true := by decide +kernel
set_option maxRecDepth 100000 in
theorem ck265 : raAll (chkE 265) cd265 = true := by decide +kernel
set_option maxRecDepth 100000 in
theorem ck266 : raAll (chkE 266) cd266 = true := by decide +kernel
set_option maxRecDepth 100000 in
theorem ck267 : raAll (chkE 267) cd267 = true := by decide +kernel
set_option maxRecDepth 100000 in
theorem ck268 : raAll (chkE 268) cd268 = true := by decide +kernel
set_option maxRecDepth 100000 in
theorem ck269 : raAll (chkE 269) cd269 = true := by decide +kernel
set_option maxRecDepth 100000 in
theorem ck270 : raAll (chkE 270) cd270 = true := by decide +kernel
set_option maxRecDepth 100000 in
theorem ck271 : raAll (chkE 271) cd271 = true := by decide +kernel
set_option maxRecDepth 100000 in
theorem ck272 : raAll (chkE 272) cd272 = true := by decide +kernel
set_option maxRecDepth 100000 in
theorem ck273 : raAll (chkE 273) cd273 = true := by decide +kernel
set_option maxRecDepth 100000 in
theorem ck274 : raAll (chkE 274) cd274 = true := by decide +kernel
set_option maxRecDepth 100000 in
theorem ck275 : raAll (chkE 275) cd275 = true := by decide +kernel
set_option maxRecDepth 100000 in
theorem ck276 : raAll (chkE 276) cd276 = true := by decide +kernel
set_option maxRecDepth 100000 in
theorem ck277 : raAll (chkE 277) cd277 = true := by decide +kernel
set_option maxRecDepth 100000 in
theorem ck278 : raAll (chkE 278) cd278 = true := by decide +kernel
set_option maxRecDepth 100000 in
theorem ck279 : raAll (chkE 279) cd279 = true := by decide +kernel
set_option maxRecDepth 100000 in
theorem ck280 : raAll (chkE 280) cd280 = true := by decide +kernel
set_option maxRecDepth 100000 in
theorem ck281 : raAll (chkE 281) cd281 = true := by decide +kernel
set_option maxRecDepth 100000 in
theorem ck282 : raAll (chkE 282) cd282 = true := by decide +kernel
set_option maxRecDepth 100000 in
theorem ck283 : raAll (chkE 283) cd283 = true := by decide +kernel
set_option maxRecDepth 100000 in
theorem ck284 : raAll (chkE 284) cd284 = true := by decide +kernel
set_option maxRecDepth 100000 in
theorem ck285 : raAll (chkE 285) cd285 = true := by decide +kernel
end
