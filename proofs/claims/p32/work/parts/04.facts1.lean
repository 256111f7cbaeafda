def xdf (i : Nat) : Prop := ∀ pc x, xop i pc = some x → decode (xcode i) pc = .ok x
theorem xd0 : xdf 0 := fun _ _ h => xchk_ok xk0 xn0 h
theorem xd1 : xdf 1 := fun _ _ h => xchk_ok xk1 xn1 h
theorem xd2 : xdf 2 := fun _ _ h => xchk_ok xk2 xn2 h
theorem xd3 : xdf 3 := fun _ _ h => xchk_ok xk3 xn3 h
theorem xd4 : xdf 4 := fun _ _ h => xchk_ok xk4 xn4 h
theorem xd5 : xdf 5 := fun _ _ h => xchk_ok xk5 xn5 h
theorem xd6 : xdf 6 := fun _ _ h => xchk_ok xk6 xn6 h
theorem xd7 : xdf 7 := fun _ _ h => xchk_ok xk7 xn7 h
theorem xd8 : xdf 8 := fun _ _ h => xchk_ok xk8 xn8 h
theorem xd9 : xdf 9 := fun _ _ h => xchk_ok xk9 xn9 h
theorem xd10 : xdf 10 := fun _ _ h => xchk_ok xk10 xn10 h
theorem xd11 : xdf 11 := fun _ _ h => xchk_ok xk11 xn11 h
theorem xd12 : xdf 12 := fun _ _ h => xchk_ok xk12 xn12 h
theorem xd13 : xdf 13 := fun _ _ h => xchk_ok xk13 xn13 h
theorem xd14 : xdf 14 := fun _ _ h => xchk_ok xk14 xn14 h
theorem xd15 : xdf 15 := fun _ _ h => xchk_ok xk15 xn15 h
theorem xd16 : xdf 16 := fun _ _ h => xchk_ok xk16 xn16 h
theorem xd17 : xdf 17 := fun _ _ h => xchk_ok xk17 xn17 h
theorem xd18 : xdf 18 := fun _ _ h => xchk_ok xk18 xn18 h
theorem xd19 : xdf 19 := fun _ _ h => xchk_ok xk19 xn19 h
theorem xd20 : xdf 20 := fun _ _ h => xchk_ok xk20 xn20 h
theorem xd21 : xdf 21 := fun _ _ h => xchk_ok xk21 xn21 h
theorem xd22 : xdf 22 := fun _ _ h => xchk_ok xk22 xn22 h
theorem xd23 : xdf 23 := fun _ _ h => xchk_ok xk23 xn23 h
theorem xd24 : xdf 24 := fun _ _ h => xchk_ok xk24 xn24 h
theorem xd25 : xdf 25 := fun _ _ h => xchk_ok xk25 xn25 h
theorem xd26 : xdf 26 := fun _ _ h => xchk_ok xk26 xn26 h
theorem xd27 : xdf 27 := fun _ _ h => xchk_ok xk27 xn27 h
theorem xd28 : xdf 28 := fun _ _ h => xchk_ok xk28 xn28 h
theorem xd29 : xdf 29 := fun _ _ h => xchk_ok xk29 xn29 h
theorem xd30 : xdf 30 := fun _ _ h => xchk_ok xk30 xn30 h
theorem xd31 : xdf 31 := fun _ _ h => xchk_ok xk31 xn31 h
theorem xd32 : xdf 32 := fun _ _ h => xchk_ok xk32 xn32 h
theorem xd33 : xdf 33 := fun _ _ h => xchk_ok xk33 xn33 h
theorem xd34 : xdf 34 := fun _ _ h => xchk_ok xk34 xn34 h
theorem xd35 : xdf 35 := fun _ _ h => xchk_ok xk35 xn35 h
theorem xd36 : xdf 36 := fun _ _ h => xchk_ok xk36 xn36 h
theorem xd37 : xdf 37 := fun _ _ h => xchk_ok xk37 xn37 h
theorem xd38 : xdf 38 := fun _ _ h => xchk_ok xk38 xn38 h
theorem xd39 : xdf 39 := fun _ _ h => xchk_ok xk39 xn39 h
theorem xd40 : xdf 40 := fun _ _ h => xchk_ok xk40 xn40 h
theorem xd41 : xdf 41 := fun _ _ h => xchk_ok xk41 xn41 h
theorem xd42 : xdf 42 := fun _ _ h => xchk_ok xk42 xn42 h
theorem xd43 : xdf 43 := fun _ _ h => xchk_ok xk43 xn43 h
theorem xd44 : xdf 44 := fun _ _ h => xchk_ok xk44 xn44 h
theorem xd45 : xdf 45 := fun _ _ h => xchk_ok xk45 xn45 h
theorem xd46 : xdf 46 := fun _ _ h => xchk_ok xk46 xn46 h
theorem xd47 : xdf 47 := fun _ _ h => xchk_ok xk47 xn47 h
theorem xd48 : xdf 48 := fun _ _ h => xchk_ok xk48 xn48 h
theorem xd49 : xdf 49 := fun _ _ h => xchk_ok xk49 xn49 h
theorem xd50 : xdf 50 := fun _ _ h => xchk_ok xk50 xn50 h
theorem xd51 : xdf 51 := fun _ _ h => xchk_ok xk51 xn51 h
theorem xd52 : xdf 52 := fun _ _ h => xchk_ok xk52 xn52 h
theorem xd53 : xdf 53 := fun _ _ h => xchk_ok xk53 xn53 h
theorem xd54 : xdf 54 := fun _ _ h => xchk_ok xk54 xn54 h
theorem xd55 : xdf 55 := fun _ _ h => xchk_ok xk55 xn55 h
theorem xd56 : xdf 56 := fun _ _ h => xchk_ok xk56 xn56 h
theorem xd57 : xdf 57 := fun _ _ h => xchk_ok xk57 xn57 h
theorem xd58 : xdf 58 := fun _ _ h => xchk_ok xk58 xn58 h
theorem xd59 : xdf 59 := fun _ _ h => xchk_ok xk59 xn59 h
theorem xd60 : xdf 60 := fun _ _ h => xchk_ok xk60 xn60 h
theorem xd61 : xdf 61 := fun _ _ h => xchk_ok xk61 xn61 h
theorem xd62 : xdf 62 := fun _ _ h => xchk_ok xk62 xn62 h
theorem xd63 : xdf 63 := fun _ _ h => xchk_ok xk63 xn63 h
theorem xd64 : xdf 64 := fun _ _ h => xchk_ok xk64 xn64 h
theorem xd65 : xdf 65 := fun _ _ h => xchk_ok xk65 xn65 h
theorem xd66 : xdf 66 := fun _ _ h => xchk_ok xk66 xn66 h
theorem xd67 : xdf 67 := fun _ _ h => xchk_ok xk67 xn67 h
theorem xd68 : xdf 68 := fun _ _ h => xchk_ok xk68 xn68 h
theorem xd69 : xdf 69 := fun _ _ h => xchk_ok xk69 xn69 h
theorem xd70 : xdf 70 := fun _ _ h => xchk_ok xk70 xn70 h
theorem xd71 : xdf 71 := fun _ _ h => xchk_ok xk71 xn71 h
theorem xd72 : xdf 72 := fun _ _ h => xchk_ok xk72 xn72 h
theorem xd73 : xdf 73 := fun _ _ h => xchk_ok xk73 xn73 h
theorem xd74 : xdf 74 := fun _ _ h => xchk_ok xk74 xn74 h
theorem xd75 : xdf 75 := fun _ _ h => xchk_ok xk75 xn75 h
theorem xd76 : xdf 76 := fun _ _ h => xchk_ok xk76 xn76 h
theorem xd77 : xdf 77 := fun _ _ h => xchk_ok xk77 xn77 h
theorem xd78 : xdf 78 := fun _ _ h => xchk_ok xk78 xn78 h
theorem xd79 : xdf 79 := fun _ _ h => xchk_ok xk79 xn79 h
theorem xd80 : xdf 80 := fun _ _ h => xchk_ok xk80 xn80 h
theorem xd81 : xdf 81 := fun _ _ h => xchk_ok xk81 xn81 h
theorem xd82 : xdf 82 := fun _ _ h => xchk_ok xk82 xn82 h
theorem xd83 : xdf 83 := fun _ _ h => xchk_ok xk83 xn83 h
theorem xd84 : xdf 84 := fun _ _ h => xchk_ok xk84 xn84 h
theorem xd85 : xdf 85 := fun _ _ h => xchk_ok xk85 xn85 h
theorem xd86 : xdf 86 := fun _ _ h => xchk_ok xk86 xn86 h
theorem xd87 : xdf 87 := fun _ _ h => xchk_ok xk87 xn87 h
theorem xd88 : xdf 88 := fun _ _ h => xchk_ok xk88 xn88 h
theorem xd89 : xdf 89 := fun _ _ h => xchk_ok xk89 xn89 h
theorem xd90 : xdf 90 := fun _ _ h => xchk_ok xk90 xn90 h
theorem xd91 : xdf 91 := fun _ _ h => xchk_ok xk91 xn91 h
theorem xd92 : xdf 92 := fun _ _ h => xchk_ok xk92 xn92 h
theorem xd93 : xdf 93 := fun _ _ h => xchk_ok xk93 xn93 h
theorem xd94 : xdf 94 := fun _ _ h => xchk_ok xk94 xn94 h
theorem xd95 : xdf 95 := fun _ _ h => xchk_ok xk95 xn95 h
theorem xd96 : xdf 96 := fun _ _ h => xchk_ok xk96 xn96 h
theorem xd97 : xdf 97 := fun _ _ h => xchk_ok xk97 xn97 h
theorem xd98 : xdf 98 := fun _ _ h => xchk_ok xk98 xn98 h
theorem xd99 : xdf 99 := fun _ _ h => xchk_ok xk99 xn99 h
theorem xd100 : xdf 100 := fun _ _ h => xchk_ok xk100 xn100 h
theorem xd101 : xdf 101 := fun _ _ h => xchk_ok xk101 xn101 h
theorem xd102 : xdf 102 := fun _ _ h => xchk_ok xk102 xn102 h
theorem xd103 : xdf 103 := fun _ _ h => xchk_ok xk103 xn103 h
theorem xd104 : xdf 104 := fun _ _ h => xchk_ok xk104 xn104 h
theorem xd105 : xdf 105 := fun _ _ h => xchk_ok xk105 xn105 h
theorem xd106 : xdf 106 := fun _ _ h => xchk_ok xk106 xn106 h
theorem xd107 : xdf 107 := fun _ _ h => xchk_ok xk107 xn107 h
theorem xd108 : xdf 108 := fun _ _ h => xchk_ok xk108 xn108 h
theorem xd109 : xdf 109 := fun _ _ h => xchk_ok xk109 xn109 h
theorem xd110 : xdf 110 := fun _ _ h => xchk_ok xk110 xn110 h
theorem xd111 : xdf 111 := fun _ _ h => xchk_ok xk111 xn111 h
theorem xd112 : xdf 112 := fun _ _ h => xchk_ok xk112 xn112 h
theorem xd113 : xdf 113 := fun _ _ h => xchk_ok xk113 xn113 h
theorem xd114 : xdf 114 := fun _ _ h => xchk_ok xk114 xn114 h
theorem xd115 : xdf 115 := fun _ _ h => xchk_ok xk115 xn115 h
theorem xd116 : xdf 116 := fun _ _ h => xchk_ok xk116 xn116 h
theorem xd117 : xdf 117 := fun _ _ h => xchk_ok xk117 xn117 h
theorem xd118 : xdf 118 := fun _ _ h => xchk_ok xk118 xn118 h
theorem xd119 : xdf 119 := fun _ _ h => xchk_ok xk119 xn119 h
theorem xd120 : xdf 120 := fun _ _ h => xchk_ok xk120 xn120 h
theorem xd121 : xdf 121 := fun _ _ h => xchk_ok xk121 xn121 h
theorem xd122 : xdf 122 := fun _ _ h => xchk_ok xk122 xn122 h
theorem xd123 : xdf 123 := fun _ _ h => xchk_ok xk123 xn123 h
theorem xd124 : xdf 124 := fun _ _ h => xchk_ok xk124 xn124 h
theorem xd125 : xdf 125 := fun _ _ h => xchk_ok xk125 xn125 h
theorem xd126 : xdf 126 := fun _ _ h => xchk_ok xk126 xn126 h
theorem xd127 : xdf 127 := fun _ _ h => xchk_ok xk127 xn127 h
theorem xd128 : xdf 128 := fun _ _ h => xchk_ok xk128 xn128 h
theorem xd129 : xdf 129 := fun _ _ h => xchk_ok xk129 xn129 h
theorem xd130 : xdf 130 := fun _ _ h => xchk_ok xk130 xn130 h
theorem xd131 : xdf 131 := fun _ _ h => xchk_ok xk131 xn131 h
theorem xd132 : xdf 132 := fun _ _ h => xchk_ok xk132 xn132 h
theorem xd133 : xdf 133 := fun _ _ h => xchk_ok xk133 xn133 h
theorem xd134 : xdf 134 := fun _ _ h => xchk_ok xk134 xn134 h
theorem xd135 : xdf 135 := fun _ _ h => xchk_ok xk135 xn135 h
theorem xd136 : xdf 136 := fun _ _ h => xchk_ok xk136 xn136 h
theorem xd137 : xdf 137 := fun _ _ h => xchk_ok xk137 xn137 h
theorem xd138 : xdf 138 := fun _ _ h => xchk_ok xk138 xn138 h
theorem xd139 : xdf 139 := fun _ _ h => xchk_ok xk139 xn139 h
theorem xd140 : xdf 140 := fun _ _ h => xchk_ok xk140 xn140 h
theorem xd141 : xdf 141 := fun _ _ h => xchk_ok xk141 xn141 h
theorem xd142 : xdf 142 := fun _ _ h => xchk_ok xk142 xn142 h
theorem xd143 : xdf 143 := fun _ _ h => xchk_ok xk143 xn143 h
theorem xd144 : xdf 144 := fun _ _ h => xchk_ok xk144 xn144 h
theorem xd145 : xdf 145 := fun _ _ h => xchk_ok xk145 xn145 h
theorem xd146 : xdf 146 := fun _ _ h => xchk_ok xk146 xn146 h
theorem xd147 : xdf 147 := fun _ _ h => xchk_ok xk147 xn147 h
theorem xd148 : xdf 148 := fun _ _ h => xchk_ok xk148 xn148 h
theorem xd149 : xdf 149 := fun _ _ h => xchk_ok xk149 xn149 h
theorem xd150 : xdf 150 := fun _ _ h => xchk_ok xk150 xn150 h
theorem xd151 : xdf 151 := fun _ _ h => xchk_ok xk151 xn151 h
theorem xd152 : xdf 152 := fun _ _ h => xchk_ok xk152 xn152 h
theorem xd153 : xdf 153 := fun _ _ h => xchk_ok xk153 xn153 h
theorem xd154 : xdf 154 := fun _ _ h => xchk_ok xk154 xn154 h
theorem xd155 : xdf 155 := fun _ _ h => xchk_ok xk155 xn155 h
theorem xd156 : xdf 156 := fun _ _ h => xchk_ok xk156 xn156 h
theorem xd157 : xdf 157 := fun _ _ h => xchk_ok xk157 xn157 h
theorem xd158 : xdf 158 := fun _ _ h => xchk_ok xk158 xn158 h
theorem xd159 : xdf 159 := fun _ _ h => xchk_ok xk159 xn159 h
theorem xd160 : xdf 160 := fun _ _ h => xchk_ok xk160 xn160 h
theorem xd161 : xdf 161 := fun _ _ h => xchk_ok xk161 xn161 h
theorem xd162 : xdf 162 := fun _ _ h => xchk_ok xk162 xn162 h
theorem xd163 : xdf 163 := fun _ _ h => xchk_ok xk163 xn163 h
theorem xd164 : xdf 164 := fun _ _ h => xchk_ok xk164 xn164 h
theorem xd165 : xdf 165 := fun _ _ h => xchk_ok xk165 xn165 h
theorem xd166 : xdf 166 := fun _ _ h => xchk_ok xk166 xn166 h
theorem xd167 : xdf 167 := fun _ _ h => xchk_ok xk167 xn167 h
theorem xd168 : xdf 168 := fun _ _ h => xchk_ok xk168 xn168 h
theorem xd169 : xdf 169 := fun _ _ h => xchk_ok xk169 xn169 h
theorem xd170 : xdf 170 := fun _ _ h => xchk_ok xk170 xn170 h
theorem xd171 : xdf 171 := fun _ _ h => xchk_ok xk171 xn171 h
set_option maxRecDepth 20000 in
theorem xd_all : ∀ j, j < 172 → xdf j := lt_s (lt_s (lt_s (lt_s (lt_s (lt_s (lt_s (lt_s (lt_s (lt_s (lt_s (lt_s (lt_s (lt_s (lt_s (lt_s (lt_s (lt_s (lt_s (lt_s (lt_s (lt_s (lt_s (lt_s (lt_s (lt_s (lt_s (lt_s (lt_s (lt_s (lt_s (lt_s (lt_s (lt_s (lt_s (lt_s (lt_s (lt_s (lt_s (lt_s (lt_s (lt_s (lt_s (lt_s (lt_s (lt_s (lt_s (lt_s (lt_s (lt_s (lt_s (lt_s (lt_s (lt_s (lt_s (lt_s (lt_s (lt_s (lt_s (lt_s (lt_s (lt_s (lt_s (lt_s (lt_s (lt_s (lt_s (lt_s (lt_s (lt_s (lt_s (lt_s (lt_s (lt_s (lt_s (lt_s (lt_s (lt_s (lt_s (lt_s (lt_s (lt_s (lt_s (lt_s (lt_s (lt_s (lt_s (lt_s (lt_s (lt_s (lt_s (lt_s (lt_s (lt_s (lt_s (lt_s (lt_s (lt_s (lt_s (lt_s (lt_s (lt_s (lt_s (lt_s (lt_s (lt_s (lt_s (lt_s (lt_s (lt_s (lt_s (lt_s (lt_s (lt_s (lt_s (lt_s (lt_s (lt_s (lt_s (lt_s (lt_s (lt_s (lt_s (lt_s (lt_s (lt_s (lt_s (lt_s (lt_s (lt_s (lt_s (lt_s (lt_s (lt_s (lt_s (lt_s (lt_s (lt_s (lt_s (lt_s (lt_s (lt_s (lt_s (lt_s (lt_s (lt_s (lt_s (lt_s (lt_s (lt_s (lt_s (lt_s (lt_s (lt_s (lt_s (lt_s (lt_s (lt_s (lt_s (lt_s (lt_s (lt_s (lt_s (lt_s (lt_s (lt_s (lt_s (lt_s (lt_s (lt_s (lt_s (lt_s (lt_0) xd0) xd1) xd2) xd3) xd4) xd5) xd6) xd7) xd8) xd9) xd10) xd11) xd12) xd13) xd14) xd15) xd16) xd17) xd18) xd19) xd20) xd21) xd22) xd23) xd24) xd25) xd26) xd27) xd28) xd29) xd30) xd31) xd32) xd33) xd34) xd35) xd36) xd37) xd38) xd39) xd40) xd41) xd42) xd43) xd44) xd45) xd46) xd47) xd48) xd49) xd50) xd51) xd52) xd53) xd54) xd55) xd56) xd57) xd58) xd59) xd60) xd61) xd62) xd63) xd64) xd65) xd66) xd67) xd68) xd69) xd70) xd71) xd72) xd73) xd74) xd75) xd76) xd77) xd78) xd79) xd80) xd81) xd82) xd83) xd84) xd85) xd86) xd87) xd88) xd89) xd90) xd91) xd92) xd93) xd94) xd95) xd96) xd97) xd98) xd99) xd100) xd101) xd102) xd103) xd104) xd105) xd106) xd107) xd108) xd109) xd110) xd111) xd112) xd113) xd114) xd115) xd116) xd117) xd118) xd119) xd120) xd121) xd122) xd123) xd124) xd125) xd126) xd127) xd128) xd129) xd130) xd131) xd132) xd133) xd134) xd135) xd136) xd137) xd138) xd139) xd140) xd141) xd142) xd143) xd144) xd145) xd146) xd147) xd148) xd149) xd150) xd151) xd152) xd153) xd154) xd155) xd156) xd157) xd158) xd159) xd160) xd161) xd162) xd163) xd164) xd165) xd166) xd167) xd168) xd169) xd170) xd171
set_option maxRecDepth 100000 in
theorem xfl_c : ((List.range 20).all fun o => (List.range 1100).all fun q => match xfl o q with | none => true | some e => decide ((o, q, e) ∈ xflL)) = true := by decide +kernel
theorem xfl_in {o q : Nat} {e} (h : xfl o q = some e) : (o, q, e) ∈ xflL := by
  have ho : o < 20 ∧ q < 1100 := by
    cases hc : (Nat.blt o 20 && Nat.blt q 1100) with
    | true =>
      simp only [Bool.and_eq_true] at hc
      exact ⟨Nat.le_of_ble_eq_true hc.1, Nat.le_of_ble_eq_true hc.2⟩
    | false => unfold xfl at h; rw [hc] at h; cases h
  have h1 := List.all_eq_true.mp (List.all_eq_true.mp xfl_c o (List.mem_range.mpr ho.1)) q (List.mem_range.mpr ho.2)
  rw [h] at h1
  exact of_decide_eq_true h1
set_option maxRecDepth 100000 in
theorem xcl_c : ((List.range 20).all fun o => (List.range 1100).all fun q => match xcl o q with | none => true | some e => decide ((o, q, e) ∈ xclL)) = true := by decide +kernel
theorem xcl_in {o q : Nat} {e} (h : xcl o q = some e) : (o, q, e) ∈ xclL := by
  have ho : o < 20 ∧ q < 1100 := by
    cases hc : (Nat.blt o 20 && Nat.blt q 1100) with
    | true =>
      simp only [Bool.and_eq_true] at hc
      exact ⟨Nat.le_of_ble_eq_true hc.1, Nat.le_of_ble_eq_true hc.2⟩
    | false => unfold xcl at h; rw [hc] at h; cases h
  have h1 := List.all_eq_true.mp (List.all_eq_true.mp xcl_c o (List.mem_range.mpr ho.1)) q (List.mem_range.mpr ho.2)
  rw [h] at h1
  exact of_decide_eq_true h1
set_option maxRecDepth 100000 in
theorem xnw_c : ((List.range 20).all fun o => (List.range 1100).all fun q => match xnw o q with | none => true | some e => decide ((o, q, e) ∈ xnwL)) = true := by decide +kernel
theorem xnw_in {o q : Nat} {e} (h : xnw o q = some e) : (o, q, e) ∈ xnwL := by
  have ho : o < 20 ∧ q < 1100 := by
    cases hc : (Nat.blt o 20 && Nat.blt q 1100) with
    | true =>
      simp only [Bool.and_eq_true] at hc
      exact ⟨Nat.le_of_ble_eq_true hc.1, Nat.le_of_ble_eq_true hc.2⟩
    | false => unfold xnw at h; rw [hc] at h; cases h
  have h1 := List.all_eq_true.mp (List.all_eq_true.mp xnw_c o (List.mem_range.mpr ho.1)) q (List.mem_range.mpr ho.2)
  rw [h] at h1
  exact of_decide_eq_true h1
set_option maxRecDepth 100000 in
theorem xkI_c : ((List.range 20).all fun o => (List.range 1100).all fun q => match xkI o q with | none => true | some e => decide ((o, q, e) ∈ xkIL)) = true := by decide +kernel
theorem xkI_in {o q : Nat} {e} (h : xkI o q = some e) : (o, q, e) ∈ xkIL := by
  have ho : o < 20 ∧ q < 1100 := by
    cases hc : (Nat.blt o 20 && Nat.blt q 1100) with
    | true =>
      simp only [Bool.and_eq_true] at hc
      exact ⟨Nat.le_of_ble_eq_true hc.1, Nat.le_of_ble_eq_true hc.2⟩
    | false => unfold xkI at h; rw [hc] at h; cases h
  have h1 := List.all_eq_true.mp (List.all_eq_true.mp xkI_c o (List.mem_range.mpr ho.1)) q (List.mem_range.mpr ho.2)
  rw [h] at h1
  exact of_decide_eq_true h1
set_option maxRecDepth 100000 in
theorem xkJ_c : ((List.range 20).all fun o => (List.range 1100).all fun q => match xkJ o q with | none => true | some e => decide ((o, q, e) ∈ xkJL)) = true := by decide +kernel
theorem xkJ_in {o q : Nat} {e} (h : xkJ o q = some e) : (o, q, e) ∈ xkJL := by
  have ho : o < 20 ∧ q < 1100 := by
    cases hc : (Nat.blt o 20 && Nat.blt q 1100) with
    | true =>
      simp only [Bool.and_eq_true] at hc
      exact ⟨Nat.le_of_ble_eq_true hc.1, Nat.le_of_ble_eq_true hc.2⟩
    | false => unfold xkJ at h; rw [hc] at h; cases h
  have h1 := List.all_eq_true.mp (List.all_eq_true.mp xkJ_c o (List.mem_range.mpr ho.1)) q (List.mem_range.mpr ho.2)
  rw [h] at h1
  exact of_decide_eq_true h1
