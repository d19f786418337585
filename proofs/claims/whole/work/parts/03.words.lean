set_option maxRecDepth 20000 in
theorem hin_X0 : ∀ w ∈ u_ws RX0 TX0 6, w ∈ TBL := by
  have e : u_ws RX0 TX0 6 = [.laysFinal RX0 "TillPairs$Acts" "noted" "[I", .lays RX0 "TillPairs$Acts" "bodies" "I", .lays RX0 "TillPairs$Acts" "kind" "I", .lays RX0 "TillPairs$Acts" "number" "I", .lays RX0 "TillPairs$Acts" "a" "I", .lays RX0 "TillPairs$Acts" "parted" "Z"] := rfl
  rw [e]
  exact (List.forall_mem_cons.mpr ⟨tb_c1 233 rfl rfl, (List.forall_mem_cons.mpr ⟨tb_c1 235 rfl rfl, (List.forall_mem_cons.mpr ⟨tb_c1 237 rfl rfl, (List.forall_mem_cons.mpr ⟨tb_c1 239 rfl rfl, (List.forall_mem_cons.mpr ⟨tb_c2 1 rfl rfl, (List.forall_mem_cons.mpr ⟨tb_c2 3 rfl rfl, (fun _ h9 => by cases h9)⟩)⟩)⟩)⟩)⟩)⟩)
set_option maxRecDepth 20000 in
theorem hin_X1 : ∀ w ∈ u_ws RX1 TX1 6, w ∈ TBL := by
  have e : u_ws RX1 TX1 6 = [.laysFinal RX1 "TillPairs$Host" "sorts" "[I", .laysFinal RX1 "TillPairs$Host" "lengths" "[I", .laysFinal RX1 "TillPairs$Host" "items" "[[I", .laysFinal RX1 "TillPairs$Host" "heldWhat" "[I", .laysFinal RX1 "TillPairs$Host" "heldSort" "[I", .laysFinal RX1 "TillPairs$Host" "held" "[I"] := rfl
  rw [e]
  exact (List.forall_mem_cons.mpr ⟨tb_c2 25 rfl rfl, (List.forall_mem_cons.mpr ⟨tb_c2 27 rfl rfl, (List.forall_mem_cons.mpr ⟨tb_c2 29 rfl rfl, (List.forall_mem_cons.mpr ⟨tb_c2 31 rfl rfl, (List.forall_mem_cons.mpr ⟨tb_c2 33 rfl rfl, (List.forall_mem_cons.mpr ⟨tb_c2 35 rfl rfl, (fun _ h9 => by cases h9)⟩)⟩)⟩)⟩)⟩)⟩)
set_option maxRecDepth 20000 in
theorem hin_X2 : ∀ w ∈ u_ws RX2 TX2 8, w ∈ TBL := by
  have e : u_ws RX2 TX2 8 = [.lays RX2 "TillPairs$House" "people" "I", .lays RX2 "TillPairs$House" "surprises" "I", .laysFinal RX2 "TillPairs$House" "kinOf" "[I", .laysFinal RX2 "TillPairs$House" "awayOn" "[I", .laysFinal RX2 "TillPairs$House" "trustAtFirst" "[I", .laysFinal RX2 "TillPairs$House" "laws" "[I", .laysFinal RX2 "TillPairs$House" "seats" "[I", .laysFinal RX2 "TillPairs$House" "losses" "[I"] := rfl
  rw [e]
  exact (List.forall_mem_cons.mpr ⟨tb_c1 66 rfl rfl, (List.forall_mem_cons.mpr ⟨tb_c1 68 rfl rfl, (List.forall_mem_cons.mpr ⟨tb_c1 70 rfl rfl, (List.forall_mem_cons.mpr ⟨tb_c1 72 rfl rfl, (List.forall_mem_cons.mpr ⟨tb_c1 74 rfl rfl, (List.forall_mem_cons.mpr ⟨tb_c1 76 rfl rfl, (List.forall_mem_cons.mpr ⟨tb_c1 78 rfl rfl, (List.forall_mem_cons.mpr ⟨tb_c1 80 rfl rfl, (fun _ h9 => by cases h9)⟩)⟩)⟩)⟩)⟩)⟩)⟩)⟩)
set_option maxRecDepth 20000 in
theorem hin_X3 : ∀ w ∈ u_ws RX3 TX3 1, w ∈ TBL := by
  have e : u_ws RX3 TX3 1 = [.laysFinal RX3 "TillPairs$Judge" "home" "LTillPairs$House;"] := rfl
  rw [e]
  exact (List.forall_mem_cons.mpr ⟨tb_c1 116 rfl rfl, (fun _ h9 => by cases h9)⟩)
set_option maxRecDepth 20000 in
theorem hin_X4 : ∀ w ∈ u_ws RX4 TX4 4, w ∈ TBL := by
  have e : u_ws RX4 TX4 4 = [.laysFinal RX4 "TillPairs$Odds" "home" "LTillPairs$House;", .laysFinal RX4 "TillPairs$Odds" "mind" "LTillPairs$Judge;", .lays RX4 "TillPairs$Odds" "above" "J", .lays RX4 "TillPairs$Odds" "below" "J"] := rfl
  rw [e]
  exact (List.forall_mem_cons.mpr ⟨tb_c1 131 rfl rfl, (List.forall_mem_cons.mpr ⟨tb_c1 133 rfl rfl, (List.forall_mem_cons.mpr ⟨tb_c1 135 rfl rfl, (List.forall_mem_cons.mpr ⟨tb_c1 137 rfl rfl, (fun _ h9 => by cases h9)⟩)⟩)⟩)⟩)
set_option maxRecDepth 20000 in
theorem hin_X5 : ∀ w ∈ u_ws RX5 TX5 5, w ∈ TBL := by
  have e : u_ws RX5 TX5 5 = [.laysFinal RX5 "TillPairs$Plans" "kinds" "[I", .laysFinal RX5 "TillPairs$Plans" "as" "[I", .laysFinal RX5 "TillPairs$Plans" "seated" "[I", .lays RX5 "TillPairs$Plans" "count" "I", .lays RX5 "TillPairs$Plans" "z" "I"] := rfl
  rw [e]
  exact (List.forall_mem_cons.mpr ⟨tb_c1 187 rfl rfl, (List.forall_mem_cons.mpr ⟨tb_c1 189 rfl rfl, (List.forall_mem_cons.mpr ⟨tb_c1 191 rfl rfl, (List.forall_mem_cons.mpr ⟨tb_c1 193 rfl rfl, (List.forall_mem_cons.mpr ⟨tb_c1 195 rfl rfl, (fun _ h9 => by cases h9)⟩)⟩)⟩)⟩)⟩)
set_option maxRecDepth 20000 in
theorem hin_X6 : ∀ w ∈ u_ws RX6 TX6 4, w ∈ TBL := by
  have e : u_ws RX6 TX6 4 = [.laysFinal RX6 "TillPairs$Rows" "home" "LTillPairs$House;", .laysFinal RX6 "TillPairs$Rows" "mind" "LTillPairs$Judge;", .laysFinal RX6 "TillPairs$Rows" "cells" "[I", .lays RX6 "TillPairs$Rows" "count" "I"] := rfl
  rw [e]
  exact (List.forall_mem_cons.mpr ⟨tb_c1 210 rfl rfl, (List.forall_mem_cons.mpr ⟨tb_c1 212 rfl rfl, (List.forall_mem_cons.mpr ⟨tb_c1 214 rfl rfl, (List.forall_mem_cons.mpr ⟨tb_c1 216 rfl rfl, (fun _ h9 => by cases h9)⟩)⟩)⟩)⟩)
set_option maxRecDepth 20000 in
theorem hin_X7 : ∀ w ∈ u_ws RX7 TX7 5, w ∈ TBL := by
  have e : u_ws RX7 TX7 5 = [.laysFinal RX7 "TillPairs$Tape" "bytes" "[I", .laysFinal RX7 "TillPairs$Tape" "draft" "LTillPairs$House;", .lays RX7 "TillPairs$Tape" "length" "I", .lays RX7 "TillPairs$Tape" "at" "I", .lays RX7 "TillPairs$Tape" "fault" "I"] := rfl
  rw [e]
  exact (List.forall_mem_cons.mpr ⟨tb_c1 98 rfl rfl, (List.forall_mem_cons.mpr ⟨tb_c1 100 rfl rfl, (List.forall_mem_cons.mpr ⟨tb_c1 102 rfl rfl, (List.forall_mem_cons.mpr ⟨tb_c1 104 rfl rfl, (List.forall_mem_cons.mpr ⟨tb_c1 106 rfl rfl, (fun _ h9 => by cases h9)⟩)⟩)⟩)⟩)⟩)
set_option maxRecDepth 20000 in
theorem hin_X8 : ∀ w ∈ u_ws RX8 TX8 7, w ∈ TBL := by
  have e : u_ws RX8 TX8 7 = [.laysFinal RX8 "TillPairs$Ways" "home" "LTillPairs$House;", .laysFinal RX8 "TillPairs$Ways" "mind" "LTillPairs$Judge;", .laysFinal RX8 "TillPairs$Ways" "trusts" "[I", .laysFinal RX8 "TillPairs$Ways" "bounds" "[[I", .laysFinal RX8 "TillPairs$Ways" "chosen" "[I", .lays RX8 "TillPairs$Ways" "changes" "I", .lays RX8 "TillPairs$Ways" "digits" "I"] := rfl
  rw [e]
  exact (List.forall_mem_cons.mpr ⟨tb_c1 157 rfl rfl, (List.forall_mem_cons.mpr ⟨tb_c1 159 rfl rfl, (List.forall_mem_cons.mpr ⟨tb_c1 161 rfl rfl, (List.forall_mem_cons.mpr ⟨tb_c1 163 rfl rfl, (List.forall_mem_cons.mpr ⟨tb_c1 165 rfl rfl, (List.forall_mem_cons.mpr ⟨tb_c1 167 rfl rfl, (List.forall_mem_cons.mpr ⟨tb_c1 169 rfl rfl, (fun _ h9 => by cases h9)⟩)⟩)⟩)⟩)⟩)⟩)⟩)
set_option maxRecDepth 20000 in
theorem hin_X9 : ∀ w ∈ u_ws RX9 TX9 12, w ∈ TBL := by
  have e : u_ws RX9 TX9 12 = [.laysFinal RX9 "TillPairs" "home" "LTillPairs$House;", .laysFinal RX9 "TillPairs" "tape" "LTillPairs$Tape;", .laysFinal RX9 "TillPairs" "mind" "LTillPairs$Judge;", .laysFinal RX9 "TillPairs" "odds" "LTillPairs$Odds;", .laysFinal RX9 "TillPairs" "ways" "LTillPairs$Ways;", .laysFinal RX9 "TillPairs" "plans" "LTillPairs$Plans;", .laysFinal RX9 "TillPairs" "rows" "LTillPairs$Rows;", .laysFinal RX9 "TillPairs" "acts" "LTillPairs$Acts;", .laysFinal RX9 "TillPairs" "host" "LTillPairs$Host;", .laysFinal RX9 "TillPairs" "keptHome" "LTillPairs$House;", .laysFinal RX9 "TillPairs" "keptPlans" "LTillPairs$Plans;", .lays RX9 "TillPairs" "kept" "Z"] := rfl
  rw [e]
  exact (List.forall_mem_cons.mpr ⟨tb_c2 50 rfl rfl, (List.forall_mem_cons.mpr ⟨tb_c2 52 rfl rfl, (List.forall_mem_cons.mpr ⟨tb_c2 54 rfl rfl, (List.forall_mem_cons.mpr ⟨tb_c2 56 rfl rfl, (List.forall_mem_cons.mpr ⟨tb_c2 58 rfl rfl, (List.forall_mem_cons.mpr ⟨tb_c2 60 rfl rfl, (List.forall_mem_cons.mpr ⟨tb_c2 62 rfl rfl, (List.forall_mem_cons.mpr ⟨tb_c2 64 rfl rfl, (List.forall_mem_cons.mpr ⟨tb_c2 66 rfl rfl, (List.forall_mem_cons.mpr ⟨tb_c2 68 rfl rfl, (List.forall_mem_cons.mpr ⟨tb_c2 70 rfl rfl, (List.forall_mem_cons.mpr ⟨tb_c2 72 rfl rfl, (fun _ h9 => by cases h9)⟩)⟩)⟩)⟩)⟩)⟩)⟩)⟩)⟩)⟩)⟩)⟩)
set_option maxRecDepth 20000 in
theorem hin_X10 : ∀ w ∈ u_ws RX10 TX10 51, w ∈ TBL := by
  have e : u_ws RX10 TX10 51 = [.lays RX10 "TillPairsModel" "people" "I", .laysFinal RX10 "TillPairsModel" "kin" "[I", .laysFinal RX10 "TillPairsModel" "away" "[I", .laysFinal RX10 "TillPairsModel" "first" "[I", .laysFinal RX10 "TillPairsModel" "posts" "[I", .lays RX10 "TillPairsModel" "surprises" "I", .laysFinal RX10 "TillPairsModel" "losses" "[I", .laysFinal RX10 "TillPairsModel" "laws" "[I", .laysFinal RX10 "TillPairsModel" "mostOf" "[I", .lays RX10 "TillPairsModel" "plans" "I", .laysFinal RX10 "TillPairsModel" "plan" "[I", .lays RX10 "TillPairsModel" "z" "I", .laysFinal RX10 "TillPairsModel" "tape" "[I", .lays RX10 "TillPairsModel" "tapeMany" "I", .lays RX10 "TillPairsModel" "sort" "I", .lays RX10 "TillPairsModel" "begins" "I", .lays RX10 "TillPairsModel" "tokenEnds" "I", .lays RX10 "TillPairsModel" "word" "J", .lays RX10 "TillPairsModel" "value" "I", .lays RX10 "TillPairsModel" "good" "Z", .lays RX10 "TillPairsModel" "freshPeople" "I", .laysFinal RX10 "TillPairsModel" "freshKin" "[I", .laysFinal RX10 "TillPairsModel" "freshAway" "[I", .laysFinal RX10 "TillPairsModel" "freshFirst" "[I", .laysFinal RX10 "TillPairsModel" "freshLaws" "[I", .lays RX10 "TillPairsModel" "above" "J", .lays RX10 "TillPairsModel" "below" "J", .laysFinal RX10 "TillPairsModel" "had" "[I", .laysFinal RX10 "TillPairsModel" "bestWay" "[I", .laysFinal RX10 "TillPairsModel" "place" "[I", .laysFinal RX10 "TillPairsModel" "often" "[J", .laysFinal RX10 "TillPairsModel" "way" "[I", .laysFinal RX10 "TillPairsModel" "rows" "[I", .laysFinal RX10 "TillPairsModel" "must" "[I", .lays RX10 "TillPairsModel" "rowMany" "I", .laysFinal RX10 "TillPairsModel" "sorts" "[I", .laysFinal RX10 "TillPairsModel" "sizes" "[I", .laysFinal RX10 "TillPairsModel" "sheets" "[J", .laysFinal RX10 "TillPairsModel" "held" "[I", .laysFinal RX10 "TillPairsModel" "heldNumber" "[I", .laysFinal RX10 "TillPairsModel" "heldSize" "[I", .lays RX10 "TillPairsModel" "kind" "I", .lays RX10 "TillPairsModel" "number" "I", .lays RX10 "TillPairsModel" "own" "I", .laysFinal RX10 "TillPairsModel" "traced" "[I", .lays RX10 "TillPairsModel" "bodies" "I", .lays RX10 "TillPairsModel" "isParted" "Z", .lays RX10 "TillPairsModel" "isKept" "Z", .laysFinal RX10 "TillPairsModel" "kept" "[I", .lays RX10 "TillPairsModel" "movedTo" "I", .laysFinal RX10 "TillPairsModel" "single" "[I"] := rfl
  rw [e]
  exact (List.forall_mem_cons.mpr ⟨tb_c5 130 rfl rfl, (List.forall_mem_cons.mpr ⟨tb_c5 132 rfl rfl, (List.forall_mem_cons.mpr ⟨tb_c5 134 rfl rfl, (List.forall_mem_cons.mpr ⟨tb_c5 136 rfl rfl, (List.forall_mem_cons.mpr ⟨tb_c5 138 rfl rfl, (List.forall_mem_cons.mpr ⟨tb_c5 140 rfl rfl, (List.forall_mem_cons.mpr ⟨tb_c5 142 rfl rfl, (List.forall_mem_cons.mpr ⟨tb_c5 144 rfl rfl, (List.forall_mem_cons.mpr ⟨tb_c5 146 rfl rfl, (List.forall_mem_cons.mpr ⟨tb_c5 148 rfl rfl, (List.forall_mem_cons.mpr ⟨tb_c5 150 rfl rfl, (List.forall_mem_cons.mpr ⟨tb_c5 152 rfl rfl, (List.forall_mem_cons.mpr ⟨tb_c5 154 rfl rfl, (List.forall_mem_cons.mpr ⟨tb_c5 156 rfl rfl, (List.forall_mem_cons.mpr ⟨tb_c5 158 rfl rfl, (List.forall_mem_cons.mpr ⟨tb_c5 160 rfl rfl, (List.forall_mem_cons.mpr ⟨tb_c5 162 rfl rfl, (List.forall_mem_cons.mpr ⟨tb_c5 164 rfl rfl, (List.forall_mem_cons.mpr ⟨tb_c5 166 rfl rfl, (List.forall_mem_cons.mpr ⟨tb_c5 168 rfl rfl, (List.forall_mem_cons.mpr ⟨tb_c5 170 rfl rfl, (List.forall_mem_cons.mpr ⟨tb_c5 172 rfl rfl, (List.forall_mem_cons.mpr ⟨tb_c5 174 rfl rfl, (List.forall_mem_cons.mpr ⟨tb_c5 176 rfl rfl, (List.forall_mem_cons.mpr ⟨tb_c5 178 rfl rfl, (List.forall_mem_cons.mpr ⟨tb_c5 180 rfl rfl, (List.forall_mem_cons.mpr ⟨tb_c5 182 rfl rfl, (List.forall_mem_cons.mpr ⟨tb_c5 184 rfl rfl, (List.forall_mem_cons.mpr ⟨tb_c5 186 rfl rfl, (List.forall_mem_cons.mpr ⟨tb_c5 188 rfl rfl, (List.forall_mem_cons.mpr ⟨tb_c5 190 rfl rfl, (List.forall_mem_cons.mpr ⟨tb_c5 192 rfl rfl, (List.forall_mem_cons.mpr ⟨tb_c5 194 rfl rfl, (List.forall_mem_cons.mpr ⟨tb_c5 196 rfl rfl, (List.forall_mem_cons.mpr ⟨tb_c5 198 rfl rfl, (List.forall_mem_cons.mpr ⟨tb_c5 200 rfl rfl, (List.forall_mem_cons.mpr ⟨tb_c5 202 rfl rfl, (List.forall_mem_cons.mpr ⟨tb_c5 204 rfl rfl, (List.forall_mem_cons.mpr ⟨tb_c5 206 rfl rfl, (List.forall_mem_cons.mpr ⟨tb_c5 208 rfl rfl, (List.forall_mem_cons.mpr ⟨tb_c5 210 rfl rfl, (List.forall_mem_cons.mpr ⟨tb_c5 212 rfl rfl, (List.forall_mem_cons.mpr ⟨tb_c5 214 rfl rfl, (List.forall_mem_cons.mpr ⟨tb_c5 216 rfl rfl, (List.forall_mem_cons.mpr ⟨tb_c5 218 rfl rfl, (List.forall_mem_cons.mpr ⟨tb_c5 220 rfl rfl, (List.forall_mem_cons.mpr ⟨tb_c5 222 rfl rfl, (List.forall_mem_cons.mpr ⟨tb_c5 224 rfl rfl, (List.forall_mem_cons.mpr ⟨tb_c5 226 rfl rfl, (List.forall_mem_cons.mpr ⟨tb_c5 228 rfl rfl, (List.forall_mem_cons.mpr ⟨tb_c5 230 rfl rfl, (fun _ h9 => by cases h9)⟩)⟩)⟩)⟩)⟩)⟩)⟩)⟩)⟩)⟩)⟩)⟩)⟩)⟩)⟩)⟩)⟩)⟩)⟩)⟩)⟩)⟩)⟩)⟩)⟩)⟩)⟩)⟩)⟩)⟩)⟩)⟩)⟩)⟩)⟩)⟩)⟩)⟩)⟩)⟩)⟩)⟩)⟩)⟩)⟩)⟩)⟩)⟩)⟩)⟩)⟩)
set_option maxRecDepth 20000 in
theorem kf_J0_9 : Cond.fieldLink RJ0 9 "java/lang/String" "value" "[B" ∈ TBL := tb_c7 202 rfl rfl
set_option maxRecDepth 20000 in
theorem kf_J0_15 : Cond.fieldLink RJ0 15 "java/lang/String" "coder" "B" ∈ TBL := tb_c7 203 rfl rfl
set_option maxRecDepth 20000 in
theorem kf_J0_38 : Cond.fieldLink RJ0 38 "java/lang/String" "COMPACT_STRINGS" "Z" ∈ TBL := tb_c2 134 rfl rfl
set_option maxRecDepth 20000 in
theorem kf_J0_1053 : Cond.fieldLink RJ0 1053 "jdk/internal/util/Preconditions" "SIOOBE_FORMATTER" "Ljava/util/function/BiFunction;" ∈ TBL := tb_c2 150 rfl rfl
set_option maxRecDepth 20000 in
theorem me_J0_charAt_5068e : MEW yJ0_charAt_5068e cJ0_charAt_5068e 2 (some .char) 1 := ⟨tb_c2 139 rfl rfl, tb_c1 14 rfl rfl, by decide +kernel⟩
set_option maxRecDepth 20000 in
theorem mi_J0_charAt_5068e : Cond.instanceMethod yJ0_charAt_5068e ∈ TBL := tb_c2 137 rfl rfl
set_option maxRecDepth 20000 in
theorem mz_J0_charAt_5068e : Cond.selects RJ0 yJ0_charAt_5068e yJ0_charAt_5068e ∈ TBL := tb_c2 138 rfl rfl
set_option maxRecDepth 20000 in
theorem me_J0_checkIndex_df160 : MEW yJ0_checkIndex_df160 cJ0_checkIndex_df160 2 none 2 := ⟨tb_c2 149 rfl rfl, tb_c1 14 rfl rfl, by decide +kernel⟩
set_option maxRecDepth 20000 in
theorem ms_J0_checkIndex_df160 : Cond.static yJ0_checkIndex_df160 ∈ TBL := tb_c2 148 rfl rfl
set_option maxRecDepth 20000 in
theorem me_J0_coder_7d493 : MEW yJ0_coder_7d493 cJ0_coder_7d493 1 (some .byte) 0 := ⟨tb_c2 133 rfl rfl, tb_c1 14 rfl rfl, by decide +kernel⟩
set_option maxRecDepth 20000 in
theorem mi_J0_coder_7d493 : Cond.instanceMethod yJ0_coder_7d493 ∈ TBL := tb_c2 131 rfl rfl
set_option maxRecDepth 20000 in
theorem mz_J0_coder_7d493 : Cond.selects RJ0 yJ0_coder_7d493 yJ0_coder_7d493 ∈ TBL := tb_c2 132 rfl rfl
set_option maxRecDepth 20000 in
theorem me_J0_isLatin1_aae02 : MEW yJ0_isLatin1_aae02 cJ0_isLatin1_aae02 1 (some .boolean) 0 := ⟨tb_c2 143 rfl rfl, tb_c1 14 rfl rfl, by decide +kernel⟩
set_option maxRecDepth 20000 in
theorem mi_J0_isLatin1_aae02 : Cond.instanceMethod yJ0_isLatin1_aae02 ∈ TBL := tb_c2 141 rfl rfl
set_option maxRecDepth 20000 in
theorem mz_J0_isLatin1_aae02 : Cond.selects RJ0 yJ0_isLatin1_aae02 yJ0_isLatin1_aae02 ∈ TBL := tb_c2 142 rfl rfl
set_option maxRecDepth 20000 in
theorem me_J0_length_8abf5 : MEW yJ0_length_8abf5 cJ0_length_8abf5 1 (some .int) 0 := ⟨tb_c2 129 rfl rfl, tb_c1 14 rfl rfl, by decide +kernel⟩
set_option maxRecDepth 20000 in
theorem mi_J0_length_8abf5 : Cond.instanceMethod yJ0_length_8abf5 ∈ TBL := tb_c2 127 rfl rfl
set_option maxRecDepth 20000 in
theorem mz_J0_length_8abf5 : Cond.selects RJ0 yJ0_length_8abf5 yJ0_length_8abf5 ∈ TBL := tb_c2 128 rfl rfl
set_option maxRecDepth 20000 in
theorem me_J1_charAt_3b067 : MEW yJ1_charAt_3b067 cJ1_charAt_3b067 2 (some .char) 2 := ⟨tb_c2 146 rfl rfl, tb_c1 15 rfl rfl, by decide +kernel⟩
set_option maxRecDepth 20000 in
theorem ms_J1_charAt_3b067 : Cond.static yJ1_charAt_3b067 ∈ TBL := tb_c2 145 rfl rfl
set_option maxRecDepth 20000 in
theorem me_J3_checkIndex_8e157 : MEW yJ3_checkIndex_8e157 cJ3_checkIndex_8e157 3 (some .int) 3 := ⟨tb_c2 154 rfl rfl, tb_c1 16 rfl rfl, by decide +kernel⟩
set_option maxRecDepth 20000 in
theorem ms_J3_checkIndex_8e157 : Cond.static yJ3_checkIndex_8e157 ∈ TBL := tb_c2 153 rfl rfl
set_option maxRecDepth 20000 in
theorem me_J6_bitCount_0f7a4 : MEW yJ6_bitCount_0f7a4 cJ6_bitCount_0f7a4 1 (some .int) 1 := ⟨tb_c4 57 rfl rfl, tb_c1 19 rfl rfl, by decide +kernel⟩
set_option maxRecDepth 20000 in
theorem ms_J6_bitCount_0f7a4 : Cond.static yJ6_bitCount_0f7a4 ∈ TBL := tb_c4 56 rfl rfl
set_option maxRecDepth 20000 in
theorem me_J7_fill_53178 : MEW yJ7_fill_53178 cJ7_fill_53178 4 none 2 := ⟨tb_c1 41 rfl rfl, tb_c1 4 rfl rfl, by decide +kernel⟩
set_option maxRecDepth 20000 in
theorem ms_J7_fill_53178 : Cond.static yJ7_fill_53178 ∈ TBL := tb_c1 40 rfl rfl
set_option maxRecDepth 20000 in
theorem me_X0_bodyOf : MEW yX0_bodyOf cX0_bodyOf 4 (some .int) 2 := ⟨tb_c5 31 rfl rfl, tb_c1 11 rfl rfl, by decide +kernel⟩
set_option maxRecDepth 20000 in
theorem ms_X0_bodyOf : Cond.static yX0_bodyOf ∈ TBL := tb_c5 30 rfl rfl
set_option maxRecDepth 20000 in
theorem me_X0_forget : MEW yX0_forget cX0_forget 1 none 0 := ⟨tb_c5 24 rfl rfl, tb_c1 11 rfl rfl, by decide +kernel⟩
set_option maxRecDepth 20000 in
theorem mi_X0_forget : Cond.instanceMethod yX0_forget ∈ TBL := tb_c5 22 rfl rfl
set_option maxRecDepth 20000 in
theorem mz_X0_forget : Cond.selects RX0 yX0_forget yX0_forget ∈ TBL := tb_c5 23 rfl rfl
set_option maxRecDepth 20000 in
theorem me_X0_isUnder : MEW yX0_isUnder cX0_isUnder 4 (some .boolean) 2 := ⟨tb_c5 14 rfl rfl, tb_c1 11 rfl rfl, by decide +kernel⟩
set_option maxRecDepth 20000 in
theorem ms_X0_isUnder : Cond.static yX0_isUnder ∈ TBL := tb_c5 13 rfl rfl
set_option maxRecDepth 20000 in
theorem me_X0_note : MEW yX0_note cX0_note 2 none 1 := ⟨tb_c5 40 rfl rfl, tb_c1 11 rfl rfl, by decide +kernel⟩
set_option maxRecDepth 20000 in
theorem mi_X0_note : Cond.instanceMethod yX0_note ∈ TBL := tb_c5 39 rfl rfl
set_option maxRecDepth 20000 in
theorem mz_X0_note : Cond.selects RX0 yX0_note yX0_note ∈ TBL := tb_of 33 rfl rfl
set_option maxRecDepth 20000 in
theorem me_X0_perform : MEW yX0_perform cX0_perform 7 (some .int) 5 := ⟨tb_c5 28 rfl rfl, tb_c1 11 rfl rfl, by decide +kernel⟩
set_option maxRecDepth 20000 in
theorem mi_X0_perform : Cond.instanceMethod yX0_perform ∈ TBL := tb_c5 26 rfl rfl
set_option maxRecDepth 20000 in
theorem mz_X0_perform : Cond.selects RX0 yX0_perform yX0_perform ∈ TBL := tb_c5 27 rfl rfl
set_option maxRecDepth 20000 in
theorem me_X0_run : MEW yX0_run cX0_run 5 (some .int) 4 := ⟨tb_c5 36 rfl rfl, tb_c1 11 rfl rfl, by decide +kernel⟩
set_option maxRecDepth 20000 in
theorem ms_X0_run : Cond.static yX0_run ∈ TBL := tb_c5 35 rfl rfl
set_option maxRecDepth 20000 in
theorem me_X0_share : MEW yX0_share cX0_share 3 (some .int) 1 := ⟨tb_c5 44 rfl rfl, tb_c1 11 rfl rfl, by decide +kernel⟩
set_option maxRecDepth 20000 in
theorem mi_X0_share : Cond.instanceMethod yX0_share ∈ TBL := tb_c5 43 rfl rfl
set_option maxRecDepth 20000 in
theorem mz_X0_share : Cond.selects RX0 yX0_share yX0_share ∈ TBL := tb_of 34 rfl rfl
set_option maxRecDepth 20000 in
theorem me_X10_act : MEW yX10_act cX10_act 6 (some .int) 3 := ⟨tb_c7 136 rfl rfl, tb_c1 13 rfl rfl, by decide +kernel⟩
set_option maxRecDepth 20000 in
theorem mi_X10_act : Cond.instanceMethod yX10_act ∈ TBL := tb_c7 134 rfl rfl
set_option maxRecDepth 20000 in
theorem mz_X10_act : Cond.selects RX10 yX10_act yX10_act ∈ TBL := tb_c7 135 rfl rfl
set_option maxRecDepth 20000 in
theorem me_X10_advance : MEW yX10_advance cX10_advance 2 none 0 := ⟨tb_c6 9 rfl rfl, tb_c1 13 rfl rfl, by decide +kernel⟩
set_option maxRecDepth 20000 in
theorem mi_X10_advance : Cond.instanceMethod yX10_advance ∈ TBL := tb_c6 8 rfl rfl
set_option maxRecDepth 20000 in
theorem mz_X10_advance : Cond.selects RX10 yX10_advance yX10_advance ∈ TBL := tb_of 35 rfl rfl
set_option maxRecDepth 20000 in
theorem me_X10_again : MEW yX10_again cX10_again 1 (some .int) 0 := ⟨tb_c7 200 rfl rfl, tb_c1 13 rfl rfl, by decide +kernel⟩
set_option maxRecDepth 20000 in
theorem mi_X10_again : Cond.instanceMethod yX10_again ∈ TBL := tb_c7 198 rfl rfl
set_option maxRecDepth 20000 in
theorem mz_X10_again : Cond.selects RX10 yX10_again yX10_again ∈ TBL := tb_c7 199 rfl rfl
set_option maxRecDepth 20000 in
theorem me_X10_ahead : MEW yX10_ahead cX10_ahead 5 (some .int) 2 := ⟨tb_c6 235 rfl rfl, tb_c1 13 rfl rfl, by decide +kernel⟩
set_option maxRecDepth 20000 in
theorem mi_X10_ahead : Cond.instanceMethod yX10_ahead ∈ TBL := tb_c6 233 rfl rfl
set_option maxRecDepth 20000 in
theorem mz_X10_ahead : Cond.selects RX10 yX10_ahead yX10_ahead ∈ TBL := tb_c6 234 rfl rfl
set_option maxRecDepth 20000 in
theorem me_X10_alterRow : MEW yX10_alterRow cX10_alterRow 5 (some .int) 3 := ⟨tb_c7 86 rfl rfl, tb_c1 13 rfl rfl, by decide +kernel⟩
set_option maxRecDepth 20000 in
theorem mi_X10_alterRow : Cond.instanceMethod yX10_alterRow ∈ TBL := tb_c7 84 rfl rfl
set_option maxRecDepth 20000 in
theorem mz_X10_alterRow : Cond.selects RX10 yX10_alterRow yX10_alterRow ∈ TBL := tb_c7 85 rfl rfl
set_option maxRecDepth 20000 in
theorem me_X10_areKin : MEW yX10_areKin cX10_areKin 3 (some .boolean) 2 := ⟨tb_c6 92 rfl rfl, tb_c1 13 rfl rfl, by decide +kernel⟩
set_option maxRecDepth 20000 in
theorem mi_X10_areKin : Cond.instanceMethod yX10_areKin ∈ TBL := tb_c6 91 rfl rfl
set_option maxRecDepth 20000 in
theorem mz_X10_areKin : Cond.selects RX10 yX10_areKin yX10_areKin ∈ TBL := tb_of 48 rfl rfl
set_option maxRecDepth 20000 in
theorem me_X10_areTwo : MEW yX10_areTwo cX10_areTwo 3 (some .boolean) 2 := ⟨tb_c6 84 rfl rfl, tb_c1 13 rfl rfl, by decide +kernel⟩
set_option maxRecDepth 20000 in
theorem mi_X10_areTwo : Cond.instanceMethod yX10_areTwo ∈ TBL := tb_c6 83 rfl rfl
set_option maxRecDepth 20000 in
theorem mz_X10_areTwo : Cond.selects RX10 yX10_areTwo yX10_areTwo ∈ TBL := tb_of 46 rfl rfl
set_option maxRecDepth 20000 in
theorem me_X10_away : MEW yX10_away cX10_away 4 (some .int) 3 := ⟨tb_c6 100 rfl rfl, tb_c1 13 rfl rfl, by decide +kernel⟩
set_option maxRecDepth 20000 in
theorem mi_X10_away : Cond.instanceMethod yX10_away ∈ TBL := tb_c6 98 rfl rfl
set_option maxRecDepth 20000 in
theorem mz_X10_away : Cond.selects RX10 yX10_away yX10_away ∈ TBL := tb_c6 99 rfl rfl
set_option maxRecDepth 20000 in
theorem me_X10_best : MEW yX10_best cX10_best 12 (some .long) 3 := ⟨tb_c6 191 rfl rfl, tb_c1 13 rfl rfl, by decide +kernel⟩
set_option maxRecDepth 20000 in
theorem mi_X10_best : Cond.instanceMethod yX10_best ∈ TBL := tb_c6 189 rfl rfl
set_option maxRecDepth 20000 in
theorem mz_X10_best : Cond.selects RX10 yX10_best yX10_best ∈ TBL := tb_c6 190 rfl rfl
set_option maxRecDepth 20000 in
theorem me_X10_broken : MEW yX10_broken cX10_broken 2 (some .int) 1 := ⟨tb_c6 211 rfl rfl, tb_c1 13 rfl rfl, by decide +kernel⟩
set_option maxRecDepth 20000 in
theorem mi_X10_broken : Cond.instanceMethod yX10_broken ∈ TBL := tb_c6 209 rfl rfl
set_option maxRecDepth 20000 in
theorem mz_X10_broken : Cond.selects RX10 yX10_broken yX10_broken ∈ TBL := tb_c6 210 rfl rfl
set_option maxRecDepth 20000 in
theorem me_X10_brokenOn : MEW yX10_brokenOn cX10_brokenOn 6 (some .int) 1 := ⟨tb_c6 215 rfl rfl, tb_c1 13 rfl rfl, by decide +kernel⟩
set_option maxRecDepth 20000 in
theorem mi_X10_brokenOn : Cond.instanceMethod yX10_brokenOn ∈ TBL := tb_c6 214 rfl rfl
set_option maxRecDepth 20000 in
theorem mz_X10_brokenOn : Cond.selects RX10 yX10_brokenOn yX10_brokenOn ∈ TBL := tb_of 58 rfl rfl
set_option maxRecDepth 20000 in
theorem me_X10_byteAt : MEW yX10_byteAt cX10_byteAt 2 (some .int) 1 := ⟨tb_c6 13 rfl rfl, tb_c1 13 rfl rfl, by decide +kernel⟩
set_option maxRecDepth 20000 in
theorem mi_X10_byteAt : Cond.instanceMethod yX10_byteAt ∈ TBL := tb_c6 12 rfl rfl
set_option maxRecDepth 20000 in
theorem mz_X10_byteAt : Cond.selects RX10 yX10_byteAt yX10_byteAt ∈ TBL := tb_of 36 rfl rfl
set_option maxRecDepth 20000 in
theorem me_X10_comes : MEW yX10_comes cX10_comes 6 (some .boolean) 2 := ⟨tb_c6 227 rfl rfl, tb_c1 13 rfl rfl, by decide +kernel⟩
set_option maxRecDepth 20000 in
theorem mi_X10_comes : Cond.instanceMethod yX10_comes ∈ TBL := tb_c6 226 rfl rfl
set_option maxRecDepth 20000 in
theorem mz_X10_comes : Cond.selects RX10 yX10_comes yX10_comes ∈ TBL := tb_of 60 rfl rfl
set_option maxRecDepth 20000 in
theorem me_X10_countsIt : MEW yX10_countsIt cX10_countsIt 3 (some .int) 1 := ⟨tb_c7 152 rfl rfl, tb_c1 13 rfl rfl, by decide +kernel⟩
set_option maxRecDepth 20000 in
theorem mi_X10_countsIt : Cond.instanceMethod yX10_countsIt ∈ TBL := tb_c7 151 rfl rfl
set_option maxRecDepth 20000 in
theorem mz_X10_countsIt : Cond.selects RX10 yX10_countsIt yX10_countsIt ∈ TBL := tb_of 79 rfl rfl
set_option maxRecDepth 20000 in
theorem me_X10_days : MEW yX10_days cX10_days 7 (some .int) 2 := ⟨tb_c7 94 rfl rfl, tb_c1 13 rfl rfl, by decide +kernel⟩
set_option maxRecDepth 20000 in
theorem mi_X10_days : Cond.instanceMethod yX10_days ∈ TBL := tb_c7 92 rfl rfl
set_option maxRecDepth 20000 in
theorem mz_X10_days : Cond.selects RX10 yX10_days yX10_days ∈ TBL := tb_c7 93 rfl rfl
set_option maxRecDepth 20000 in
theorem me_X10_enough : MEW yX10_enough cX10_enough 4 (some .int) 0 := ⟨tb_c6 203 rfl rfl, tb_c1 13 rfl rfl, by decide +kernel⟩
set_option maxRecDepth 20000 in
theorem mi_X10_enough : Cond.instanceMethod yX10_enough ∈ TBL := tb_c6 201 rfl rfl
set_option maxRecDepth 20000 in
theorem mz_X10_enough : Cond.selects RX10 yX10_enough yX10_enough ∈ TBL := tb_c6 202 rfl rfl
set_option maxRecDepth 20000 in
theorem me_X10_feed : MEW yX10_feed cX10_feed 5 (some .int) 2 := ⟨tb_c5 237 rfl rfl, tb_c1 13 rfl rfl, by decide +kernel⟩
set_option maxRecDepth 20000 in
theorem mi_X10_feed : Cond.instanceMethod yX10_feed ∈ TBL := tb_c5 235 rfl rfl
set_option maxRecDepth 20000 in
theorem mz_X10_feed : Cond.selects RX10 yX10_feed yX10_feed ∈ TBL := tb_c5 236 rfl rfl
set_option maxRecDepth 20000 in
theorem me_X10_fill : MEW yX10_fill cX10_fill 8 (some .int) 2 := ⟨tb_c7 38 rfl rfl, tb_c1 13 rfl rfl, by decide +kernel⟩
set_option maxRecDepth 20000 in
theorem mi_X10_fill : Cond.instanceMethod yX10_fill ∈ TBL := tb_c7 36 rfl rfl
set_option maxRecDepth 20000 in
theorem mz_X10_fill : Cond.selects RX10 yX10_fill yX10_fill ∈ TBL := tb_c7 37 rfl rfl
set_option maxRecDepth 20000 in
theorem me_X10_fillsCount : MEW yX10_fillsCount cX10_fillsCount 3 none 1 := ⟨tb_c7 62 rfl rfl, tb_c1 13 rfl rfl, by decide +kernel⟩
set_option maxRecDepth 20000 in
theorem mi_X10_fillsCount : Cond.instanceMethod yX10_fillsCount ∈ TBL := tb_c7 61 rfl rfl
set_option maxRecDepth 20000 in
theorem mz_X10_fillsCount : Cond.selects RX10 yX10_fillsCount yX10_fillsCount ∈ TBL := tb_of 70 rfl rfl
set_option maxRecDepth 20000 in
theorem me_X10_fillsDraw : MEW yX10_fillsDraw cX10_fillsDraw 6 none 1 := ⟨tb_c7 57 rfl rfl, tb_c1 13 rfl rfl, by decide +kernel⟩
set_option maxRecDepth 20000 in
theorem mi_X10_fillsDraw : Cond.instanceMethod yX10_fillsDraw ∈ TBL := tb_c7 56 rfl rfl
set_option maxRecDepth 20000 in
theorem mz_X10_fillsDraw : Cond.selects RX10 yX10_fillsDraw yX10_fillsDraw ∈ TBL := tb_of 69 rfl rfl
set_option maxRecDepth 20000 in
theorem me_X10_fillsTold : MEW yX10_fillsTold cX10_fillsTold 4 (some .boolean) 1 := ⟨tb_c7 42 rfl rfl, tb_c1 13 rfl rfl, by decide +kernel⟩
set_option maxRecDepth 20000 in
theorem mi_X10_fillsTold : Cond.instanceMethod yX10_fillsTold ∈ TBL := tb_c7 41 rfl rfl
set_option maxRecDepth 20000 in
theorem mz_X10_fillsTold : Cond.selects RX10 yX10_fillsTold yX10_fillsTold ∈ TBL := tb_of 66 rfl rfl
set_option maxRecDepth 20000 in
theorem me_X10_fillsTurn : MEW yX10_fillsTurn cX10_fillsTurn 11 none 2 := ⟨tb_c7 46 rfl rfl, tb_c1 13 rfl rfl, by decide +kernel⟩
set_option maxRecDepth 20000 in
theorem mi_X10_fillsTurn : Cond.instanceMethod yX10_fillsTurn ∈ TBL := tb_c7 45 rfl rfl
set_option maxRecDepth 20000 in
theorem mz_X10_fillsTurn : Cond.selects RX10 yX10_fillsTurn yX10_fillsTurn ∈ TBL := tb_of 67 rfl rfl
set_option maxRecDepth 20000 in
theorem me_X10_findRows : MEW yX10_findRows cX10_findRows 2 none 0 := ⟨tb_c7 74 rfl rfl, tb_c1 13 rfl rfl, by decide +kernel⟩
set_option maxRecDepth 20000 in
theorem mi_X10_findRows : Cond.instanceMethod yX10_findRows ∈ TBL := tb_c7 73 rfl rfl
set_option maxRecDepth 20000 in
theorem mz_X10_findRows : Cond.selects RX10 yX10_findRows yX10_findRows ∈ TBL := tb_of 71 rfl rfl
set_option maxRecDepth 20000 in
theorem me_X10_givesPosts : MEW yX10_givesPosts cX10_givesPosts 4 none 2 := ⟨tb_c6 231 rfl rfl, tb_c1 13 rfl rfl, by decide +kernel⟩
set_option maxRecDepth 20000 in
theorem mi_X10_givesPosts : Cond.instanceMethod yX10_givesPosts ∈ TBL := tb_c6 230 rfl rfl
set_option maxRecDepth 20000 in
theorem mz_X10_givesPosts : Cond.selects RX10 yX10_givesPosts yX10_givesPosts ∈ TBL := tb_of 61 rfl rfl
set_option maxRecDepth 20000 in
theorem me_X10_house : MEW yX10_house cX10_house 2 (some .int) 0 := ⟨tb_c6 5 rfl rfl, tb_c1 13 rfl rfl, by decide +kernel⟩
set_option maxRecDepth 20000 in
theorem mi_X10_house : Cond.instanceMethod yX10_house ∈ TBL := tb_c6 3 rfl rfl
set_option maxRecDepth 20000 in
theorem mz_X10_house : Cond.selects RX10 yX10_house yX10_house ∈ TBL := tb_c6 4 rfl rfl
set_option maxRecDepth 20000 in
theorem me_X10_in : MEW yX10_in cX10_in 3 (some .boolean) 3 := ⟨tb_c6 0 rfl rfl, tb_c1 13 rfl rfl, by decide +kernel⟩
set_option maxRecDepth 20000 in
theorem ms_X10_in : Cond.static yX10_in ∈ TBL := tb_c5 239 rfl rfl
set_option maxRecDepth 20000 in
theorem me_X10_init : MEW yX10_init cX10_init 2 none 0 := ⟨tb_c5 77 rfl rfl, tb_c1 13 rfl rfl, by decide +kernel⟩
set_option maxRecDepth 20000 in
theorem mi_X10_init : Cond.instanceMethod yX10_init ∈ TBL := tb_c5 76 rfl rfl
set_option maxRecDepth 20000 in
theorem me_X10_isAway : MEW yX10_isAway cX10_isAway 3 (some .boolean) 2 := ⟨tb_c6 107 rfl rfl, tb_c1 13 rfl rfl, by decide +kernel⟩
set_option maxRecDepth 20000 in
theorem mi_X10_isAway : Cond.instanceMethod yX10_isAway ∈ TBL := tb_c6 106 rfl rfl
set_option maxRecDepth 20000 in
theorem mz_X10_isAway : Cond.selects RX10 yX10_isAway yX10_isAway ∈ TBL := tb_of 49 rfl rfl
set_option maxRecDepth 20000 in
theorem me_X10_isDay : MEW yX10_isDay cX10_isDay 1 (some .boolean) 1 := ⟨tb_c6 103 rfl rfl, tb_c1 13 rfl rfl, by decide +kernel⟩
set_option maxRecDepth 20000 in
theorem ms_X10_isDay : Cond.static yX10_isDay ∈ TBL := tb_c6 102 rfl rfl
set_option maxRecDepth 20000 in
theorem me_X10_isDigit : MEW yX10_isDigit cX10_isDigit 1 (some .boolean) 1 := ⟨tb_c6 19 rfl rfl, tb_c1 13 rfl rfl, by decide +kernel⟩
set_option maxRecDepth 20000 in
theorem ms_X10_isDigit : Cond.static yX10_isDigit ∈ TBL := tb_c6 18 rfl rfl
set_option maxRecDepth 20000 in
theorem me_X10_isHeld : MEW yX10_isHeld cX10_isHeld 3 (some .boolean) 2 := ⟨tb_c7 121 rfl rfl, tb_c1 13 rfl rfl, by decide +kernel⟩
set_option maxRecDepth 20000 in
theorem mi_X10_isHeld : Cond.instanceMethod yX10_isHeld ∈ TBL := tb_c7 120 rfl rfl
set_option maxRecDepth 20000 in
theorem mz_X10_isHeld : Cond.selects RX10 yX10_isHeld yX10_isHeld ∈ TBL := tb_of 74 rfl rfl
set_option maxRecDepth 20000 in
theorem me_X10_isLaw : MEW yX10_isLaw cX10_isLaw 1 (some .boolean) 1 := ⟨tb_c6 114 rfl rfl, tb_c1 13 rfl rfl, by decide +kernel⟩
set_option maxRecDepth 20000 in
theorem ms_X10_isLaw : Cond.static yX10_isLaw ∈ TBL := tb_c6 113 rfl rfl
set_option maxRecDepth 20000 in
theorem me_X10_isLetter : MEW yX10_isLetter cX10_isLetter 1 (some .boolean) 1 := ⟨tb_c6 16 rfl rfl, tb_c1 13 rfl rfl, by decide +kernel⟩
set_option maxRecDepth 20000 in
theorem ms_X10_isLetter : Cond.static yX10_isLetter ∈ TBL := tb_c6 15 rfl rfl
set_option maxRecDepth 20000 in
theorem me_X10_isMark : MEW yX10_isMark cX10_isMark 2 (some .boolean) 1 := ⟨tb_c6 39 rfl rfl, tb_c1 13 rfl rfl, by decide +kernel⟩
set_option maxRecDepth 20000 in
theorem mi_X10_isMark : Cond.instanceMethod yX10_isMark ∈ TBL := tb_c6 38 rfl rfl
set_option maxRecDepth 20000 in
theorem mz_X10_isMark : Cond.selects RX10 yX10_isMark yX10_isMark ∈ TBL := tb_of 40 rfl rfl
set_option maxRecDepth 20000 in
theorem me_X10_isNeither : MEW yX10_isNeither cX10_isNeither 5 (some .boolean) 3 := ⟨tb_c6 171 rfl rfl, tb_c1 13 rfl rfl, by decide +kernel⟩
set_option maxRecDepth 20000 in
theorem mi_X10_isNeither : Cond.instanceMethod yX10_isNeither ∈ TBL := tb_c6 170 rfl rfl
set_option maxRecDepth 20000 in
theorem mz_X10_isNeither : Cond.selects RX10 yX10_isNeither yX10_isNeither ∈ TBL := tb_of 54 rfl rfl
set_option maxRecDepth 20000 in
theorem me_X10_isPerson : MEW yX10_isPerson cX10_isPerson 2 (some .boolean) 1 := ⟨tb_c6 88 rfl rfl, tb_c1 13 rfl rfl, by decide +kernel⟩
set_option maxRecDepth 20000 in
theorem mi_X10_isPerson : Cond.instanceMethod yX10_isPerson ∈ TBL := tb_c6 87 rfl rfl
set_option maxRecDepth 20000 in
theorem mz_X10_isPerson : Cond.selects RX10 yX10_isPerson yX10_isPerson ∈ TBL := tb_of 47 rfl rfl
set_option maxRecDepth 20000 in
theorem me_X10_isPlan : MEW yX10_isPlan cX10_isPlan 2 (some .boolean) 1 := ⟨tb_c7 34 rfl rfl, tb_c1 13 rfl rfl, by decide +kernel⟩
set_option maxRecDepth 20000 in
theorem mi_X10_isPlan : Cond.instanceMethod yX10_isPlan ∈ TBL := tb_c7 33 rfl rfl
set_option maxRecDepth 20000 in
theorem mz_X10_isPlan : Cond.selects RX10 yX10_isPlan yX10_isPlan ∈ TBL := tb_of 65 rfl rfl
set_option maxRecDepth 20000 in
theorem me_X10_isPost : MEW yX10_isPost cX10_isPost 1 (some .boolean) 1 := ⟨tb_c6 125 rfl rfl, tb_c1 13 rfl rfl, by decide +kernel⟩
set_option maxRecDepth 20000 in
theorem ms_X10_isPost : Cond.static yX10_isPost ∈ TBL := tb_c6 124 rfl rfl
set_option maxRecDepth 20000 in
theorem me_X10_isRow : MEW yX10_isRow cX10_isRow 3 (some .boolean) 2 := ⟨tb_c7 82 rfl rfl, tb_c1 13 rfl rfl, by decide +kernel⟩
set_option maxRecDepth 20000 in
theorem mi_X10_isRow : Cond.instanceMethod yX10_isRow ∈ TBL := tb_c7 81 rfl rfl
set_option maxRecDepth 20000 in
theorem mz_X10_isRow : Cond.selects RX10 yX10_isRow yX10_isRow ∈ TBL := tb_of 72 rfl rfl
set_option maxRecDepth 20000 in
theorem me_X10_isShelf : MEW yX10_isShelf cX10_isShelf 1 (some .boolean) 1 := ⟨tb_c7 97 rfl rfl, tb_c1 13 rfl rfl, by decide +kernel⟩
set_option maxRecDepth 20000 in
theorem ms_X10_isShelf : Cond.static yX10_isShelf ∈ TBL := tb_c7 96 rfl rfl
set_option maxRecDepth 20000 in
theorem me_X10_isSide : MEW yX10_isSide cX10_isSide 1 (some .boolean) 1 := ⟨tb_c6 194 rfl rfl, tb_c1 13 rfl rfl, by decide +kernel⟩
set_option maxRecDepth 20000 in
theorem ms_X10_isSide : Cond.static yX10_isSide ∈ TBL := tb_c6 193 rfl rfl
set_option maxRecDepth 20000 in
theorem me_X10_isSurprise : MEW yX10_isSurprise cX10_isSurprise 2 (some .boolean) 1 := ⟨tb_c6 163 rfl rfl, tb_c1 13 rfl rfl, by decide +kernel⟩
set_option maxRecDepth 20000 in
theorem mi_X10_isSurprise : Cond.instanceMethod yX10_isSurprise ∈ TBL := tb_c6 162 rfl rfl
set_option maxRecDepth 20000 in
theorem mz_X10_isSurprise : Cond.selects RX10 yX10_isSurprise yX10_isSurprise ∈ TBL := tb_of 52 rfl rfl
set_option maxRecDepth 20000 in
theorem me_X10_isUnder : MEW yX10_isUnder cX10_isUnder 2 (some .boolean) 2 := ⟨tb_c7 132 rfl rfl, tb_c1 13 rfl rfl, by decide +kernel⟩
set_option maxRecDepth 20000 in
theorem ms_X10_isUnder : Cond.static yX10_isUnder ∈ TBL := tb_c7 131 rfl rfl
set_option maxRecDepth 20000 in
theorem me_X10_isWord : MEW yX10_isWord cX10_isWord 3 (some .boolean) 1 := ⟨tb_c6 31 rfl rfl, tb_c1 13 rfl rfl, by decide +kernel⟩
set_option maxRecDepth 20000 in
theorem mi_X10_isWord : Cond.instanceMethod yX10_isWord ∈ TBL := tb_c6 30 rfl rfl
set_option maxRecDepth 20000 in
theorem mz_X10_isWord : Cond.selects RX10 yX10_isWord yX10_isWord ∈ TBL := tb_of 38 rfl rfl
set_option maxRecDepth 20000 in
theorem me_X10_item : MEW yX10_item cX10_item 5 (some .int) 3 := ⟨tb_c7 113 rfl rfl, tb_c1 13 rfl rfl, by decide +kernel⟩
set_option maxRecDepth 20000 in
theorem mi_X10_item : Cond.instanceMethod yX10_item ∈ TBL := tb_c7 111 rfl rfl
set_option maxRecDepth 20000 in
theorem mz_X10_item : Cond.selects RX10 yX10_item yX10_item ∈ TBL := tb_c7 112 rfl rfl
set_option maxRecDepth 20000 in
theorem me_X10_judge : MEW yX10_judge cX10_judge 2 (some .int) 0 := ⟨tb_c7 90 rfl rfl, tb_c1 13 rfl rfl, by decide +kernel⟩
set_option maxRecDepth 20000 in
theorem mi_X10_judge : Cond.instanceMethod yX10_judge ∈ TBL := tb_c7 88 rfl rfl
set_option maxRecDepth 20000 in
theorem mz_X10_judge : Cond.selects RX10 yX10_judge yX10_judge ∈ TBL := tb_c7 89 rfl rfl
set_option maxRecDepth 20000 in
theorem me_X10_keep : MEW yX10_keep cX10_keep 1 (some .int) 0 := ⟨tb_c7 188 rfl rfl, tb_c1 13 rfl rfl, by decide +kernel⟩
set_option maxRecDepth 20000 in
theorem mi_X10_keep : Cond.instanceMethod yX10_keep ∈ TBL := tb_c7 186 rfl rfl
set_option maxRecDepth 20000 in
theorem mz_X10_keep : Cond.selects RX10 yX10_keep yX10_keep ∈ TBL := tb_c7 187 rfl rfl
set_option maxRecDepth 20000 in
theorem me_X10_keepsPosts : MEW yX10_keepsPosts cX10_keepsPosts 4 none 2 := ⟨tb_c6 223 rfl rfl, tb_c1 13 rfl rfl, by decide +kernel⟩
set_option maxRecDepth 20000 in
theorem mi_X10_keepsPosts : Cond.instanceMethod yX10_keepsPosts ∈ TBL := tb_c6 222 rfl rfl
set_option maxRecDepth 20000 in
theorem mz_X10_keepsPosts : Cond.selects RX10 yX10_keepsPosts yX10_keepsPosts ∈ TBL := tb_of 59 rfl rfl
set_option maxRecDepth 20000 in
theorem me_X10_kin : MEW yX10_kin cX10_kin 4 (some .int) 3 := ⟨tb_c6 80 rfl rfl, tb_c1 13 rfl rfl, by decide +kernel⟩
set_option maxRecDepth 20000 in
theorem mi_X10_kin : Cond.instanceMethod yX10_kin ∈ TBL := tb_c6 78 rfl rfl
set_option maxRecDepth 20000 in
theorem mz_X10_kin : Cond.selects RX10 yX10_kin yX10_kin ∈ TBL := tb_c6 79 rfl rfl
set_option maxRecDepth 20000 in
theorem me_X10_kindOn : MEW yX10_kindOn cX10_kindOn 2 (some .int) 1 := ⟨tb_c7 129 rfl rfl, tb_c1 13 rfl rfl, by decide +kernel⟩
set_option maxRecDepth 20000 in
theorem mi_X10_kindOn : Cond.instanceMethod yX10_kindOn ∈ TBL := tb_c7 128 rfl rfl
set_option maxRecDepth 20000 in
theorem mz_X10_kindOn : Cond.selects RX10 yX10_kindOn yX10_kindOn ∈ TBL := tb_of 75 rfl rfl
set_option maxRecDepth 20000 in
theorem me_X10_lacksSort : MEW yX10_lacksSort cX10_lacksSort 3 (some .int) 2 := ⟨tb_c7 101 rfl rfl, tb_c1 13 rfl rfl, by decide +kernel⟩
set_option maxRecDepth 20000 in
theorem mi_X10_lacksSort : Cond.instanceMethod yX10_lacksSort ∈ TBL := tb_c7 100 rfl rfl
set_option maxRecDepth 20000 in
theorem mz_X10_lacksSort : Cond.selects RX10 yX10_lacksSort yX10_lacksSort ∈ TBL := tb_of 73 rfl rfl
set_option maxRecDepth 20000 in
theorem me_X10_lastSat : MEW yX10_lastSat cX10_lastSat 6 (some .int) 3 := ⟨tb_c7 50 rfl rfl, tb_c1 13 rfl rfl, by decide +kernel⟩
set_option maxRecDepth 20000 in
theorem mi_X10_lastSat : Cond.instanceMethod yX10_lastSat ∈ TBL := tb_c7 49 rfl rfl
set_option maxRecDepth 20000 in
theorem mz_X10_lastSat : Cond.selects RX10 yX10_lastSat yX10_lastSat ∈ TBL := tb_of 68 rfl rfl
set_option maxRecDepth 20000 in
theorem me_X10_law : MEW yX10_law cX10_law 2 (some .int) 1 := ⟨tb_c6 118 rfl rfl, tb_c1 13 rfl rfl, by decide +kernel⟩
set_option maxRecDepth 20000 in
theorem mi_X10_law : Cond.instanceMethod yX10_law ∈ TBL := tb_c6 116 rfl rfl
set_option maxRecDepth 20000 in
theorem mz_X10_law : Cond.selects RX10 yX10_law yX10_law ∈ TBL := tb_c6 117 rfl rfl
set_option maxRecDepth 20000 in
theorem me_X10_lawHere : MEW yX10_lawHere cX10_lawHere 1 (some .int) 0 := ⟨tb_c6 64 rfl rfl, tb_c1 13 rfl rfl, by decide +kernel⟩
set_option maxRecDepth 20000 in
theorem mi_X10_lawHere : Cond.instanceMethod yX10_lawHere ∈ TBL := tb_c6 63 rfl rfl
set_option maxRecDepth 20000 in
theorem mz_X10_lawHere : Cond.selects RX10 yX10_lawHere yX10_lawHere ∈ TBL := tb_of 45 rfl rfl
set_option maxRecDepth 20000 in
theorem me_X10_leastOf : MEW yX10_leastOf cX10_leastOf 2 (some .int) 1 := ⟨tb_c7 53 rfl rfl, tb_c1 13 rfl rfl, by decide +kernel⟩
set_option maxRecDepth 20000 in
theorem ms_X10_leastOf : Cond.static yX10_leastOf ∈ TBL := tb_c7 52 rfl rfl
set_option maxRecDepth 20000 in
theorem me_X10_loss : MEW yX10_loss cX10_loss 4 (some .int) 2 := ⟨tb_c6 140 rfl rfl, tb_c1 13 rfl rfl, by decide +kernel⟩
set_option maxRecDepth 20000 in
theorem mi_X10_loss : Cond.instanceMethod yX10_loss ∈ TBL := tb_c6 138 rfl rfl
set_option maxRecDepth 20000 in
theorem mz_X10_loss : Cond.selects RX10 yX10_loss yX10_loss ∈ TBL := tb_c6 139 rfl rfl
set_option maxRecDepth 20000 in
theorem me_X10_lot : MEW yX10_lot cX10_lot 11 (some .long) 3 := ⟨tb_c7 11 rfl rfl, tb_c1 13 rfl rfl, by decide +kernel⟩
set_option maxRecDepth 20000 in
theorem mi_X10_lot : Cond.instanceMethod yX10_lot ∈ TBL := tb_c7 9 rfl rfl
set_option maxRecDepth 20000 in
theorem mz_X10_lot : Cond.selects RX10 yX10_lot yX10_lot ∈ TBL := tb_c7 10 rfl rfl
set_option maxRecDepth 20000 in
theorem me_X10_lowest : MEW yX10_lowest cX10_lowest 11 none 2 := ⟨tb_c6 199 rfl rfl, tb_c1 13 rfl rfl, by decide +kernel⟩
set_option maxRecDepth 20000 in
theorem mi_X10_lowest : Cond.instanceMethod yX10_lowest ∈ TBL := tb_c6 198 rfl rfl
set_option maxRecDepth 20000 in
theorem mz_X10_lowest : Cond.selects RX10 yX10_lowest yX10_lowest ∈ TBL := tb_of 57 rfl rfl
set_option maxRecDepth 20000 in
theorem me_X10_many : MEW yX10_many cX10_many 2 (some .int) 1 := ⟨tb_c7 184 rfl rfl, tb_c1 13 rfl rfl, by decide +kernel⟩
set_option maxRecDepth 20000 in
theorem mi_X10_many : Cond.instanceMethod yX10_many ∈ TBL := tb_c7 182 rfl rfl
set_option maxRecDepth 20000 in
theorem mz_X10_many : Cond.selects RX10 yX10_many yX10_many ∈ TBL := tb_c7 183 rfl rfl
set_option maxRecDepth 20000 in
theorem me_X10_mended : MEW yX10_mended cX10_mended 7 (some .int) 2 := ⟨tb_c6 219 rfl rfl, tb_c1 13 rfl rfl, by decide +kernel⟩
set_option maxRecDepth 20000 in
theorem mi_X10_mended : Cond.instanceMethod yX10_mended ∈ TBL := tb_c6 217 rfl rfl
set_option maxRecDepth 20000 in
theorem mz_X10_mended : Cond.selects RX10 yX10_mended yX10_mended ∈ TBL := tb_c6 218 rfl rfl
set_option maxRecDepth 20000 in
theorem me_X10_move : MEW yX10_move cX10_move 5 none 3 := ⟨tb_c7 196 rfl rfl, tb_c1 13 rfl rfl, by decide +kernel⟩
set_option maxRecDepth 20000 in
theorem mi_X10_move : Cond.instanceMethod yX10_move ∈ TBL := tb_c7 195 rfl rfl
set_option maxRecDepth 20000 in
theorem mz_X10_move : Cond.selects RX10 yX10_move yX10_move ∈ TBL := tb_of 87 rfl rfl
set_option maxRecDepth 20000 in
theorem me_X10_moveAll : MEW yX10_moveAll cX10_moveAll 2 none 1 := ⟨tb_c7 192 rfl rfl, tb_c1 13 rfl rfl, by decide +kernel⟩
set_option maxRecDepth 20000 in
theorem mi_X10_moveAll : Cond.instanceMethod yX10_moveAll ∈ TBL := tb_c7 191 rfl rfl
set_option maxRecDepth 20000 in
theorem mz_X10_moveAll : Cond.selects RX10 yX10_moveAll yX10_moveAll ∈ TBL := tb_of 86 rfl rfl
set_option maxRecDepth 20000 in
theorem me_X10_needed : MEW yX10_needed cX10_needed 3 (some .int) 0 := ⟨tb_c6 207 rfl rfl, tb_c1 13 rfl rfl, by decide +kernel⟩
set_option maxRecDepth 20000 in
theorem mi_X10_needed : Cond.instanceMethod yX10_needed ∈ TBL := tb_c6 205 rfl rfl
set_option maxRecDepth 20000 in
theorem mz_X10_needed : Cond.selects RX10 yX10_needed yX10_needed ∈ TBL := tb_c6 206 rfl rfl
set_option maxRecDepth 20000 in
theorem me_X10_ones : MEW yX10_ones cX10_ones 3 (some .int) 1 := ⟨tb_c7 18 rfl rfl, tb_c1 13 rfl rfl, by decide +kernel⟩
set_option maxRecDepth 20000 in
theorem ms_X10_ones : Cond.static yX10_ones ∈ TBL := tb_c7 17 rfl rfl
set_option maxRecDepth 20000 in
theorem me_X10_orNobody : MEW yX10_orNobody cX10_orNobody 1 (some .int) 1 := ⟨tb_c6 128 rfl rfl, tb_c1 13 rfl rfl, by decide +kernel⟩
set_option maxRecDepth 20000 in
theorem ms_X10_orNobody : Cond.static yX10_orNobody ∈ TBL := tb_c6 127 rfl rfl
set_option maxRecDepth 20000 in
theorem me_X10_pair : MEW yX10_pair cX10_pair 2 (some .int) 2 := ⟨tb_c6 155 rfl rfl, tb_c1 13 rfl rfl, by decide +kernel⟩
set_option maxRecDepth 20000 in
theorem ms_X10_pair : Cond.static yX10_pair ∈ TBL := tb_c6 154 rfl rfl
set_option maxRecDepth 20000 in
theorem me_X10_pays : MEW yX10_pays cX10_pays 3 (some .int) 0 := ⟨tb_c6 183 rfl rfl, tb_c1 13 rfl rfl, by decide +kernel⟩
set_option maxRecDepth 20000 in
theorem mi_X10_pays : Cond.instanceMethod yX10_pays ∈ TBL := tb_c6 181 rfl rfl
set_option maxRecDepth 20000 in
theorem mz_X10_pays : Cond.selects RX10 yX10_pays yX10_pays ∈ TBL := tb_c6 182 rfl rfl
set_option maxRecDepth 20000 in
theorem me_X10_paysBy : MEW yX10_paysBy cX10_paysBy 5 (some .boolean) 3 := ⟨tb_c6 187 rfl rfl, tb_c1 13 rfl rfl, by decide +kernel⟩
set_option maxRecDepth 20000 in
theorem mi_X10_paysBy : Cond.instanceMethod yX10_paysBy ∈ TBL := tb_c6 186 rfl rfl
set_option maxRecDepth 20000 in
theorem mz_X10_paysBy : Cond.selects RX10 yX10_paysBy yX10_paysBy ∈ TBL := tb_of 56 rfl rfl
set_option maxRecDepth 20000 in
theorem me_X10_person : MEW yX10_person cX10_person 2 (some .int) 0 := ⟨tb_c6 76 rfl rfl, tb_c1 13 rfl rfl, by decide +kernel⟩
set_option maxRecDepth 20000 in
theorem mi_X10_person : Cond.instanceMethod yX10_person ∈ TBL := tb_c6 74 rfl rfl
set_option maxRecDepth 20000 in
theorem mz_X10_person : Cond.selects RX10 yX10_person yX10_person ∈ TBL := tb_c6 75 rfl rfl
set_option maxRecDepth 20000 in
theorem me_X10_plainCounts : MEW yX10_plainCounts cX10_plainCounts 2 (some .int) 1 := ⟨tb_c7 156 rfl rfl, tb_c1 13 rfl rfl, by decide +kernel⟩
set_option maxRecDepth 20000 in
theorem mi_X10_plainCounts : Cond.instanceMethod yX10_plainCounts ∈ TBL := tb_c7 155 rfl rfl
set_option maxRecDepth 20000 in
theorem mz_X10_plainCounts : Cond.selects RX10 yX10_plainCounts yX10_plainCounts ∈ TBL := tb_of 80 rfl rfl
set_option maxRecDepth 20000 in
theorem me_X10_plainShares : MEW yX10_plainShares cX10_plainShares 2 (some .int) 1 := ⟨tb_c7 168 rfl rfl, tb_c1 13 rfl rfl, by decide +kernel⟩
set_option maxRecDepth 20000 in
theorem mi_X10_plainShares : Cond.instanceMethod yX10_plainShares ∈ TBL := tb_c7 167 rfl rfl
set_option maxRecDepth 20000 in
theorem mz_X10_plainShares : Cond.selects RX10 yX10_plainShares yX10_plainShares ∈ TBL := tb_of 83 rfl rfl
set_option maxRecDepth 20000 in
theorem me_X10_plainSits : MEW yX10_plainSits cX10_plainSits 2 (some .int) 1 := ⟨tb_c7 148 rfl rfl, tb_c1 13 rfl rfl, by decide +kernel⟩
set_option maxRecDepth 20000 in
theorem mi_X10_plainSits : Cond.instanceMethod yX10_plainSits ∈ TBL := tb_c7 147 rfl rfl
set_option maxRecDepth 20000 in
theorem mz_X10_plainSits : Cond.selects RX10 yX10_plainSits yX10_plainSits ∈ TBL := tb_of 78 rfl rfl
set_option maxRecDepth 20000 in
theorem me_X10_plainTells : MEW yX10_plainTells cX10_plainTells 2 (some .int) 1 := ⟨tb_c7 176 rfl rfl, tb_c1 13 rfl rfl, by decide +kernel⟩
set_option maxRecDepth 20000 in
theorem mi_X10_plainTells : Cond.instanceMethod yX10_plainTells ∈ TBL := tb_c7 175 rfl rfl
set_option maxRecDepth 20000 in
theorem mz_X10_plainTells : Cond.selects RX10 yX10_plainTells yX10_plainTells ∈ TBL := tb_of 85 rfl rfl
set_option maxRecDepth 20000 in
theorem me_X10_plan : MEW yX10_plan cX10_plan 3 (some .int) 2 := ⟨tb_c7 26 rfl rfl, tb_c1 13 rfl rfl, by decide +kernel⟩
set_option maxRecDepth 20000 in
theorem mi_X10_plan : Cond.instanceMethod yX10_plan ∈ TBL := tb_c7 24 rfl rfl
set_option maxRecDepth 20000 in
theorem mz_X10_plan : Cond.selects RX10 yX10_plan yX10_plan ∈ TBL := tb_c7 25 rfl rfl
set_option maxRecDepth 20000 in
theorem me_X10_planOf : MEW yX10_planOf cX10_planOf 3 (some .int) 2 := ⟨tb_c7 30 rfl rfl, tb_c1 13 rfl rfl, by decide +kernel⟩
set_option maxRecDepth 20000 in
theorem mi_X10_planOf : Cond.instanceMethod yX10_planOf ∈ TBL := tb_c7 28 rfl rfl
set_option maxRecDepth 20000 in
theorem mz_X10_planOf : Cond.selects RX10 yX10_planOf yX10_planOf ∈ TBL := tb_c7 29 rfl rfl
set_option maxRecDepth 20000 in
theorem me_X10_post : MEW yX10_post cX10_post 5 (some .int) 3 := ⟨tb_c6 122 rfl rfl, tb_c1 13 rfl rfl, by decide +kernel⟩
set_option maxRecDepth 20000 in
theorem mi_X10_post : Cond.instanceMethod yX10_post ∈ TBL := tb_c6 120 rfl rfl
set_option maxRecDepth 20000 in
theorem mz_X10_post : Cond.selects RX10 yX10_post yX10_post ∈ TBL := tb_c6 121 rfl rfl
set_option maxRecDepth 20000 in
theorem me_X10_postOf : MEW yX10_postOf cX10_postOf 3 (some .int) 2 := ⟨tb_c6 132 rfl rfl, tb_c1 13 rfl rfl, by decide +kernel⟩
set_option maxRecDepth 20000 in
theorem mi_X10_postOf : Cond.instanceMethod yX10_postOf ∈ TBL := tb_c6 130 rfl rfl
set_option maxRecDepth 20000 in
theorem mz_X10_postOf : Cond.selects RX10 yX10_postOf yX10_postOf ∈ TBL := tb_c6 131 rfl rfl
set_option maxRecDepth 20000 in
theorem me_X10_prove : MEW yX10_prove cX10_prove 2 (some .int) 0 := ⟨tb_c7 70 rfl rfl, tb_c1 13 rfl rfl, by decide +kernel⟩
set_option maxRecDepth 20000 in
theorem mi_X10_prove : Cond.instanceMethod yX10_prove ∈ TBL := tb_c7 68 rfl rfl
set_option maxRecDepth 20000 in
theorem mz_X10_prove : Cond.selects RX10 yX10_prove yX10_prove ∈ TBL := tb_c7 69 rfl rfl
set_option maxRecDepth 20000 in
theorem me_X10_put : MEW yX10_put cX10_put 4 (some .int) 3 := ⟨tb_c7 109 rfl rfl, tb_c1 13 rfl rfl, by decide +kernel⟩
set_option maxRecDepth 20000 in
theorem mi_X10_put : Cond.instanceMethod yX10_put ∈ TBL := tb_c7 107 rfl rfl
set_option maxRecDepth 20000 in
theorem mz_X10_put : Cond.selects RX10 yX10_put yX10_put ∈ TBL := tb_c7 108 rfl rfl
set_option maxRecDepth 20000 in
theorem me_X10_ran : MEW yX10_ran cX10_ran 2 none 1 := ⟨tb_c7 144 rfl rfl, tb_c1 13 rfl rfl, by decide +kernel⟩
set_option maxRecDepth 20000 in
theorem mi_X10_ran : Cond.instanceMethod yX10_ran ∈ TBL := tb_c7 143 rfl rfl
set_option maxRecDepth 20000 in
theorem mz_X10_ran : Cond.selects RX10 yX10_ran yX10_ran ∈ TBL := tb_of 77 rfl rfl
set_option maxRecDepth 20000 in
theorem me_X10_row : MEW yX10_row cX10_row 3 (some .int) 2 := ⟨tb_c7 78 rfl rfl, tb_c1 13 rfl rfl, by decide +kernel⟩
set_option maxRecDepth 20000 in
theorem mi_X10_row : Cond.instanceMethod yX10_row ∈ TBL := tb_c7 76 rfl rfl
set_option maxRecDepth 20000 in
theorem mz_X10_row : Cond.selects RX10 yX10_row yX10_row ∈ TBL := tb_c7 77 rfl rfl
set_option maxRecDepth 20000 in
theorem me_X10_sat : MEW yX10_sat cX10_sat 3 (some .int) 2 := ⟨tb_c7 3 rfl rfl, tb_c1 13 rfl rfl, by decide +kernel⟩
set_option maxRecDepth 20000 in
theorem mi_X10_sat : Cond.instanceMethod yX10_sat ∈ TBL := tb_c7 1 rfl rfl
set_option maxRecDepth 20000 in
theorem mz_X10_sat : Cond.selects RX10 yX10_sat yX10_sat ∈ TBL := tb_c7 2 rfl rfl
set_option maxRecDepth 20000 in
theorem me_X10_satOn : MEW yX10_satOn cX10_satOn 5 (some .int) 2 := ⟨tb_c7 7 rfl rfl, tb_c1 13 rfl rfl, by decide +kernel⟩
set_option maxRecDepth 20000 in
theorem mi_X10_satOn : Cond.instanceMethod yX10_satOn ∈ TBL := tb_c7 6 rfl rfl
set_option maxRecDepth 20000 in
theorem mz_X10_satOn : Cond.selects RX10 yX10_satOn yX10_satOn ∈ TBL := tb_of 63 rfl rfl
set_option maxRecDepth 20000 in
theorem me_X10_seed : MEW yX10_seed cX10_seed 3 (some .int) 1 := ⟨tb_c7 66 rfl rfl, tb_c1 13 rfl rfl, by decide +kernel⟩
set_option maxRecDepth 20000 in
theorem mi_X10_seed : Cond.instanceMethod yX10_seed ∈ TBL := tb_c7 64 rfl rfl
set_option maxRecDepth 20000 in
theorem mz_X10_seed : Cond.selects RX10 yX10_seed yX10_seed ∈ TBL := tb_c7 65 rfl rfl
set_option maxRecDepth 20000 in
theorem me_X10_seen : MEW yX10_seen cX10_seen 2 (some .int) 1 := ⟨tb_c6 159 rfl rfl, tb_c1 13 rfl rfl, by decide +kernel⟩
set_option maxRecDepth 20000 in
theorem mi_X10_seen : Cond.instanceMethod yX10_seen ∈ TBL := tb_c6 157 rfl rfl
set_option maxRecDepth 20000 in
theorem mz_X10_seen : Cond.selects RX10 yX10_seen yX10_seen ∈ TBL := tb_c6 158 rfl rfl
set_option maxRecDepth 20000 in
theorem me_X10_seenBy : MEW yX10_seenBy cX10_seenBy 5 (some .int) 2 := ⟨tb_c6 167 rfl rfl, tb_c1 13 rfl rfl, by decide +kernel⟩
set_option maxRecDepth 20000 in
theorem mi_X10_seenBy : Cond.instanceMethod yX10_seenBy ∈ TBL := tb_c6 166 rfl rfl
set_option maxRecDepth 20000 in
theorem mz_X10_seenBy : Cond.selects RX10 yX10_seenBy yX10_seenBy ∈ TBL := tb_of 53 rfl rfl
set_option maxRecDepth 20000 in
theorem me_X10_set : MEW yX10_set cX10_set 4 (some .int) 2 := ⟨tb_c6 111 rfl rfl, tb_c1 13 rfl rfl, by decide +kernel⟩
set_option maxRecDepth 20000 in
theorem mi_X10_set : Cond.instanceMethod yX10_set ∈ TBL := tb_c6 109 rfl rfl
set_option maxRecDepth 20000 in
theorem mz_X10_set : Cond.selects RX10 yX10_set yX10_set ∈ TBL := tb_c6 110 rfl rfl
set_option maxRecDepth 20000 in
theorem me_X10_sharesIt : MEW yX10_sharesIt cX10_sharesIt 3 (some .int) 1 := ⟨tb_c7 164 rfl rfl, tb_c1 13 rfl rfl, by decide +kernel⟩
set_option maxRecDepth 20000 in
theorem mi_X10_sharesIt : Cond.instanceMethod yX10_sharesIt ∈ TBL := tb_c7 163 rfl rfl
set_option maxRecDepth 20000 in
theorem mz_X10_sharesIt : Cond.selects RX10 yX10_sharesIt yX10_sharesIt ∈ TBL := tb_of 82 rfl rfl
set_option maxRecDepth 20000 in
theorem me_X10_sheet : MEW yX10_sheet cX10_sheet 5 (some .int) 3 := ⟨tb_c7 105 rfl rfl, tb_c1 13 rfl rfl, by decide +kernel⟩
set_option maxRecDepth 20000 in
theorem mi_X10_sheet : Cond.instanceMethod yX10_sheet ∈ TBL := tb_c7 103 rfl rfl
set_option maxRecDepth 20000 in
theorem mz_X10_sheet : Cond.selects RX10 yX10_sheet yX10_sheet ∈ TBL := tb_c7 104 rfl rfl
set_option maxRecDepth 20000 in
theorem me_X10_shelf : MEW yX10_shelf cX10_shelf 4 (some .int) 3 := ⟨tb_c7 117 rfl rfl, tb_c1 13 rfl rfl, by decide +kernel⟩
set_option maxRecDepth 20000 in
theorem mi_X10_shelf : Cond.instanceMethod yX10_shelf ∈ TBL := tb_c7 115 rfl rfl
set_option maxRecDepth 20000 in
theorem mz_X10_shelf : Cond.selects RX10 yX10_shelf yX10_shelf ∈ TBL := tb_c7 116 rfl rfl
set_option maxRecDepth 20000 in
theorem me_X10_sits : MEW yX10_sits cX10_sits 5 (some .boolean) 2 := ⟨tb_c6 239 rfl rfl, tb_c1 13 rfl rfl, by decide +kernel⟩
set_option maxRecDepth 20000 in
theorem mi_X10_sits : Cond.instanceMethod yX10_sits ∈ TBL := tb_c6 238 rfl rfl
set_option maxRecDepth 20000 in
theorem mz_X10_sits : Cond.selects RX10 yX10_sits yX10_sits ∈ TBL := tb_of 62 rfl rfl
set_option maxRecDepth 20000 in
theorem me_X10_sitsIt : MEW yX10_sitsIt cX10_sitsIt 2 (some .int) 1 := ⟨tb_c7 140 rfl rfl, tb_c1 13 rfl rfl, by decide +kernel⟩
set_option maxRecDepth 20000 in
theorem mi_X10_sitsIt : Cond.instanceMethod yX10_sitsIt ∈ TBL := tb_c7 139 rfl rfl
set_option maxRecDepth 20000 in
theorem mz_X10_sitsIt : Cond.selects RX10 yX10_sitsIt yX10_sitsIt ∈ TBL := tb_of 76 rfl rfl
set_option maxRecDepth 20000 in
theorem me_X10_sitting : MEW yX10_sitting cX10_sitting 3 (some .int) 0 := ⟨tb_c7 15 rfl rfl, tb_c1 13 rfl rfl, by decide +kernel⟩
set_option maxRecDepth 20000 in
theorem mi_X10_sitting : Cond.instanceMethod yX10_sitting ∈ TBL := tb_c7 14 rfl rfl
set_option maxRecDepth 20000 in
theorem mz_X10_sitting : Cond.selects RX10 yX10_sitting yX10_sitting ∈ TBL := tb_of 64 rfl rfl
set_option maxRecDepth 20000 in
theorem me_X10_surprise : MEW yX10_surprise cX10_surprise 3 (some .int) 2 := ⟨tb_c6 136 rfl rfl, tb_c1 13 rfl rfl, by decide +kernel⟩
set_option maxRecDepth 20000 in
theorem mi_X10_surprise : Cond.instanceMethod yX10_surprise ∈ TBL := tb_c6 134 rfl rfl
set_option maxRecDepth 20000 in
theorem mz_X10_surprise : Cond.selects RX10 yX10_surprise yX10_surprise ∈ TBL := tb_c6 135 rfl rfl
set_option maxRecDepth 20000 in
theorem me_X10_suspects : MEW yX10_suspects cX10_suspects 8 (some .int) 1 := ⟨tb_c7 22 rfl rfl, tb_c1 13 rfl rfl, by decide +kernel⟩
set_option maxRecDepth 20000 in
theorem mi_X10_suspects : Cond.instanceMethod yX10_suspects ∈ TBL := tb_c7 20 rfl rfl
set_option maxRecDepth 20000 in
theorem mz_X10_suspects : Cond.selects RX10 yX10_suspects yX10_suspects ∈ TBL := tb_c7 21 rfl rfl
set_option maxRecDepth 20000 in
theorem me_X10_taken : MEW yX10_taken cX10_taken 4 (some .int) 2 := ⟨tb_c7 125 rfl rfl, tb_c1 13 rfl rfl, by decide +kernel⟩
set_option maxRecDepth 20000 in
theorem mi_X10_taken : Cond.instanceMethod yX10_taken ∈ TBL := tb_c7 123 rfl rfl
set_option maxRecDepth 20000 in
theorem mz_X10_taken : Cond.selects RX10 yX10_taken yX10_taken ∈ TBL := tb_c7 124 rfl rfl
set_option maxRecDepth 20000 in
theorem me_X10_tellsIt : MEW yX10_tellsIt cX10_tellsIt 3 (some .int) 1 := ⟨tb_c7 172 rfl rfl, tb_c1 13 rfl rfl, by decide +kernel⟩
set_option maxRecDepth 20000 in
theorem mi_X10_tellsIt : Cond.instanceMethod yX10_tellsIt ∈ TBL := tb_c7 171 rfl rfl
set_option maxRecDepth 20000 in
theorem mz_X10_tellsIt : Cond.selects RX10 yX10_tellsIt yX10_tellsIt ∈ TBL := tb_of 84 rfl rfl
set_option maxRecDepth 20000 in
theorem me_X10_trace : MEW yX10_trace cX10_trace 2 (some .int) 1 := ⟨tb_c7 180 rfl rfl, tb_c1 13 rfl rfl, by decide +kernel⟩
set_option maxRecDepth 20000 in
theorem mi_X10_trace : Cond.instanceMethod yX10_trace ∈ TBL := tb_c7 178 rfl rfl
set_option maxRecDepth 20000 in
theorem mz_X10_trace : Cond.selects RX10 yX10_trace yX10_trace ∈ TBL := tb_c7 179 rfl rfl
set_option maxRecDepth 20000 in
theorem me_X10_trust : MEW yX10_trust cX10_trust 5 (some .int) 3 := ⟨tb_c6 96 rfl rfl, tb_c1 13 rfl rfl, by decide +kernel⟩
set_option maxRecDepth 20000 in
theorem mi_X10_trust : Cond.instanceMethod yX10_trust ∈ TBL := tb_c6 94 rfl rfl
set_option maxRecDepth 20000 in
theorem mz_X10_trust : Cond.selects RX10 yX10_trust yX10_trust ∈ TBL := tb_c6 95 rfl rfl
set_option maxRecDepth 20000 in
theorem me_X10_trustOf : MEW yX10_trustOf cX10_trustOf 6 (some .int) 3 := ⟨tb_c6 148 rfl rfl, tb_c1 13 rfl rfl, by decide +kernel⟩
set_option maxRecDepth 20000 in
theorem mi_X10_trustOf : Cond.instanceMethod yX10_trustOf ∈ TBL := tb_c6 147 rfl rfl
set_option maxRecDepth 20000 in
theorem mz_X10_trustOf : Cond.selects RX10 yX10_trustOf yX10_trustOf ∈ TBL := tb_of 50 rfl rfl
set_option maxRecDepth 20000 in
theorem me_X10_trustOn : MEW yX10_trustOn cX10_trustOn 4 (some .int) 3 := ⟨tb_c6 144 rfl rfl, tb_c1 13 rfl rfl, by decide +kernel⟩
set_option maxRecDepth 20000 in
theorem mi_X10_trustOn : Cond.instanceMethod yX10_trustOn ∈ TBL := tb_c6 142 rfl rfl
set_option maxRecDepth 20000 in
theorem mz_X10_trustOn : Cond.selects RX10 yX10_trustOn yX10_trustOn ∈ TBL := tb_c6 143 rfl rfl
set_option maxRecDepth 20000 in
theorem me_X10_turnCounts : MEW yX10_turnCounts cX10_turnCounts 2 (some .int) 1 := ⟨tb_c7 160 rfl rfl, tb_c1 13 rfl rfl, by decide +kernel⟩
set_option maxRecDepth 20000 in
theorem mi_X10_turnCounts : Cond.instanceMethod yX10_turnCounts ∈ TBL := tb_c7 159 rfl rfl
set_option maxRecDepth 20000 in
theorem mz_X10_turnCounts : Cond.selects RX10 yX10_turnCounts yX10_turnCounts ∈ TBL := tb_of 81 rfl rfl
set_option maxRecDepth 20000 in
theorem me_X10_twoOn : MEW yX10_twoOn cX10_twoOn 4 (some .int) 1 := ⟨tb_c6 152 rfl rfl, tb_c1 13 rfl rfl, by decide +kernel⟩
set_option maxRecDepth 20000 in
theorem mi_X10_twoOn : Cond.instanceMethod yX10_twoOn ∈ TBL := tb_c6 151 rfl rfl
set_option maxRecDepth 20000 in
theorem mz_X10_twoOn : Cond.selects RX10 yX10_twoOn yX10_twoOn ∈ TBL := tb_of 51 rfl rfl
set_option maxRecDepth 20000 in
theorem me_X10_wantAway : MEW yX10_wantAway cX10_wantAway 5 none 0 := ⟨tb_c6 54 rfl rfl, tb_c1 13 rfl rfl, by decide +kernel⟩
set_option maxRecDepth 20000 in
theorem mi_X10_wantAway : Cond.instanceMethod yX10_wantAway ∈ TBL := tb_c6 53 rfl rfl
set_option maxRecDepth 20000 in
theorem mz_X10_wantAway : Cond.selects RX10 yX10_wantAway yX10_wantAway ∈ TBL := tb_of 43 rfl rfl
set_option maxRecDepth 20000 in
theorem me_X10_wantClause : MEW yX10_wantClause cX10_wantClause 3 none 0 := ⟨tb_c6 26 rfl rfl, tb_c1 13 rfl rfl, by decide +kernel⟩
set_option maxRecDepth 20000 in
theorem mi_X10_wantClause : Cond.instanceMethod yX10_wantClause ∈ TBL := tb_c6 25 rfl rfl
set_option maxRecDepth 20000 in
theorem mz_X10_wantClause : Cond.selects RX10 yX10_wantClause yX10_wantClause ∈ TBL := tb_of 37 rfl rfl
set_option maxRecDepth 20000 in
theorem me_X10_wantEnd : MEW yX10_wantEnd cX10_wantEnd 1 none 0 := ⟨tb_c6 35 rfl rfl, tb_c1 13 rfl rfl, by decide +kernel⟩
set_option maxRecDepth 20000 in
theorem mi_X10_wantEnd : Cond.instanceMethod yX10_wantEnd ∈ TBL := tb_c6 34 rfl rfl
set_option maxRecDepth 20000 in
theorem mz_X10_wantEnd : Cond.selects RX10 yX10_wantEnd yX10_wantEnd ∈ TBL := tb_of 39 rfl rfl
set_option maxRecDepth 20000 in
theorem me_X10_wantNumber : MEW yX10_wantNumber cX10_wantNumber 4 (some .int) 2 := ⟨tb_c6 49 rfl rfl, tb_c1 13 rfl rfl, by decide +kernel⟩
set_option maxRecDepth 20000 in
theorem mi_X10_wantNumber : Cond.instanceMethod yX10_wantNumber ∈ TBL := tb_c6 48 rfl rfl
set_option maxRecDepth 20000 in
theorem mz_X10_wantNumber : Cond.selects RX10 yX10_wantNumber yX10_wantNumber ∈ TBL := tb_of 42 rfl rfl
set_option maxRecDepth 20000 in
theorem me_X10_wantTwo : MEW yX10_wantTwo cX10_wantTwo 5 none 1 := ⟨tb_c6 45 rfl rfl, tb_c1 13 rfl rfl, by decide +kernel⟩
set_option maxRecDepth 20000 in
theorem mi_X10_wantTwo : Cond.instanceMethod yX10_wantTwo ∈ TBL := tb_c6 44 rfl rfl
set_option maxRecDepth 20000 in
theorem mz_X10_wantTwo : Cond.selects RX10 yX10_wantTwo yX10_wantTwo ∈ TBL := tb_of 41 rfl rfl
set_option maxRecDepth 20000 in
theorem me_X10_wantWord : MEW yX10_wantWord cX10_wantWord 3 none 1 := ⟨tb_c6 59 rfl rfl, tb_c1 13 rfl rfl, by decide +kernel⟩
set_option maxRecDepth 20000 in
theorem mi_X10_wantWord : Cond.instanceMethod yX10_wantWord ∈ TBL := tb_c6 58 rfl rfl
set_option maxRecDepth 20000 in
theorem mz_X10_wantWord : Cond.selects RX10 yX10_wantWord yX10_wantWord ∈ TBL := tb_of 44 rfl rfl
set_option maxRecDepth 20000 in
theorem me_X10_worth : MEW yX10_worth cX10_worth 2 (some .int) 1 := ⟨tb_c6 175 rfl rfl, tb_c1 13 rfl rfl, by decide +kernel⟩
set_option maxRecDepth 20000 in
theorem mi_X10_worth : Cond.instanceMethod yX10_worth ∈ TBL := tb_c6 173 rfl rfl
set_option maxRecDepth 20000 in
theorem mz_X10_worth : Cond.selects RX10 yX10_worth yX10_worth ∈ TBL := tb_c6 174 rfl rfl
set_option maxRecDepth 20000 in
theorem me_X10_worthBy : MEW yX10_worthBy cX10_worthBy 4 (some .int) 2 := ⟨tb_c6 179 rfl rfl, tb_c1 13 rfl rfl, by decide +kernel⟩
set_option maxRecDepth 20000 in
theorem mi_X10_worthBy : Cond.instanceMethod yX10_worthBy ∈ TBL := tb_c6 178 rfl rfl
set_option maxRecDepth 20000 in
theorem mz_X10_worthBy : Cond.selects RX10 yX10_worthBy yX10_worthBy ∈ TBL := tb_of 55 rfl rfl
set_option maxRecDepth 20000 in
theorem me_X1_clear : MEW yX1_clear cX1_clear 2 (some .int) 1 := ⟨tb_c4 235 rfl rfl, tb_c1 12 rfl rfl, by decide +kernel⟩
set_option maxRecDepth 20000 in
theorem mi_X1_clear : Cond.instanceMethod yX1_clear ∈ TBL := tb_c4 233 rfl rfl
set_option maxRecDepth 20000 in
theorem mz_X1_clear : Cond.selects RX1 yX1_clear yX1_clear ∈ TBL := tb_c4 234 rfl rfl
set_option maxRecDepth 20000 in
theorem me_X1_heldPlan : MEW yX1_heldPlan cX1_heldPlan 2 (some .boolean) 1 := ⟨tb_c5 11 rfl rfl, tb_c1 12 rfl rfl, by decide +kernel⟩
set_option maxRecDepth 20000 in
theorem mi_X1_heldPlan : Cond.instanceMethod yX1_heldPlan ∈ TBL := tb_c5 9 rfl rfl
set_option maxRecDepth 20000 in
theorem mz_X1_heldPlan : Cond.selects RX1 yX1_heldPlan yX1_heldPlan ∈ TBL := tb_c5 10 rfl rfl
set_option maxRecDepth 20000 in
theorem me_X1_heldRow : MEW yX1_heldRow cX1_heldRow 2 (some .boolean) 1 := ⟨tb_c5 3 rfl rfl, tb_c1 12 rfl rfl, by decide +kernel⟩
set_option maxRecDepth 20000 in
theorem mi_X1_heldRow : Cond.instanceMethod yX1_heldRow ∈ TBL := tb_c5 1 rfl rfl
set_option maxRecDepth 20000 in
theorem mz_X1_heldRow : Cond.selects RX1 yX1_heldRow yX1_heldRow ∈ TBL := tb_c5 2 rfl rfl
set_option maxRecDepth 20000 in
theorem me_X1_holds : MEW yX1_holds cX1_holds 3 (some .boolean) 2 := ⟨tb_c4 211 rfl rfl, tb_c1 12 rfl rfl, by decide +kernel⟩
set_option maxRecDepth 20000 in
theorem mi_X1_holds : Cond.instanceMethod yX1_holds ∈ TBL := tb_c4 209 rfl rfl
set_option maxRecDepth 20000 in
theorem mz_X1_holds : Cond.selects RX1 yX1_holds yX1_holds ∈ TBL := tb_c4 210 rfl rfl
set_option maxRecDepth 20000 in
theorem me_X1_lay : MEW yX1_lay cX1_lay 4 (some .int) 3 := ⟨tb_c4 203 rfl rfl, tb_c1 12 rfl rfl, by decide +kernel⟩
set_option maxRecDepth 20000 in
theorem mi_X1_lay : Cond.instanceMethod yX1_lay ∈ TBL := tb_c4 201 rfl rfl
set_option maxRecDepth 20000 in
theorem mz_X1_lay : Cond.selects RX1 yX1_lay yX1_lay ∈ TBL := tb_c4 202 rfl rfl
set_option maxRecDepth 20000 in
theorem me_X1_shelvePlan : MEW yX1_shelvePlan cX1_shelvePlan 3 (some .int) 2 := ⟨tb_c4 227 rfl rfl, tb_c1 12 rfl rfl, by decide +kernel⟩
set_option maxRecDepth 20000 in
theorem mi_X1_shelvePlan : Cond.instanceMethod yX1_shelvePlan ∈ TBL := tb_c4 225 rfl rfl
set_option maxRecDepth 20000 in
theorem mz_X1_shelvePlan : Cond.selects RX1 yX1_shelvePlan yX1_shelvePlan ∈ TBL := tb_c4 226 rfl rfl
set_option maxRecDepth 20000 in
theorem me_X1_shelveRow : MEW yX1_shelveRow cX1_shelveRow 3 (some .int) 2 := ⟨tb_c4 231 rfl rfl, tb_c1 12 rfl rfl, by decide +kernel⟩
set_option maxRecDepth 20000 in
theorem mi_X1_shelveRow : Cond.instanceMethod yX1_shelveRow ∈ TBL := tb_c4 229 rfl rfl
set_option maxRecDepth 20000 in
theorem mz_X1_shelveRow : Cond.selects RX1 yX1_shelveRow yX1_shelveRow ∈ TBL := tb_c4 230 rfl rfl
set_option maxRecDepth 20000 in
theorem me_X1_write : MEW yX1_write cX1_write 4 (some .int) 3 := ⟨tb_c4 215 rfl rfl, tb_c1 12 rfl rfl, by decide +kernel⟩
set_option maxRecDepth 20000 in
theorem mi_X1_write : Cond.instanceMethod yX1_write ∈ TBL := tb_c4 213 rfl rfl
set_option maxRecDepth 20000 in
theorem mz_X1_write : Cond.selects RX1 yX1_write yX1_write ∈ TBL := tb_c4 214 rfl rfl
set_option maxRecDepth 20000 in
theorem me_X2_addPerson : MEW yX2_addPerson cX2_addPerson 1 (some .int) 0 := ⟨tb_c2 184 rfl rfl, tb_c1 2 rfl rfl, by decide +kernel⟩
set_option maxRecDepth 20000 in
theorem mi_X2_addPerson : Cond.instanceMethod yX2_addPerson ∈ TBL := tb_c2 182 rfl rfl
set_option maxRecDepth 20000 in
theorem mz_X2_addPerson : Cond.selects RX2 yX2_addPerson yX2_addPerson ∈ TBL := tb_c2 183 rfl rfl
set_option maxRecDepth 20000 in
theorem me_X2_areKin : MEW yX2_areKin cX2_areKin 3 (some .boolean) 2 := ⟨tb_c2 203 rfl rfl, tb_c1 2 rfl rfl, by decide +kernel⟩
set_option maxRecDepth 20000 in
theorem mi_X2_areKin : Cond.instanceMethod yX2_areKin ∈ TBL := tb_c2 201 rfl rfl
set_option maxRecDepth 20000 in
theorem mz_X2_areKin : Cond.selects RX2 yX2_areKin yX2_areKin ∈ TBL := tb_c2 202 rfl rfl
set_option maxRecDepth 20000 in
theorem me_X2_areTwo : MEW yX2_areTwo cX2_areTwo 3 (some .boolean) 2 := ⟨tb_c3 20 rfl rfl, tb_c1 2 rfl rfl, by decide +kernel⟩
set_option maxRecDepth 20000 in
theorem mi_X2_areTwo : Cond.instanceMethod yX2_areTwo ∈ TBL := tb_c3 18 rfl rfl
set_option maxRecDepth 20000 in
theorem mz_X2_areTwo : Cond.selects RX2 yX2_areTwo yX2_areTwo ∈ TBL := tb_c3 19 rfl rfl
set_option maxRecDepth 20000 in
theorem me_X2_at : MEW yX2_at cX2_at 3 (some .int) 2 := ⟨tb_c3 59 rfl rfl, tb_c1 2 rfl rfl, by decide +kernel⟩
set_option maxRecDepth 20000 in
theorem mi_X2_at : Cond.instanceMethod yX2_at ∈ TBL := tb_c3 57 rfl rfl
set_option maxRecDepth 20000 in
theorem mz_X2_at : Cond.selects RX2 yX2_at yX2_at ∈ TBL := tb_c3 58 rfl rfl
set_option maxRecDepth 20000 in
theorem me_X2_become : MEW yX2_become cX2_become 2 none 1 := ⟨tb_c3 2 rfl rfl, tb_c1 2 rfl rfl, by decide +kernel⟩
set_option maxRecDepth 20000 in
theorem mi_X2_become : Cond.instanceMethod yX2_become ∈ TBL := tb_c3 0 rfl rfl
set_option maxRecDepth 20000 in
theorem mz_X2_become : Cond.selects RX2 yX2_become yX2_become ∈ TBL := tb_c3 1 rfl rfl
set_option maxRecDepth 20000 in
theorem me_X2_daysOf : MEW yX2_daysOf cX2_daysOf 4 (some .int) 1 := ⟨tb_c4 54 rfl rfl, tb_c1 2 rfl rfl, by decide +kernel⟩
set_option maxRecDepth 20000 in
theorem mi_X2_daysOf : Cond.instanceMethod yX2_daysOf ∈ TBL := tb_c4 52 rfl rfl
set_option maxRecDepth 20000 in
theorem mz_X2_daysOf : Cond.selects RX2 yX2_daysOf yX2_daysOf ∈ TBL := tb_c4 53 rfl rfl
set_option maxRecDepth 20000 in
theorem me_X2_emptyBut : MEW yX2_emptyBut cX2_emptyBut 2 none 1 := ⟨tb_c2 94 rfl rfl, tb_c1 2 rfl rfl, by decide +kernel⟩
set_option maxRecDepth 20000 in
theorem mi_X2_emptyBut : Cond.instanceMethod yX2_emptyBut ∈ TBL := tb_c2 92 rfl rfl
set_option maxRecDepth 20000 in
theorem mz_X2_emptyBut : Cond.selects RX2 yX2_emptyBut yX2_emptyBut ∈ TBL := tb_c2 93 rfl rfl
set_option maxRecDepth 20000 in
theorem me_X2_hasSurprise : MEW yX2_hasSurprise cX2_hasSurprise 2 (some .boolean) 1 := ⟨tb_c3 79 rfl rfl, tb_c1 2 rfl rfl, by decide +kernel⟩
set_option maxRecDepth 20000 in
theorem mi_X2_hasSurprise : Cond.instanceMethod yX2_hasSurprise ∈ TBL := tb_c3 77 rfl rfl
set_option maxRecDepth 20000 in
theorem mz_X2_hasSurprise : Cond.selects RX2 yX2_hasSurprise yX2_hasSurprise ∈ TBL := tb_c3 78 rfl rfl
set_option maxRecDepth 20000 in
theorem me_X2_isAway : MEW yX2_isAway cX2_isAway 3 (some .boolean) 2 := ⟨tb_c2 227 rfl rfl, tb_c1 2 rfl rfl, by decide +kernel⟩
set_option maxRecDepth 20000 in
theorem mi_X2_isAway : Cond.instanceMethod yX2_isAway ∈ TBL := tb_c2 225 rfl rfl
set_option maxRecDepth 20000 in
theorem mz_X2_isAway : Cond.selects RX2 yX2_isAway yX2_isAway ∈ TBL := tb_c2 226 rfl rfl
set_option maxRecDepth 20000 in
theorem me_X2_isPerson : MEW yX2_isPerson cX2_isPerson 2 (some .boolean) 1 := ⟨tb_c3 24 rfl rfl, tb_c1 2 rfl rfl, by decide +kernel⟩
set_option maxRecDepth 20000 in
theorem mi_X2_isPerson : Cond.instanceMethod yX2_isPerson ∈ TBL := tb_c3 22 rfl rfl
set_option maxRecDepth 20000 in
theorem mz_X2_isPerson : Cond.selects RX2 yX2_isPerson yX2_isPerson ∈ TBL := tb_c3 23 rfl rfl
set_option maxRecDepth 20000 in
theorem me_X2_lastDayOf : MEW yX2_lastDayOf cX2_lastDayOf 4 (some .int) 2 := ⟨tb_c3 218 rfl rfl, tb_c1 2 rfl rfl, by decide +kernel⟩
set_option maxRecDepth 20000 in
theorem mi_X2_lastDayOf : Cond.instanceMethod yX2_lastDayOf ∈ TBL := tb_c3 216 rfl rfl
set_option maxRecDepth 20000 in
theorem mz_X2_lastDayOf : Cond.selects RX2 yX2_lastDayOf yX2_lastDayOf ∈ TBL := tb_c3 217 rfl rfl
set_option maxRecDepth 20000 in
theorem me_X2_lossOf : MEW yX2_lossOf cX2_lossOf 4 (some .int) 1 := ⟨tb_c4 83 rfl rfl, tb_c1 2 rfl rfl, by decide +kernel⟩
set_option maxRecDepth 20000 in
theorem mi_X2_lossOf : Cond.instanceMethod yX2_lossOf ∈ TBL := tb_c4 81 rfl rfl
set_option maxRecDepth 20000 in
theorem mz_X2_lossOf : Cond.selects RX2 yX2_lossOf yX2_lossOf ∈ TBL := tb_c4 82 rfl rfl
set_option maxRecDepth 20000 in
theorem me_X2_pairOf : MEW yX2_pairOf cX2_pairOf 2 (some .int) 2 := ⟨tb_c2 210 rfl rfl, tb_c1 2 rfl rfl, by decide +kernel⟩
set_option maxRecDepth 20000 in
theorem ms_X2_pairOf : Cond.static yX2_pairOf ∈ TBL := tb_c2 209 rfl rfl
set_option maxRecDepth 20000 in
theorem me_X2_pairOfMostLoss : MEW yX2_pairOfMostLoss cX2_pairOfMostLoss 6 (some .int) 0 := ⟨tb_c4 79 rfl rfl, tb_c1 2 rfl rfl, by decide +kernel⟩
set_option maxRecDepth 20000 in
theorem mi_X2_pairOfMostLoss : Cond.instanceMethod yX2_pairOfMostLoss ∈ TBL := tb_c4 77 rfl rfl
set_option maxRecDepth 20000 in
theorem mz_X2_pairOfMostLoss : Cond.selects RX2 yX2_pairOfMostLoss yX2_pairOfMostLoss ∈ TBL := tb_c4 78 rfl rfl
set_option maxRecDepth 20000 in
theorem me_X2_pairOn : MEW yX2_pairOn cX2_pairOn 4 (some .int) 1 := ⟨tb_c3 95 rfl rfl, tb_c1 2 rfl rfl, by decide +kernel⟩
set_option maxRecDepth 20000 in
theorem mi_X2_pairOn : Cond.instanceMethod yX2_pairOn ∈ TBL := tb_c3 93 rfl rfl
set_option maxRecDepth 20000 in
theorem mz_X2_pairOn : Cond.selects RX2 yX2_pairOn yX2_pairOn ∈ TBL := tb_c3 94 rfl rfl
set_option maxRecDepth 20000 in
theorem me_X2_satInGap : MEW yX2_satInGap cX2_satInGap 4 (some .boolean) 2 := ⟨tb_c3 214 rfl rfl, tb_c1 2 rfl rfl, by decide +kernel⟩
set_option maxRecDepth 20000 in
theorem mi_X2_satInGap : Cond.instanceMethod yX2_satInGap ∈ TBL := tb_c3 212 rfl rfl
set_option maxRecDepth 20000 in
theorem mz_X2_satInGap : Cond.selects RX2 yX2_satInGap yX2_satInGap ∈ TBL := tb_c3 213 rfl rfl
set_option maxRecDepth 20000 in
theorem me_X2_seat : MEW yX2_seat cX2_seat 4 none 3 := ⟨tb_c3 63 rfl rfl, tb_c1 2 rfl rfl, by decide +kernel⟩
set_option maxRecDepth 20000 in
theorem mi_X2_seat : Cond.instanceMethod yX2_seat ∈ TBL := tb_c3 61 rfl rfl
set_option maxRecDepth 20000 in
theorem mz_X2_seat : Cond.selects RX2 yX2_seat yX2_seat ∈ TBL := tb_c3 62 rfl rfl
set_option maxRecDepth 20000 in
theorem me_X2_setAway : MEW yX2_setAway cX2_setAway 4 (some .int) 3 := ⟨tb_c2 223 rfl rfl, tb_c1 2 rfl rfl, by decide +kernel⟩
set_option maxRecDepth 20000 in
theorem mi_X2_setAway : Cond.instanceMethod yX2_setAway ∈ TBL := tb_c2 221 rfl rfl
set_option maxRecDepth 20000 in
theorem mz_X2_setAway : Cond.selects RX2 yX2_setAway yX2_setAway ∈ TBL := tb_c2 222 rfl rfl
set_option maxRecDepth 20000 in
theorem me_X2_setKin : MEW yX2_setKin cX2_setKin 4 (some .int) 3 := ⟨tb_c2 199 rfl rfl, tb_c1 2 rfl rfl, by decide +kernel⟩
set_option maxRecDepth 20000 in
theorem mi_X2_setKin : Cond.instanceMethod yX2_setKin ∈ TBL := tb_c2 197 rfl rfl
set_option maxRecDepth 20000 in
theorem mz_X2_setKin : Cond.selects RX2 yX2_setKin yX2_setKin ∈ TBL := tb_c2 198 rfl rfl
set_option maxRecDepth 20000 in
theorem me_X2_setSurprise : MEW yX2_setSurprise cX2_setSurprise 3 (some .int) 2 := ⟨tb_c3 75 rfl rfl, tb_c1 2 rfl rfl, by decide +kernel⟩
set_option maxRecDepth 20000 in
theorem mi_X2_setSurprise : Cond.instanceMethod yX2_setSurprise ∈ TBL := tb_c3 73 rfl rfl
set_option maxRecDepth 20000 in
theorem mz_X2_setSurprise : Cond.selects RX2 yX2_setSurprise yX2_setSurprise ∈ TBL := tb_c3 74 rfl rfl
set_option maxRecDepth 20000 in
theorem me_X2_sittings : MEW yX2_sittings cX2_sittings 3 (some .int) 0 := ⟨tb_c4 50 rfl rfl, tb_c1 2 rfl rfl, by decide +kernel⟩
set_option maxRecDepth 20000 in
theorem mi_X2_sittings : Cond.instanceMethod yX2_sittings ∈ TBL := tb_c4 48 rfl rfl
set_option maxRecDepth 20000 in
theorem mz_X2_sittings : Cond.selects RX2 yX2_sittings yX2_sittings ∈ TBL := tb_c4 49 rfl rfl
set_option maxRecDepth 20000 in
theorem me_X3_brokenOn : MEW yX3_brokenOn cX3_brokenOn 3 (some .int) 1 := ⟨tb_c3 200 rfl rfl, tb_c1 6 rfl rfl, by decide +kernel⟩
set_option maxRecDepth 20000 in
theorem mi_X3_brokenOn : Cond.instanceMethod yX3_brokenOn ∈ TBL := tb_c3 198 rfl rfl
set_option maxRecDepth 20000 in
theorem mz_X3_brokenOn : Cond.selects RX3 yX3_brokenOn yX3_brokenOn ∈ TBL := tb_c3 199 rfl rfl
set_option maxRecDepth 20000 in
theorem me_X3_isPaying : MEW yX3_isPaying cX3_isPaying 3 (some .boolean) 2 := ⟨tb_c3 153 rfl rfl, tb_c1 6 rfl rfl, by decide +kernel⟩
set_option maxRecDepth 20000 in
theorem mi_X3_isPaying : Cond.instanceMethod yX3_isPaying ∈ TBL := tb_c3 151 rfl rfl
set_option maxRecDepth 20000 in
theorem mz_X3_isPaying : Cond.selects RX3 yX3_isPaying yX3_isPaying ∈ TBL := tb_c3 152 rfl rfl
set_option maxRecDepth 20000 in
theorem me_X3_leastTell : MEW yX3_leastTell cX3_leastTell 2 (some .int) 0 := ⟨tb_c3 184 rfl rfl, tb_c1 6 rfl rfl, by decide +kernel⟩
set_option maxRecDepth 20000 in
theorem mi_X3_leastTell : Cond.instanceMethod yX3_leastTell ∈ TBL := tb_c3 182 rfl rfl
set_option maxRecDepth 20000 in
theorem mz_X3_leastTell : Cond.selects RX3 yX3_leastTell yX3_leastTell ∈ TBL := tb_c3 183 rfl rfl
set_option maxRecDepth 20000 in
theorem me_X3_payingDays : MEW yX3_payingDays cX3_payingDays 1 (some .int) 0 := ⟨tb_c3 144 rfl rfl, tb_c1 6 rfl rfl, by decide +kernel⟩
set_option maxRecDepth 20000 in
theorem mi_X3_payingDays : Cond.instanceMethod yX3_payingDays ∈ TBL := tb_c3 142 rfl rfl
set_option maxRecDepth 20000 in
theorem mz_X3_payingDays : Cond.selects RX3 yX3_payingDays yX3_payingDays ∈ TBL := tb_c3 143 rfl rfl
set_option maxRecDepth 20000 in
theorem me_X3_payingDaysBy : MEW yX3_payingDaysBy cX3_payingDaysBy 4 (some .int) 1 := ⟨tb_c3 148 rfl rfl, tb_c1 6 rfl rfl, by decide +kernel⟩
set_option maxRecDepth 20000 in
theorem mi_X3_payingDaysBy : Cond.instanceMethod yX3_payingDaysBy ∈ TBL := tb_c3 147 rfl rfl
set_option maxRecDepth 20000 in
theorem mz_X3_payingDaysBy : Cond.selects RX3 yX3_payingDaysBy yX3_payingDaysBy ∈ TBL := tb_of 13 rfl rfl
set_option maxRecDepth 20000 in
theorem me_X3_seenOf : MEW yX3_seenOf cX3_seenOf 7 (some .int) 4 := ⟨tb_c3 119 rfl rfl, tb_c1 6 rfl rfl, by decide +kernel⟩
set_option maxRecDepth 20000 in
theorem mi_X3_seenOf : Cond.instanceMethod yX3_seenOf ∈ TBL := tb_c3 117 rfl rfl
set_option maxRecDepth 20000 in
theorem mz_X3_seenOf : Cond.selects RX3 yX3_seenOf yX3_seenOf ∈ TBL := tb_c3 118 rfl rfl
set_option maxRecDepth 20000 in
theorem me_X3_seenOn : MEW yX3_seenOn cX3_seenOn 2 (some .int) 1 := ⟨tb_c3 113 rfl rfl, tb_c1 6 rfl rfl, by decide +kernel⟩
set_option maxRecDepth 20000 in
theorem mi_X3_seenOn : Cond.instanceMethod yX3_seenOn ∈ TBL := tb_c3 111 rfl rfl
set_option maxRecDepth 20000 in
theorem mz_X3_seenOn : Cond.selects RX3 yX3_seenOn yX3_seenOn ∈ TBL := tb_c3 112 rfl rfl
set_option maxRecDepth 20000 in
theorem me_X3_somebodyIsAway : MEW yX3_somebodyIsAway cX3_somebodyIsAway 4 (some .boolean) 1 := ⟨tb_c3 204 rfl rfl, tb_c1 6 rfl rfl, by decide +kernel⟩
set_option maxRecDepth 20000 in
theorem mi_X3_somebodyIsAway : Cond.instanceMethod yX3_somebodyIsAway ∈ TBL := tb_c3 203 rfl rfl
set_option maxRecDepth 20000 in
theorem mz_X3_somebodyIsAway : Cond.selects RX3 yX3_somebodyIsAway yX3_somebodyIsAway ∈ TBL := tb_of 15 rfl rfl
set_option maxRecDepth 20000 in
theorem me_X3_somebodyIsTwice : MEW yX3_somebodyIsTwice cX3_somebodyIsTwice 5 (some .boolean) 1 := ⟨tb_c3 209 rfl rfl, tb_c1 6 rfl rfl, by decide +kernel⟩
set_option maxRecDepth 20000 in
theorem mi_X3_somebodyIsTwice : Cond.instanceMethod yX3_somebodyIsTwice ∈ TBL := tb_c3 208 rfl rfl
set_option maxRecDepth 20000 in
theorem mz_X3_somebodyIsTwice : Cond.selects RX3 yX3_somebodyIsTwice yX3_somebodyIsTwice ∈ TBL := tb_of 16 rfl rfl
set_option maxRecDepth 20000 in
theorem me_X3_surprisesNeeded : MEW yX3_surprisesNeeded cX3_surprisesNeeded 4 (some .int) 0 := ⟨tb_c3 192 rfl rfl, tb_c1 6 rfl rfl, by decide +kernel⟩
set_option maxRecDepth 20000 in
theorem mi_X3_surprisesNeeded : Cond.instanceMethod yX3_surprisesNeeded ∈ TBL := tb_c3 190 rfl rfl
set_option maxRecDepth 20000 in
theorem mz_X3_surprisesNeeded : Cond.selects RX3 yX3_surprisesNeeded yX3_surprisesNeeded ∈ TBL := tb_c3 191 rfl rfl
set_option maxRecDepth 20000 in
theorem me_X3_trustAfter : MEW yX3_trustAfter cX3_trustAfter 3 (some .int) 2 := ⟨tb_c3 100 rfl rfl, tb_c1 6 rfl rfl, by decide +kernel⟩
set_option maxRecDepth 20000 in
theorem mi_X3_trustAfter : Cond.instanceMethod yX3_trustAfter ∈ TBL := tb_c3 98 rfl rfl
set_option maxRecDepth 20000 in
theorem mz_X3_trustAfter : Cond.selects RX3 yX3_trustAfter yX3_trustAfter ∈ TBL := tb_c3 99 rfl rfl
set_option maxRecDepth 20000 in
theorem me_X3_trustOfPair : MEW yX3_trustOfPair cX3_trustOfPair 5 (some .int) 2 := ⟨tb_c3 91 rfl rfl, tb_c1 6 rfl rfl, by decide +kernel⟩
set_option maxRecDepth 20000 in
theorem mi_X3_trustOfPair : Cond.instanceMethod yX3_trustOfPair ∈ TBL := tb_c3 89 rfl rfl
set_option maxRecDepth 20000 in
theorem mz_X3_trustOfPair : Cond.selects RX3 yX3_trustOfPair yX3_trustOfPair ∈ TBL := tb_c3 90 rfl rfl
set_option maxRecDepth 20000 in
theorem me_X3_worthIf : MEW yX3_worthIf cX3_worthIf 5 (some .int) 2 := ⟨tb_c3 131 rfl rfl, tb_c1 6 rfl rfl, by decide +kernel⟩
set_option maxRecDepth 20000 in
theorem mi_X3_worthIf : Cond.instanceMethod yX3_worthIf ∈ TBL := tb_c3 130 rfl rfl
set_option maxRecDepth 20000 in
theorem mz_X3_worthIf : Cond.selects RX3 yX3_worthIf yX3_worthIf ∈ TBL := tb_of 12 rfl rfl
set_option maxRecDepth 20000 in
theorem me_X3_worthOf : MEW yX3_worthOf cX3_worthOf 3 (some .int) 2 := ⟨tb_c3 136 rfl rfl, tb_c1 6 rfl rfl, by decide +kernel⟩
set_option maxRecDepth 20000 in
theorem mi_X3_worthOf : Cond.instanceMethod yX3_worthOf ∈ TBL := tb_c3 134 rfl rfl
set_option maxRecDepth 20000 in
theorem mz_X3_worthOf : Cond.selects RX3 yX3_worthOf yX3_worthOf ∈ TBL := tb_c3 135 rfl rfl
set_option maxRecDepth 20000 in
theorem me_X3_worthOn : MEW yX3_worthOn cX3_worthOn 2 (some .int) 1 := ⟨tb_c3 127 rfl rfl, tb_c1 6 rfl rfl, by decide +kernel⟩
set_option maxRecDepth 20000 in
theorem mi_X3_worthOn : Cond.instanceMethod yX3_worthOn ∈ TBL := tb_c3 125 rfl rfl
set_option maxRecDepth 20000 in
theorem mz_X3_worthOn : Cond.selects RX3 yX3_worthOn yX3_worthOn ∈ TBL := tb_c3 126 rfl rfl
set_option maxRecDepth 20000 in
theorem me_X4_findBest : MEW yX4_findBest cX4_findBest 8 none 1 := ⟨tb_c3 165 rfl rfl, tb_c1 7 rfl rfl, by decide +kernel⟩
set_option maxRecDepth 20000 in
theorem mi_X4_findBest : Cond.instanceMethod yX4_findBest ∈ TBL := tb_c3 163 rfl rfl
set_option maxRecDepth 20000 in
theorem mz_X4_findBest : Cond.selects RX4 yX4_findBest yX4_findBest ∈ TBL := tb_c3 164 rfl rfl
set_option maxRecDepth 20000 in
theorem me_X4_findLot : MEW yX4_findLot cX4_findLot 7 none 1 := ⟨tb_c4 46 rfl rfl, tb_c1 7 rfl rfl, by decide +kernel⟩
set_option maxRecDepth 20000 in
theorem mi_X4_findLot : Cond.instanceMethod yX4_findLot ∈ TBL := tb_c4 44 rfl rfl
set_option maxRecDepth 20000 in
theorem mz_X4_findLot : Cond.selects RX4 yX4_findLot yX4_findLot ∈ TBL := tb_c4 45 rfl rfl
set_option maxRecDepth 20000 in
theorem me_X4_power : MEW yX4_power cX4_power 6 (some .long) 2 := ⟨tb_c4 66 rfl rfl, tb_c1 7 rfl rfl, by decide +kernel⟩
set_option maxRecDepth 20000 in
theorem ms_X4_power : Cond.static yX4_power ∈ TBL := tb_c4 65 rfl rfl
set_option maxRecDepth 20000 in
theorem me_X4_reduce : MEW yX4_reduce cX4_reduce 8 none 0 := ⟨tb_c3 176 rfl rfl, tb_c1 7 rfl rfl, by decide +kernel⟩
set_option maxRecDepth 20000 in
theorem mi_X4_reduce : Cond.instanceMethod yX4_reduce ∈ TBL := tb_c3 175 rfl rfl
set_option maxRecDepth 20000 in
theorem mz_X4_reduce : Cond.selects RX4 yX4_reduce yX4_reduce ∈ TBL := tb_of 14 rfl rfl
set_option maxRecDepth 20000 in
theorem me_X4_ways : MEW yX4_ways cX4_ways 5 (some .long) 2 := ⟨tb_c4 63 rfl rfl, tb_c1 7 rfl rfl, by decide +kernel⟩
set_option maxRecDepth 20000 in
theorem ms_X4_ways : Cond.static yX4_ways ∈ TBL := tb_c4 62 rfl rfl
set_option maxRecDepth 20000 in
theorem me_X5_add : MEW yX5_add cX5_add 3 (some .int) 2 := ⟨tb_c4 92 rfl rfl, tb_c1 9 rfl rfl, by decide +kernel⟩
set_option maxRecDepth 20000 in
theorem mi_X5_add : Cond.instanceMethod yX5_add ∈ TBL := tb_c4 90 rfl rfl
set_option maxRecDepth 20000 in
theorem mz_X5_add : Cond.selects RX5 yX5_add yX5_add ∈ TBL := tb_c4 91 rfl rfl
set_option maxRecDepth 20000 in
theorem me_X5_become : MEW yX5_become cX5_become 2 none 1 := ⟨tb_c5 67 rfl rfl, tb_c1 9 rfl rfl, by decide +kernel⟩
set_option maxRecDepth 20000 in
theorem mi_X5_become : Cond.instanceMethod yX5_become ∈ TBL := tb_c5 65 rfl rfl
set_option maxRecDepth 20000 in
theorem mz_X5_become : Cond.selects RX5 yX5_become yX5_become ∈ TBL := tb_c5 66 rfl rfl
set_option maxRecDepth 20000 in
theorem me_X5_drawFrom : MEW yX5_drawFrom cX5_drawFrom 5 (some .int) 1 := ⟨tb_c4 144 rfl rfl, tb_c1 9 rfl rfl, by decide +kernel⟩
set_option maxRecDepth 20000 in
theorem mi_X5_drawFrom : Cond.instanceMethod yX5_drawFrom ∈ TBL := tb_c4 143 rfl rfl
set_option maxRecDepth 20000 in
theorem mz_X5_drawFrom : Cond.selects RX5 yX5_drawFrom yX5_drawFrom ∈ TBL := tb_of 28 rfl rfl
set_option maxRecDepth 20000 in
theorem me_X5_fillDay : MEW yX5_fillDay cX5_fillDay 6 (some .int) 3 := ⟨tb_c4 108 rfl rfl, tb_c1 9 rfl rfl, by decide +kernel⟩
set_option maxRecDepth 20000 in
theorem mi_X5_fillDay : Cond.instanceMethod yX5_fillDay ∈ TBL := tb_c4 106 rfl rfl
set_option maxRecDepth 20000 in
theorem mz_X5_fillDay : Cond.selects RX5 yX5_fillDay yX5_fillDay ∈ TBL := tb_c4 107 rfl rfl
set_option maxRecDepth 20000 in
theorem me_X5_has : MEW yX5_has cX5_has 2 (some .boolean) 1 := ⟨tb_c4 100 rfl rfl, tb_c1 9 rfl rfl, by decide +kernel⟩
set_option maxRecDepth 20000 in
theorem mi_X5_has : Cond.instanceMethod yX5_has ∈ TBL := tb_c4 98 rfl rfl
set_option maxRecDepth 20000 in
theorem mz_X5_has : Cond.selects RX5 yX5_has yX5_has ∈ TBL := tb_c4 99 rfl rfl
set_option maxRecDepth 20000 in
theorem me_X5_isIn : MEW yX5_isIn cX5_isIn 2 (some .boolean) 2 := ⟨tb_c4 129 rfl rfl, tb_c1 9 rfl rfl, by decide +kernel⟩
set_option maxRecDepth 20000 in
theorem ms_X5_isIn : Cond.static yX5_isIn ∈ TBL := tb_c4 128 rfl rfl
set_option maxRecDepth 20000 in
theorem me_X5_leastOf : MEW yX5_leastOf cX5_leastOf 2 (some .int) 1 := ⟨tb_c4 135 rfl rfl, tb_c1 9 rfl rfl, by decide +kernel⟩
set_option maxRecDepth 20000 in
theorem ms_X5_leastOf : Cond.static yX5_leastOf ∈ TBL := tb_c4 134 rfl rfl
set_option maxRecDepth 20000 in
theorem me_X5_longestApart : MEW yX5_longestApart cX5_longestApart 9 (some .int) 4 := ⟨tb_c4 126 rfl rfl, tb_c1 9 rfl rfl, by decide +kernel⟩
set_option maxRecDepth 20000 in
theorem ms_X5_longestApart : Cond.static yX5_longestApart ∈ TBL := tb_c4 125 rfl rfl
set_option maxRecDepth 20000 in
theorem me_X5_presentFor : MEW yX5_presentFor cX5_presentFor 7 (some .int) 3 := ⟨tb_c4 117 rfl rfl, tb_c1 9 rfl rfl, by decide +kernel⟩
set_option maxRecDepth 20000 in
theorem mi_X5_presentFor : Cond.instanceMethod yX5_presentFor ∈ TBL := tb_c4 116 rfl rfl
set_option maxRecDepth 20000 in
theorem mz_X5_presentFor : Cond.selects RX5 yX5_presentFor yX5_presentFor ∈ TBL := tb_of 25 rfl rfl
set_option maxRecDepth 20000 in
theorem me_X5_seatByDraw : MEW yX5_seatByDraw cX5_seatByDraw 4 none 1 := ⟨tb_c4 139 rfl rfl, tb_c1 9 rfl rfl, by decide +kernel⟩
set_option maxRecDepth 20000 in
theorem mi_X5_seatByDraw : Cond.instanceMethod yX5_seatByDraw ∈ TBL := tb_c4 138 rfl rfl
set_option maxRecDepth 20000 in
theorem mz_X5_seatByDraw : Cond.selects RX5 yX5_seatByDraw yX5_seatByDraw ∈ TBL := tb_of 27 rfl rfl
set_option maxRecDepth 20000 in
theorem me_X5_seatByTurn : MEW yX5_seatByTurn cX5_seatByTurn 6 none 3 := ⟨tb_c4 123 rfl rfl, tb_c1 9 rfl rfl, by decide +kernel⟩
set_option maxRecDepth 20000 in
theorem mi_X5_seatByTurn : Cond.instanceMethod yX5_seatByTurn ∈ TBL := tb_c4 122 rfl rfl
set_option maxRecDepth 20000 in
theorem mz_X5_seatByTurn : Cond.selects RX5 yX5_seatByTurn yX5_seatByTurn ∈ TBL := tb_of 26 rfl rfl
set_option maxRecDepth 20000 in
theorem me_X5_seatStranger : MEW yX5_seatStranger cX5_seatStranger 6 none 2 := ⟨tb_c4 148 rfl rfl, tb_c1 9 rfl rfl, by decide +kernel⟩
set_option maxRecDepth 20000 in
theorem mi_X5_seatStranger : Cond.instanceMethod yX5_seatStranger ∈ TBL := tb_c4 147 rfl rfl
set_option maxRecDepth 20000 in
theorem mz_X5_seatStranger : Cond.selects RX5 yX5_seatStranger yX5_seatStranger ∈ TBL := tb_of 29 rfl rfl
set_option maxRecDepth 20000 in
theorem me_X5_seatTold : MEW yX5_seatTold cX5_seatTold 4 (some .boolean) 2 := ⟨tb_c4 112 rfl rfl, tb_c1 9 rfl rfl, by decide +kernel⟩
set_option maxRecDepth 20000 in
theorem mi_X5_seatTold : Cond.instanceMethod yX5_seatTold ∈ TBL := tb_c4 111 rfl rfl
set_option maxRecDepth 20000 in
theorem mz_X5_seatTold : Cond.selects RX5 yX5_seatTold yX5_seatTold ∈ TBL := tb_of 24 rfl rfl
set_option maxRecDepth 20000 in
theorem me_X5_sitDown : MEW yX5_sitDown cX5_sitDown 5 (some .int) 2 := ⟨tb_c4 152 rfl rfl, tb_c1 9 rfl rfl, by decide +kernel⟩
set_option maxRecDepth 20000 in
theorem mi_X5_sitDown : Cond.instanceMethod yX5_sitDown ∈ TBL := tb_c4 151 rfl rfl
set_option maxRecDepth 20000 in
theorem mz_X5_sitDown : Cond.selects RX5 yX5_sitDown yX5_sitDown ∈ TBL := tb_of 30 rfl rfl
set_option maxRecDepth 20000 in
theorem me_X6_drop : MEW yX6_drop cX6_drop 1 none 0 := ⟨tb_c3 6 rfl rfl, tb_c1 10 rfl rfl, by decide +kernel⟩
set_option maxRecDepth 20000 in
theorem mi_X6_drop : Cond.instanceMethod yX6_drop ∈ TBL := tb_c3 4 rfl rfl
set_option maxRecDepth 20000 in
theorem mz_X6_drop : Cond.selects RX6 yX6_drop yX6_drop ∈ TBL := tb_c3 5 rfl rfl
set_option maxRecDepth 20000 in
theorem me_X6_due : MEW yX6_due cX6_due 4 (some .int) 2 := ⟨tb_c4 169 rfl rfl, tb_c1 10 rfl rfl, by decide +kernel⟩
set_option maxRecDepth 20000 in
theorem mi_X6_due : Cond.instanceMethod yX6_due ∈ TBL := tb_c4 168 rfl rfl
set_option maxRecDepth 20000 in
theorem mz_X6_due : Cond.selects RX6 yX6_due yX6_due ∈ TBL := tb_of 31 rfl rfl
set_option maxRecDepth 20000 in
theorem me_X6_firstWrong : MEW yX6_firstWrong cX6_firstWrong 3 (some .int) 0 := ⟨tb_c4 192 rfl rfl, tb_c1 10 rfl rfl, by decide +kernel⟩
set_option maxRecDepth 20000 in
theorem mi_X6_firstWrong : Cond.instanceMethod yX6_firstWrong ∈ TBL := tb_c4 190 rfl rfl
set_option maxRecDepth 20000 in
theorem mz_X6_firstWrong : Cond.selects RX6 yX6_firstWrong yX6_firstWrong ∈ TBL := tb_c4 191 rfl rfl
set_option maxRecDepth 20000 in
theorem me_X6_has : MEW yX6_has cX6_has 3 (some .boolean) 2 := ⟨tb_c4 180 rfl rfl, tb_c1 10 rfl rfl, by decide +kernel⟩
set_option maxRecDepth 20000 in
theorem mi_X6_has : Cond.instanceMethod yX6_has ∈ TBL := tb_c4 178 rfl rfl
set_option maxRecDepth 20000 in
theorem mz_X6_has : Cond.selects RX6 yX6_has yX6_has ∈ TBL := tb_c4 179 rfl rfl
set_option maxRecDepth 20000 in
theorem me_X6_write : MEW yX6_write cX6_write 3 (some .int) 0 := ⟨tb_c4 165 rfl rfl, tb_c1 10 rfl rfl, by decide +kernel⟩
set_option maxRecDepth 20000 in
theorem mi_X6_write : Cond.instanceMethod yX6_write ∈ TBL := tb_c4 163 rfl rfl
set_option maxRecDepth 20000 in
theorem mz_X6_write : Cond.selects RX6 yX6_write yX6_write ∈ TBL := tb_c4 164 rfl rfl
set_option maxRecDepth 20000 in
theorem me_X7_add : MEW yX7_add cX7_add 5 (some .int) 2 := ⟨tb_c2 82 rfl rfl, tb_c1 5 rfl rfl, by decide +kernel⟩
set_option maxRecDepth 20000 in
theorem mi_X7_add : Cond.instanceMethod yX7_add ∈ TBL := tb_c2 80 rfl rfl
set_option maxRecDepth 20000 in
theorem mz_X7_add : Cond.selects RX7 yX7_add yX7_add ∈ TBL := tb_c2 81 rfl rfl
set_option maxRecDepth 20000 in
theorem me_X7_endOfName : MEW yX7_endOfName cX7_endOfName 2 (some .int) 0 := ⟨tb_c2 106 rfl rfl, tb_c1 5 rfl rfl, by decide +kernel⟩
set_option maxRecDepth 20000 in
theorem mi_X7_endOfName : Cond.instanceMethod yX7_endOfName ∈ TBL := tb_c2 105 rfl rfl
set_option maxRecDepth 20000 in
theorem mz_X7_endOfName : Cond.selects RX7 yX7_endOfName yX7_endOfName ∈ TBL := tb_of 2 rfl rfl
set_option maxRecDepth 20000 in
theorem me_X7_fail : MEW yX7_fail cX7_fail 2 none 1 := ⟨tb_c2 177 rfl rfl, tb_c1 5 rfl rfl, by decide +kernel⟩
set_option maxRecDepth 20000 in
theorem mi_X7_fail : Cond.instanceMethod yX7_fail ∈ TBL := tb_c2 176 rfl rfl
set_option maxRecDepth 20000 in
theorem mz_X7_fail : Cond.selects RX7 yX7_fail yX7_fail ∈ TBL := tb_of 4 rfl rfl
set_option maxRecDepth 20000 in
theorem me_X7_isDigit : MEW yX7_isDigit cX7_isDigit 1 (some .boolean) 1 := ⟨tb_c2 195 rfl rfl, tb_c1 5 rfl rfl, by decide +kernel⟩
set_option maxRecDepth 20000 in
theorem ms_X7_isDigit : Cond.static yX7_isDigit ∈ TBL := tb_c2 194 rfl rfl
set_option maxRecDepth 20000 in
theorem me_X7_nameOf : MEW yX7_nameOf cX7_nameOf 1 (some (.object "java/lang/String")) 1 := ⟨tb_c2 109 rfl rfl, tb_c1 5 rfl rfl, by decide +kernel⟩
set_option maxRecDepth 20000 in
theorem ms_X7_nameOf : Cond.static yX7_nameOf ∈ TBL := tb_c2 108 rfl rfl
set_option maxRecDepth 20000 in
theorem me_X7_readAway : MEW yX7_readAway cX7_readAway 5 none 0 := ⟨tb_c2 214 rfl rfl, tb_c1 5 rfl rfl, by decide +kernel⟩
set_option maxRecDepth 20000 in
theorem mi_X7_readAway : Cond.instanceMethod yX7_readAway ∈ TBL := tb_c2 213 rfl rfl
set_option maxRecDepth 20000 in
theorem mz_X7_readAway : Cond.selects RX7 yX7_readAway yX7_readAway ∈ TBL := tb_of 8 rfl rfl
set_option maxRecDepth 20000 in
theorem me_X7_readEnd : MEW yX7_readEnd cX7_readEnd 1 none 0 := ⟨tb_c2 238 rfl rfl, tb_c1 5 rfl rfl, by decide +kernel⟩
set_option maxRecDepth 20000 in
theorem mi_X7_readEnd : Cond.instanceMethod yX7_readEnd ∈ TBL := tb_c2 237 rfl rfl
set_option maxRecDepth 20000 in
theorem mz_X7_readEnd : Cond.selects RX7 yX7_readEnd yX7_readEnd ∈ TBL := tb_of 11 rfl rfl
set_option maxRecDepth 20000 in
theorem me_X7_readKin : MEW yX7_readKin cX7_readKin 3 none 0 := ⟨tb_c2 188 rfl rfl, tb_c1 5 rfl rfl, by decide +kernel⟩
set_option maxRecDepth 20000 in
theorem mi_X7_readKin : Cond.instanceMethod yX7_readKin ∈ TBL := tb_c2 187 rfl rfl
set_option maxRecDepth 20000 in
theorem mz_X7_readKin : Cond.selects RX7 yX7_readKin yX7_readKin ∈ TBL := tb_of 5 rfl rfl
set_option maxRecDepth 20000 in
theorem me_X7_readLaw : MEW yX7_readLaw cX7_readLaw 3 none 1 := ⟨tb_c2 232 rfl rfl, tb_c1 5 rfl rfl, by decide +kernel⟩
set_option maxRecDepth 20000 in
theorem mi_X7_readLaw : Cond.instanceMethod yX7_readLaw ∈ TBL := tb_c2 231 rfl rfl
set_option maxRecDepth 20000 in
theorem mz_X7_readLaw : Cond.selects RX7 yX7_readLaw yX7_readLaw ∈ TBL := tb_of 10 rfl rfl
set_option maxRecDepth 20000 in
theorem me_X7_readNumber : MEW yX7_readNumber cX7_readNumber 6 (some .int) 2 := ⟨tb_c2 192 rfl rfl, tb_c1 5 rfl rfl, by decide +kernel⟩
set_option maxRecDepth 20000 in
theorem mi_X7_readNumber : Cond.instanceMethod yX7_readNumber ∈ TBL := tb_c2 191 rfl rfl
set_option maxRecDepth 20000 in
theorem mz_X7_readNumber : Cond.selects RX7 yX7_readNumber yX7_readNumber ∈ TBL := tb_of 6 rfl rfl
set_option maxRecDepth 20000 in
theorem me_X7_readStatement : MEW yX7_readStatement cX7_readStatement 3 none 0 := ⟨tb_c2 102 rfl rfl, tb_c1 5 rfl rfl, by decide +kernel⟩
set_option maxRecDepth 20000 in
theorem mi_X7_readStatement : Cond.instanceMethod yX7_readStatement ∈ TBL := tb_c2 101 rfl rfl
set_option maxRecDepth 20000 in
theorem mz_X7_readStatement : Cond.selects RX7 yX7_readStatement yX7_readStatement ∈ TBL := tb_of 1 rfl rfl
set_option maxRecDepth 20000 in
theorem me_X7_readTrust : MEW yX7_readTrust cX7_readTrust 4 none 0 := ⟨tb_c2 207 rfl rfl, tb_c1 5 rfl rfl, by decide +kernel⟩
set_option maxRecDepth 20000 in
theorem mi_X7_readTrust : Cond.instanceMethod yX7_readTrust ∈ TBL := tb_c2 206 rfl rfl
set_option maxRecDepth 20000 in
theorem mz_X7_readTrust : Cond.selects RX7 yX7_readTrust yX7_readTrust ∈ TBL := tb_of 7 rfl rfl
set_option maxRecDepth 20000 in
theorem me_X7_readWord : MEW yX7_readWord cX7_readWord 3 none 1 := ⟨tb_c2 219 rfl rfl, tb_c1 5 rfl rfl, by decide +kernel⟩
set_option maxRecDepth 20000 in
theorem mi_X7_readWord : Cond.instanceMethod yX7_readWord ∈ TBL := tb_c2 218 rfl rfl
set_option maxRecDepth 20000 in
theorem mz_X7_readWord : Cond.selects RX7 yX7_readWord yX7_readWord ∈ TBL := tb_of 9 rfl rfl
set_option maxRecDepth 20000 in
theorem me_X7_skipBlanks : MEW yX7_skipBlanks cX7_skipBlanks 1 none 0 := ⟨tb_c2 98 rfl rfl, tb_c1 5 rfl rfl, by decide +kernel⟩
set_option maxRecDepth 20000 in
theorem mi_X7_skipBlanks : Cond.instanceMethod yX7_skipBlanks ∈ TBL := tb_c2 97 rfl rfl
set_option maxRecDepth 20000 in
theorem mz_X7_skipBlanks : Cond.selects RX7 yX7_skipBlanks yX7_skipBlanks ∈ TBL := tb_of 0 rfl rfl
set_option maxRecDepth 20000 in
theorem me_X7_stands : MEW yX7_stands cX7_stands 4 (some .boolean) 2 := ⟨tb_c2 125 rfl rfl, tb_c1 5 rfl rfl, by decide +kernel⟩
set_option maxRecDepth 20000 in
theorem mi_X7_stands : Cond.instanceMethod yX7_stands ∈ TBL := tb_c2 124 rfl rfl
set_option maxRecDepth 20000 in
theorem mz_X7_stands : Cond.selects RX7 yX7_stands yX7_stands ∈ TBL := tb_of 3 rfl rfl
set_option maxRecDepth 20000 in
theorem me_X7_tell : MEW yX7_tell cX7_tell 3 (some .int) 1 := ⟨tb_c2 90 rfl rfl, tb_c1 5 rfl rfl, by decide +kernel⟩
set_option maxRecDepth 20000 in
theorem mi_X7_tell : Cond.instanceMethod yX7_tell ∈ TBL := tb_c2 88 rfl rfl
set_option maxRecDepth 20000 in
theorem mz_X7_tell : Cond.selects RX7 yX7_tell yX7_tell ∈ TBL := tb_c2 89 rfl rfl
set_option maxRecDepth 20000 in
theorem me_X8_change : MEW yX8_change cX8_change 4 (some .int) 3 := ⟨tb_c4 4 rfl rfl, tb_c1 8 rfl rfl, by decide +kernel⟩
set_option maxRecDepth 20000 in
theorem mi_X8_change : Cond.instanceMethod yX8_change ∈ TBL := tb_c4 3 rfl rfl
set_option maxRecDepth 20000 in
theorem mz_X8_change : Cond.selects RX8 yX8_change yX8_change ∈ TBL := tb_of 19 rfl rfl
set_option maxRecDepth 20000 in
theorem me_X8_countRows : MEW yX8_countRows cX8_countRows 7 (some .int) 3 := ⟨tb_c4 33 rfl rfl, tb_c1 8 rfl rfl, by decide +kernel⟩
set_option maxRecDepth 20000 in
theorem ms_X8_countRows : Cond.static yX8_countRows ∈ TBL := tb_c4 32 rfl rfl
set_option maxRecDepth 20000 in
theorem me_X8_isFree : MEW yX8_isFree cX8_isFree 4 (some .boolean) 3 := ⟨tb_c4 9 rfl rfl, tb_c1 8 rfl rfl, by decide +kernel⟩
set_option maxRecDepth 20000 in
theorem mi_X8_isFree : Cond.instanceMethod yX8_isFree ∈ TBL := tb_c4 8 rfl rfl
set_option maxRecDepth 20000 in
theorem mz_X8_isFree : Cond.selects RX8 yX8_isFree yX8_isFree ∈ TBL := tb_of 20 rfl rfl
set_option maxRecDepth 20000 in
theorem me_X8_maySit : MEW yX8_maySit cX8_maySit 4 (some .boolean) 3 := ⟨tb_c3 231 rfl rfl, tb_c1 8 rfl rfl, by decide +kernel⟩
set_option maxRecDepth 20000 in
theorem mi_X8_maySit : Cond.instanceMethod yX8_maySit ∈ TBL := tb_c3 230 rfl rfl
set_option maxRecDepth 20000 in
theorem mz_X8_maySit : Cond.selects RX8 yX8_maySit yX8_maySit ∈ TBL := tb_of 17 rfl rfl
set_option maxRecDepth 20000 in
theorem me_X8_mend : MEW yX8_mend cX8_mend 4 (some .boolean) 1 := ⟨tb_c3 227 rfl rfl, tb_c1 8 rfl rfl, by decide +kernel⟩
set_option maxRecDepth 20000 in
theorem mi_X8_mend : Cond.instanceMethod yX8_mend ∈ TBL := tb_c3 225 rfl rfl
set_option maxRecDepth 20000 in
theorem mz_X8_mend : Cond.selects RX8 yX8_mend yX8_mend ∈ TBL := tb_c3 226 rfl rfl
set_option maxRecDepth 20000 in
theorem me_X8_mendBy : MEW yX8_mendBy cX8_mendBy 10 none 3 := ⟨tb_c3 239 rfl rfl, tb_c1 8 rfl rfl, by decide +kernel⟩
set_option maxRecDepth 20000 in
theorem mi_X8_mendBy : Cond.instanceMethod yX8_mendBy ∈ TBL := tb_c3 238 rfl rfl
set_option maxRecDepth 20000 in
theorem mz_X8_mendBy : Cond.selects RX8 yX8_mendBy yX8_mendBy ∈ TBL := tb_of 18 rfl rfl
set_option maxRecDepth 20000 in
theorem me_X8_mostTrust : MEW yX8_mostTrust cX8_mostTrust 7 (some .int) 2 := ⟨tb_c4 30 rfl rfl, tb_c1 8 rfl rfl, by decide +kernel⟩
set_option maxRecDepth 20000 in
theorem mi_X8_mostTrust : Cond.instanceMethod yX8_mostTrust ∈ TBL := tb_c4 29 rfl rfl
set_option maxRecDepth 20000 in
theorem mz_X8_mostTrust : Cond.selects RX8 yX8_mostTrust yX8_mostTrust ∈ TBL := tb_of 22 rfl rfl
set_option maxRecDepth 20000 in
theorem me_X8_rowsAhead : MEW yX8_rowsAhead cX8_rowsAhead 9 (some .int) 2 := ⟨tb_c4 25 rfl rfl, tb_c1 8 rfl rfl, by decide +kernel⟩
set_option maxRecDepth 20000 in
theorem mi_X8_rowsAhead : Cond.instanceMethod yX8_rowsAhead ∈ TBL := tb_c4 23 rfl rfl
set_option maxRecDepth 20000 in
theorem mz_X8_rowsAhead : Cond.selects RX8 yX8_rowsAhead yX8_rowsAhead ∈ TBL := tb_c4 24 rfl rfl
set_option maxRecDepth 20000 in
theorem me_X8_standsBehindChosen : MEW yX8_standsBehindChosen cX8_standsBehindChosen 6 (some .boolean) 2 := ⟨tb_c4 37 rfl rfl, tb_c1 8 rfl rfl, by decide +kernel⟩
set_option maxRecDepth 20000 in
theorem mi_X8_standsBehindChosen : Cond.instanceMethod yX8_standsBehindChosen ∈ TBL := tb_c4 36 rfl rfl
set_option maxRecDepth 20000 in
theorem mz_X8_standsBehindChosen : Cond.selects RX8 yX8_standsBehindChosen yX8_standsBehindChosen ∈ TBL := tb_of 23 rfl rfl
set_option maxRecDepth 20000 in
theorem me_X8_wouldPay : MEW yX8_wouldPay cX8_wouldPay 7 (some .boolean) 5 := ⟨tb_c4 13 rfl rfl, tb_c1 8 rfl rfl, by decide +kernel⟩
set_option maxRecDepth 20000 in
theorem mi_X8_wouldPay : Cond.instanceMethod yX8_wouldPay ∈ TBL := tb_c4 12 rfl rfl
set_option maxRecDepth 20000 in
theorem mz_X8_wouldPay : Cond.selects RX8 yX8_wouldPay yX8_wouldPay ∈ TBL := tb_of 21 rfl rfl
set_option maxRecDepth 20000 in
theorem me_X9_act : MEW yX9_act cX9_act 5 (some .int) 3 := ⟨tb_c5 20 rfl rfl, tb_c1 1 rfl rfl, by decide +kernel⟩
set_option maxRecDepth 20000 in
theorem mi_X9_act : Cond.instanceMethod yX9_act ∈ TBL := tb_c5 18 rfl rfl
set_option maxRecDepth 20000 in
theorem mz_X9_act : Cond.selects RX9 yX9_act yX9_act ∈ TBL := tb_c5 19 rfl rfl
set_option maxRecDepth 20000 in
theorem me_X9_again : MEW yX9_again cX9_again 1 (some .int) 0 := ⟨tb_c5 72 rfl rfl, tb_c1 1 rfl rfl, by decide +kernel⟩
set_option maxRecDepth 20000 in
theorem mi_X9_again : Cond.instanceMethod yX9_again ∈ TBL := tb_c5 70 rfl rfl
set_option maxRecDepth 20000 in
theorem mz_X9_again : Cond.selects RX9 yX9_again yX9_again ∈ TBL := tb_c5 71 rfl rfl
set_option maxRecDepth 20000 in
theorem me_X9_ahead : MEW yX9_ahead cX9_ahead 3 (some .int) 2 := ⟨tb_c4 21 rfl rfl, tb_c1 1 rfl rfl, by decide +kernel⟩
set_option maxRecDepth 20000 in
theorem mi_X9_ahead : Cond.instanceMethod yX9_ahead ∈ TBL := tb_c4 19 rfl rfl
set_option maxRecDepth 20000 in
theorem mz_X9_ahead : Cond.selects RX9 yX9_ahead yX9_ahead ∈ TBL := tb_c4 20 rfl rfl
set_option maxRecDepth 20000 in
theorem me_X9_alterRow : MEW yX9_alterRow cX9_alterRow 6 (some .int) 3 := ⟨tb_c4 184 rfl rfl, tb_c1 1 rfl rfl, by decide +kernel⟩
set_option maxRecDepth 20000 in
theorem mi_X9_alterRow : Cond.instanceMethod yX9_alterRow ∈ TBL := tb_c4 182 rfl rfl
set_option maxRecDepth 20000 in
theorem mz_X9_alterRow : Cond.selects RX9 yX9_alterRow yX9_alterRow ∈ TBL := tb_c4 183 rfl rfl
set_option maxRecDepth 20000 in
theorem me_X9_away : MEW yX9_away cX9_away 4 (some .int) 3 := ⟨tb_c3 34 rfl rfl, tb_c1 1 rfl rfl, by decide +kernel⟩
set_option maxRecDepth 20000 in
theorem mi_X9_away : Cond.instanceMethod yX9_away ∈ TBL := tb_c3 32 rfl rfl
set_option maxRecDepth 20000 in
theorem mz_X9_away : Cond.selects RX9 yX9_away yX9_away ∈ TBL := tb_c3 33 rfl rfl
set_option maxRecDepth 20000 in
theorem me_X9_best : MEW yX9_best cX9_best 4 (some .long) 3 := ⟨tb_c3 157 rfl rfl, tb_c1 1 rfl rfl, by decide +kernel⟩
set_option maxRecDepth 20000 in
theorem mi_X9_best : Cond.instanceMethod yX9_best ∈ TBL := tb_c3 155 rfl rfl
set_option maxRecDepth 20000 in
theorem mz_X9_best : Cond.selects RX9 yX9_best yX9_best ∈ TBL := tb_c3 156 rfl rfl
set_option maxRecDepth 20000 in
theorem me_X9_broken : MEW yX9_broken cX9_broken 2 (some .int) 1 := ⟨tb_c3 196 rfl rfl, tb_c1 1 rfl rfl, by decide +kernel⟩
set_option maxRecDepth 20000 in
theorem mi_X9_broken : Cond.instanceMethod yX9_broken ∈ TBL := tb_c3 194 rfl rfl
set_option maxRecDepth 20000 in
theorem mz_X9_broken : Cond.selects RX9 yX9_broken yX9_broken ∈ TBL := tb_c3 195 rfl rfl
set_option maxRecDepth 20000 in
theorem me_X9_days : MEW yX9_days cX9_days 6 (some .int) 2 := ⟨tb_c5 52 rfl rfl, tb_c1 1 rfl rfl, by decide +kernel⟩
set_option maxRecDepth 20000 in
theorem mi_X9_days : Cond.instanceMethod yX9_days ∈ TBL := tb_c5 50 rfl rfl
set_option maxRecDepth 20000 in
theorem mz_X9_days : Cond.selects RX9 yX9_days yX9_days ∈ TBL := tb_c5 51 rfl rfl
set_option maxRecDepth 20000 in
theorem me_X9_enough : MEW yX9_enough cX9_enough 1 (some .int) 0 := ⟨tb_c3 180 rfl rfl, tb_c1 1 rfl rfl, by decide +kernel⟩
set_option maxRecDepth 20000 in
theorem mi_X9_enough : Cond.instanceMethod yX9_enough ∈ TBL := tb_c3 178 rfl rfl
set_option maxRecDepth 20000 in
theorem mz_X9_enough : Cond.selects RX9 yX9_enough yX9_enough ∈ TBL := tb_c3 179 rfl rfl
set_option maxRecDepth 20000 in
theorem me_X9_feed : MEW yX9_feed cX9_feed 4 (some .int) 2 := ⟨tb_c2 78 rfl rfl, tb_c1 1 rfl rfl, by decide +kernel⟩
set_option maxRecDepth 20000 in
theorem mi_X9_feed : Cond.instanceMethod yX9_feed ∈ TBL := tb_c2 76 rfl rfl
set_option maxRecDepth 20000 in
theorem mz_X9_feed : Cond.selects RX9 yX9_feed yX9_feed ∈ TBL := tb_c2 77 rfl rfl
set_option maxRecDepth 20000 in
theorem me_X9_fill : MEW yX9_fill cX9_fill 3 (some .int) 2 := ⟨tb_c4 104 rfl rfl, tb_c1 1 rfl rfl, by decide +kernel⟩
set_option maxRecDepth 20000 in
theorem mi_X9_fill : Cond.instanceMethod yX9_fill ∈ TBL := tb_c4 102 rfl rfl
set_option maxRecDepth 20000 in
theorem mz_X9_fill : Cond.selects RX9 yX9_fill yX9_fill ∈ TBL := tb_c4 103 rfl rfl
set_option maxRecDepth 20000 in
theorem me_X9_house : MEW yX9_house cX9_house 2 (some .int) 0 := ⟨tb_c2 86 rfl rfl, tb_c1 1 rfl rfl, by decide +kernel⟩
set_option maxRecDepth 20000 in
theorem mi_X9_house : Cond.instanceMethod yX9_house ∈ TBL := tb_c2 84 rfl rfl
set_option maxRecDepth 20000 in
theorem mz_X9_house : Cond.selects RX9 yX9_house yX9_house ∈ TBL := tb_c2 85 rfl rfl
set_option maxRecDepth 20000 in
theorem me_X9_init : MEW yX9_init cX9_init 1 none 0 := ⟨tb_c1 24 rfl rfl, tb_c1 1 rfl rfl, by decide +kernel⟩
set_option maxRecDepth 20000 in
theorem mi_X9_init : Cond.instanceMethod yX9_init ∈ TBL := tb_c1 23 rfl rfl
set_option maxRecDepth 20000 in
theorem me_X9_isDay : MEW yX9_isDay cX9_isDay 1 (some .boolean) 1 := ⟨tb_c3 38 rfl rfl, tb_c1 1 rfl rfl, by decide +kernel⟩
set_option maxRecDepth 20000 in
theorem ms_X9_isDay : Cond.static yX9_isDay ∈ TBL := tb_c3 37 rfl rfl
set_option maxRecDepth 20000 in
theorem me_X9_isPart : MEW yX9_isPart cX9_isPart 1 (some .boolean) 1 := ⟨tb_c3 160 rfl rfl, tb_c1 1 rfl rfl, by decide +kernel⟩
set_option maxRecDepth 20000 in
theorem ms_X9_isPart : Cond.static yX9_isPart ∈ TBL := tb_c3 159 rfl rfl
set_option maxRecDepth 20000 in
theorem me_X9_isPlace : MEW yX9_isPlace cX9_isPlace 1 (some .boolean) 1 := ⟨tb_c4 199 rfl rfl, tb_c1 1 rfl rfl, by decide +kernel⟩
set_option maxRecDepth 20000 in
theorem ms_X9_isPlace : Cond.static yX9_isPlace ∈ TBL := tb_c4 198 rfl rfl
set_option maxRecDepth 20000 in
theorem me_X9_isPost : MEW yX9_isPost cX9_isPost 1 (some .boolean) 1 := ⟨tb_c3 55 rfl rfl, tb_c1 1 rfl rfl, by decide +kernel⟩
set_option maxRecDepth 20000 in
theorem ms_X9_isPost : Cond.static yX9_isPost ∈ TBL := tb_c3 54 rfl rfl
set_option maxRecDepth 20000 in
theorem me_X9_item : MEW yX9_item cX9_item 4 (some .int) 3 := ⟨tb_c4 219 rfl rfl, tb_c1 1 rfl rfl, by decide +kernel⟩
set_option maxRecDepth 20000 in
theorem mi_X9_item : Cond.instanceMethod yX9_item ∈ TBL := tb_c4 217 rfl rfl
set_option maxRecDepth 20000 in
theorem mz_X9_item : Cond.selects RX9 yX9_item yX9_item ∈ TBL := tb_c4 218 rfl rfl
set_option maxRecDepth 20000 in
theorem me_X9_judge : MEW yX9_judge cX9_judge 1 (some .int) 0 := ⟨tb_c4 188 rfl rfl, tb_c1 1 rfl rfl, by decide +kernel⟩
set_option maxRecDepth 20000 in
theorem mi_X9_judge : Cond.instanceMethod yX9_judge ∈ TBL := tb_c4 186 rfl rfl
set_option maxRecDepth 20000 in
theorem mz_X9_judge : Cond.selects RX9 yX9_judge yX9_judge ∈ TBL := tb_c4 187 rfl rfl
set_option maxRecDepth 20000 in
theorem me_X9_keep : MEW yX9_keep cX9_keep 1 (some .int) 0 := ⟨tb_c5 62 rfl rfl, tb_c1 1 rfl rfl, by decide +kernel⟩
set_option maxRecDepth 20000 in
theorem mi_X9_keep : Cond.instanceMethod yX9_keep ∈ TBL := tb_c5 60 rfl rfl
set_option maxRecDepth 20000 in
theorem mz_X9_keep : Cond.selects RX9 yX9_keep yX9_keep ∈ TBL := tb_c5 61 rfl rfl
set_option maxRecDepth 20000 in
theorem me_X9_kin : MEW yX9_kin cX9_kin 4 (some .int) 3 := ⟨tb_c3 16 rfl rfl, tb_c1 1 rfl rfl, by decide +kernel⟩
set_option maxRecDepth 20000 in
theorem mi_X9_kin : Cond.instanceMethod yX9_kin ∈ TBL := tb_c3 14 rfl rfl
set_option maxRecDepth 20000 in
theorem mz_X9_kin : Cond.selects RX9 yX9_kin yX9_kin ∈ TBL := tb_c3 15 rfl rfl
set_option maxRecDepth 20000 in
theorem me_X9_law : MEW yX9_law cX9_law 2 (some .int) 1 := ⟨tb_c3 48 rfl rfl, tb_c1 1 rfl rfl, by decide +kernel⟩
set_option maxRecDepth 20000 in
theorem mi_X9_law : Cond.instanceMethod yX9_law ∈ TBL := tb_c3 46 rfl rfl
set_option maxRecDepth 20000 in
theorem mz_X9_law : Cond.selects RX9 yX9_law yX9_law ∈ TBL := tb_c3 47 rfl rfl
set_option maxRecDepth 20000 in
theorem me_X9_loss : MEW yX9_loss cX9_loss 4 (some .int) 2 := ⟨tb_c3 83 rfl rfl, tb_c1 1 rfl rfl, by decide +kernel⟩
set_option maxRecDepth 20000 in
theorem mi_X9_loss : Cond.instanceMethod yX9_loss ∈ TBL := tb_c3 81 rfl rfl
set_option maxRecDepth 20000 in
theorem mz_X9_loss : Cond.selects RX9 yX9_loss yX9_loss ∈ TBL := tb_c3 82 rfl rfl
set_option maxRecDepth 20000 in
theorem me_X9_lot : MEW yX9_lot cX9_lot 4 (some .long) 3 := ⟨tb_c4 42 rfl rfl, tb_c1 1 rfl rfl, by decide +kernel⟩
set_option maxRecDepth 20000 in
theorem mi_X9_lot : Cond.instanceMethod yX9_lot ∈ TBL := tb_c4 40 rfl rfl
set_option maxRecDepth 20000 in
theorem mz_X9_lot : Cond.selects RX9 yX9_lot yX9_lot ∈ TBL := tb_c4 41 rfl rfl
set_option maxRecDepth 20000 in
theorem me_X9_many : MEW yX9_many cX9_many 2 (some .int) 1 := ⟨tb_c5 57 rfl rfl, tb_c1 1 rfl rfl, by decide +kernel⟩
set_option maxRecDepth 20000 in
theorem mi_X9_many : Cond.instanceMethod yX9_many ∈ TBL := tb_c5 55 rfl rfl
set_option maxRecDepth 20000 in
theorem mz_X9_many : Cond.selects RX9 yX9_many yX9_many ∈ TBL := tb_c5 56 rfl rfl
set_option maxRecDepth 20000 in
theorem me_X9_mended : MEW yX9_mended cX9_mended 3 (some .int) 2 := ⟨tb_c3 223 rfl rfl, tb_c1 1 rfl rfl, by decide +kernel⟩
set_option maxRecDepth 20000 in
theorem mi_X9_mended : Cond.instanceMethod yX9_mended ∈ TBL := tb_c3 221 rfl rfl
set_option maxRecDepth 20000 in
theorem mz_X9_mended : Cond.selects RX9 yX9_mended yX9_mended ∈ TBL := tb_c3 222 rfl rfl
set_option maxRecDepth 20000 in
theorem me_X9_needed : MEW yX9_needed cX9_needed 1 (some .int) 0 := ⟨tb_c3 188 rfl rfl, tb_c1 1 rfl rfl, by decide +kernel⟩
set_option maxRecDepth 20000 in
theorem mi_X9_needed : Cond.instanceMethod yX9_needed ∈ TBL := tb_c3 186 rfl rfl
set_option maxRecDepth 20000 in
theorem mz_X9_needed : Cond.selects RX9 yX9_needed yX9_needed ∈ TBL := tb_c3 187 rfl rfl
set_option maxRecDepth 20000 in
theorem me_X9_pays : MEW yX9_pays cX9_pays 1 (some .int) 0 := ⟨tb_c3 140 rfl rfl, tb_c1 1 rfl rfl, by decide +kernel⟩
set_option maxRecDepth 20000 in
theorem mi_X9_pays : Cond.instanceMethod yX9_pays ∈ TBL := tb_c3 138 rfl rfl
set_option maxRecDepth 20000 in
theorem mz_X9_pays : Cond.selects RX9 yX9_pays yX9_pays ∈ TBL := tb_c3 139 rfl rfl
set_option maxRecDepth 20000 in
theorem me_X9_person : MEW yX9_person cX9_person 1 (some .int) 0 := ⟨tb_c3 11 rfl rfl, tb_c1 1 rfl rfl, by decide +kernel⟩
set_option maxRecDepth 20000 in
theorem mi_X9_person : Cond.instanceMethod yX9_person ∈ TBL := tb_c3 9 rfl rfl
set_option maxRecDepth 20000 in
theorem mz_X9_person : Cond.selects RX9 yX9_person yX9_person ∈ TBL := tb_c3 10 rfl rfl
set_option maxRecDepth 20000 in
theorem me_X9_plan : MEW yX9_plan cX9_plan 3 (some .int) 2 := ⟨tb_c4 88 rfl rfl, tb_c1 1 rfl rfl, by decide +kernel⟩
set_option maxRecDepth 20000 in
theorem mi_X9_plan : Cond.instanceMethod yX9_plan ∈ TBL := tb_c4 86 rfl rfl
set_option maxRecDepth 20000 in
theorem mz_X9_plan : Cond.selects RX9 yX9_plan yX9_plan ∈ TBL := tb_c4 87 rfl rfl
set_option maxRecDepth 20000 in
theorem me_X9_planOf : MEW yX9_planOf cX9_planOf 3 (some .int) 2 := ⟨tb_c4 96 rfl rfl, tb_c1 1 rfl rfl, by decide +kernel⟩
set_option maxRecDepth 20000 in
theorem mi_X9_planOf : Cond.instanceMethod yX9_planOf ∈ TBL := tb_c4 94 rfl rfl
set_option maxRecDepth 20000 in
theorem mz_X9_planOf : Cond.selects RX9 yX9_planOf yX9_planOf ∈ TBL := tb_c4 95 rfl rfl
set_option maxRecDepth 20000 in
theorem me_X9_planOn : MEW yX9_planOn cX9_planOn 2 (some .int) 1 := ⟨tb_c5 7 rfl rfl, tb_c1 1 rfl rfl, by decide +kernel⟩
set_option maxRecDepth 20000 in
theorem mi_X9_planOn : Cond.instanceMethod yX9_planOn ∈ TBL := tb_c5 6 rfl rfl
set_option maxRecDepth 20000 in
theorem mz_X9_planOn : Cond.selects RX9 yX9_planOn yX9_planOn ∈ TBL := tb_of 32 rfl rfl
set_option maxRecDepth 20000 in
theorem me_X9_post : MEW yX9_post cX9_post 5 (some .int) 3 := ⟨tb_c3 52 rfl rfl, tb_c1 1 rfl rfl, by decide +kernel⟩
set_option maxRecDepth 20000 in
theorem mi_X9_post : Cond.instanceMethod yX9_post ∈ TBL := tb_c3 50 rfl rfl
set_option maxRecDepth 20000 in
theorem mz_X9_post : Cond.selects RX9 yX9_post yX9_post ∈ TBL := tb_c3 51 rfl rfl
set_option maxRecDepth 20000 in
theorem me_X9_postOf : MEW yX9_postOf cX9_postOf 4 (some .int) 2 := ⟨tb_c3 67 rfl rfl, tb_c1 1 rfl rfl, by decide +kernel⟩
set_option maxRecDepth 20000 in
theorem mi_X9_postOf : Cond.instanceMethod yX9_postOf ∈ TBL := tb_c3 65 rfl rfl
set_option maxRecDepth 20000 in
theorem mz_X9_postOf : Cond.selects RX9 yX9_postOf yX9_postOf ∈ TBL := tb_c3 66 rfl rfl
set_option maxRecDepth 20000 in
theorem me_X9_prove : MEW yX9_prove cX9_prove 1 (some .int) 0 := ⟨tb_c4 161 rfl rfl, tb_c1 1 rfl rfl, by decide +kernel⟩
set_option maxRecDepth 20000 in
theorem mi_X9_prove : Cond.instanceMethod yX9_prove ∈ TBL := tb_c4 159 rfl rfl
set_option maxRecDepth 20000 in
theorem mz_X9_prove : Cond.selects RX9 yX9_prove yX9_prove ∈ TBL := tb_c4 160 rfl rfl
set_option maxRecDepth 20000 in
theorem me_X9_put : MEW yX9_put cX9_put 4 (some .int) 3 := ⟨tb_c4 207 rfl rfl, tb_c1 1 rfl rfl, by decide +kernel⟩
set_option maxRecDepth 20000 in
theorem mi_X9_put : Cond.instanceMethod yX9_put ∈ TBL := tb_c4 205 rfl rfl
set_option maxRecDepth 20000 in
theorem mz_X9_put : Cond.selects RX9 yX9_put yX9_put ∈ TBL := tb_c4 206 rfl rfl
set_option maxRecDepth 20000 in
theorem me_X9_row : MEW yX9_row cX9_row 3 (some .int) 2 := ⟨tb_c4 176 rfl rfl, tb_c1 1 rfl rfl, by decide +kernel⟩
set_option maxRecDepth 20000 in
theorem mi_X9_row : Cond.instanceMethod yX9_row ∈ TBL := tb_c4 174 rfl rfl
set_option maxRecDepth 20000 in
theorem mz_X9_row : Cond.selects RX9 yX9_row yX9_row ∈ TBL := tb_c4 175 rfl rfl
set_option maxRecDepth 20000 in
theorem me_X9_sat : MEW yX9_sat cX9_sat 3 (some .int) 2 := ⟨tb_c4 70 rfl rfl, tb_c1 1 rfl rfl, by decide +kernel⟩
set_option maxRecDepth 20000 in
theorem mi_X9_sat : Cond.instanceMethod yX9_sat ∈ TBL := tb_c4 68 rfl rfl
set_option maxRecDepth 20000 in
theorem mz_X9_sat : Cond.selects RX9 yX9_sat yX9_sat ∈ TBL := tb_c4 69 rfl rfl
set_option maxRecDepth 20000 in
theorem me_X9_seed : MEW yX9_seed cX9_seed 3 (some .int) 1 := ⟨tb_c4 157 rfl rfl, tb_c1 1 rfl rfl, by decide +kernel⟩
set_option maxRecDepth 20000 in
theorem mi_X9_seed : Cond.instanceMethod yX9_seed ∈ TBL := tb_c4 155 rfl rfl
set_option maxRecDepth 20000 in
theorem mz_X9_seed : Cond.selects RX9 yX9_seed yX9_seed ∈ TBL := tb_c4 156 rfl rfl
set_option maxRecDepth 20000 in
theorem me_X9_seen : MEW yX9_seen cX9_seen 2 (some .int) 1 := ⟨tb_c3 108 rfl rfl, tb_c1 1 rfl rfl, by decide +kernel⟩
set_option maxRecDepth 20000 in
theorem mi_X9_seen : Cond.instanceMethod yX9_seen ∈ TBL := tb_c3 106 rfl rfl
set_option maxRecDepth 20000 in
theorem mz_X9_seen : Cond.selects RX9 yX9_seen yX9_seen ∈ TBL := tb_c3 107 rfl rfl
set_option maxRecDepth 20000 in
theorem me_X9_set : MEW yX9_set cX9_set 4 (some .int) 2 := ⟨tb_c3 43 rfl rfl, tb_c1 1 rfl rfl, by decide +kernel⟩
set_option maxRecDepth 20000 in
theorem mi_X9_set : Cond.instanceMethod yX9_set ∈ TBL := tb_c3 41 rfl rfl
set_option maxRecDepth 20000 in
theorem mz_X9_set : Cond.selects RX9 yX9_set yX9_set ∈ TBL := tb_c3 42 rfl rfl
set_option maxRecDepth 20000 in
theorem me_X9_sheet : MEW yX9_sheet cX9_sheet 4 (some .int) 3 := ⟨tb_c4 196 rfl rfl, tb_c1 1 rfl rfl, by decide +kernel⟩
set_option maxRecDepth 20000 in
theorem mi_X9_sheet : Cond.instanceMethod yX9_sheet ∈ TBL := tb_c4 194 rfl rfl
set_option maxRecDepth 20000 in
theorem mz_X9_sheet : Cond.selects RX9 yX9_sheet yX9_sheet ∈ TBL := tb_c4 195 rfl rfl
set_option maxRecDepth 20000 in
theorem me_X9_shelf : MEW yX9_shelf cX9_shelf 4 (some .int) 3 := ⟨tb_c4 223 rfl rfl, tb_c1 1 rfl rfl, by decide +kernel⟩
set_option maxRecDepth 20000 in
theorem mi_X9_shelf : Cond.instanceMethod yX9_shelf ∈ TBL := tb_c4 221 rfl rfl
set_option maxRecDepth 20000 in
theorem mz_X9_shelf : Cond.selects RX9 yX9_shelf yX9_shelf ∈ TBL := tb_c4 222 rfl rfl
set_option maxRecDepth 20000 in
theorem me_X9_surprise : MEW yX9_surprise cX9_surprise 3 (some .int) 2 := ⟨tb_c3 71 rfl rfl, tb_c1 1 rfl rfl, by decide +kernel⟩
set_option maxRecDepth 20000 in
theorem mi_X9_surprise : Cond.instanceMethod yX9_surprise ∈ TBL := tb_c3 69 rfl rfl
set_option maxRecDepth 20000 in
theorem mz_X9_surprise : Cond.selects RX9 yX9_surprise yX9_surprise ∈ TBL := tb_c3 70 rfl rfl
set_option maxRecDepth 20000 in
theorem me_X9_suspects : MEW yX9_suspects cX9_suspects 3 (some .int) 1 := ⟨tb_c4 75 rfl rfl, tb_c1 1 rfl rfl, by decide +kernel⟩
set_option maxRecDepth 20000 in
theorem mi_X9_suspects : Cond.instanceMethod yX9_suspects ∈ TBL := tb_c4 73 rfl rfl
set_option maxRecDepth 20000 in
theorem mz_X9_suspects : Cond.selects RX9 yX9_suspects yX9_suspects ∈ TBL := tb_c4 74 rfl rfl
set_option maxRecDepth 20000 in
theorem me_X9_taken : MEW yX9_taken cX9_taken 6 (some .int) 2 := ⟨tb_c4 239 rfl rfl, tb_c1 1 rfl rfl, by decide +kernel⟩
set_option maxRecDepth 20000 in
theorem mi_X9_taken : Cond.instanceMethod yX9_taken ∈ TBL := tb_c4 237 rfl rfl
set_option maxRecDepth 20000 in
theorem mz_X9_taken : Cond.selects RX9 yX9_taken yX9_taken ∈ TBL := tb_c4 238 rfl rfl
set_option maxRecDepth 20000 in
theorem me_X9_trace : MEW yX9_trace cX9_trace 2 (some .int) 1 := ⟨tb_c5 48 rfl rfl, tb_c1 1 rfl rfl, by decide +kernel⟩
set_option maxRecDepth 20000 in
theorem mi_X9_trace : Cond.instanceMethod yX9_trace ∈ TBL := tb_c5 46 rfl rfl
set_option maxRecDepth 20000 in
theorem mz_X9_trace : Cond.selects RX9 yX9_trace yX9_trace ∈ TBL := tb_c5 47 rfl rfl
set_option maxRecDepth 20000 in
theorem me_X9_trust : MEW yX9_trust cX9_trust 6 (some .int) 3 := ⟨tb_c3 29 rfl rfl, tb_c1 1 rfl rfl, by decide +kernel⟩
set_option maxRecDepth 20000 in
theorem mi_X9_trust : Cond.instanceMethod yX9_trust ∈ TBL := tb_c3 27 rfl rfl
set_option maxRecDepth 20000 in
theorem mz_X9_trust : Cond.selects RX9 yX9_trust yX9_trust ∈ TBL := tb_c3 28 rfl rfl
set_option maxRecDepth 20000 in
theorem me_X9_trustOn : MEW yX9_trustOn cX9_trustOn 4 (some .int) 3 := ⟨tb_c3 87 rfl rfl, tb_c1 1 rfl rfl, by decide +kernel⟩
set_option maxRecDepth 20000 in
theorem mi_X9_trustOn : Cond.instanceMethod yX9_trustOn ∈ TBL := tb_c3 85 rfl rfl
set_option maxRecDepth 20000 in
theorem mz_X9_trustOn : Cond.selects RX9 yX9_trustOn yX9_trustOn ∈ TBL := tb_c3 86 rfl rfl
set_option maxRecDepth 20000 in
theorem me_X9_worth : MEW yX9_worth cX9_worth 2 (some .int) 1 := ⟨tb_c3 123 rfl rfl, tb_c1 1 rfl rfl, by decide +kernel⟩
set_option maxRecDepth 20000 in
theorem mi_X9_worth : Cond.instanceMethod yX9_worth ∈ TBL := tb_c3 121 rfl rfl
set_option maxRecDepth 20000 in
theorem mz_X9_worth : Cond.selects RX9 yX9_worth yX9_worth ∈ TBL := tb_c3 122 rfl rfl
set_option maxRecDepth 20000 in
theorem cw_J0_1059 : CWS RJ0 1059 yJ3_checkIndex_8e157 cJ3_checkIndex_8e157 3 (some .int) 3 := ⟨me_J3_checkIndex_8e157, tb_c2 152 rfl rfl, ms_J3_checkIndex_8e157⟩
set_option maxRecDepth 20000 in
theorem cw_J0_335 : CWV RJ0 335 RJ0 yJ0_coder_7d493 cJ0_coder_7d493 1 (some .byte) 0 := ⟨me_J0_coder_7d493, tb_c2 130 rfl rfl, mi_J0_coder_7d493, mz_J0_coder_7d493⟩
set_option maxRecDepth 20000 in
theorem cw_J0_492 : CWV RJ0 492 RJ0 yJ0_isLatin1_aae02 cJ0_isLatin1_aae02 1 (some .boolean) 0 := ⟨me_J0_isLatin1_aae02, tb_c2 140 rfl rfl, mi_J0_isLatin1_aae02, mz_J0_isLatin1_aae02⟩
set_option maxRecDepth 20000 in
theorem cw_J0_495 : CWS RJ0 495 yJ1_charAt_3b067 cJ1_charAt_3b067 2 (some .char) 2 := ⟨me_J1_charAt_3b067, tb_c2 144 rfl rfl, ms_J1_charAt_3b067⟩
set_option maxRecDepth 20000 in
theorem cw_J1_9 : CWS RJ1 9 yJ0_checkIndex_df160 cJ0_checkIndex_df160 2 none 2 := ⟨me_J0_checkIndex_df160, tb_c2 147 rfl rfl, ms_J0_checkIndex_df160⟩
set_option maxRecDepth 20000 in
theorem cw_X0_35 : CWS RX0 35 yX0_bodyOf cX0_bodyOf 4 (some .int) 2 := ⟨me_X0_bodyOf, tb_c5 29 rfl rfl, ms_X0_bodyOf⟩
set_option maxRecDepth 20000 in
theorem cw_X0_39 : CWS RX0 39 yX0_run cX0_run 5 (some .int) 4 := ⟨me_X0_run, tb_c5 34 rfl rfl, ms_X0_run⟩
set_option maxRecDepth 20000 in
theorem cw_X0_46 : CWV RX0 46 RX0 yX0_note cX0_note 2 none 1 := ⟨me_X0_note, tb_c5 37 rfl rfl, mi_X0_note, mz_X0_note⟩
set_option maxRecDepth 20000 in
theorem cw_X0_50 : CWV RX0 50 RX0 yX0_share cX0_share 3 (some .int) 1 := ⟨me_X0_share, tb_c5 41 rfl rfl, mi_X0_share, mz_X0_share⟩
set_option maxRecDepth 20000 in
theorem cw_X10_105 : CWS RX10 105 yX10_in cX10_in 3 (some .boolean) 3 := ⟨me_X10_in, tb_c5 238 rfl rfl, ms_X10_in⟩
set_option maxRecDepth 20000 in
theorem cw_X10_109 : CWV RX10 109 RX10 yX10_isPerson cX10_isPerson 2 (some .boolean) 1 := ⟨me_X10_isPerson, tb_c6 85 rfl rfl, mi_X10_isPerson, mz_X10_isPerson⟩
set_option maxRecDepth 20000 in
theorem cw_X10_124 : CWV RX10 124 RX10 yX10_byteAt cX10_byteAt 2 (some .int) 1 := ⟨me_X10_byteAt, tb_c6 10 rfl rfl, mi_X10_byteAt, mz_X10_byteAt⟩
set_option maxRecDepth 20000 in
theorem cw_X10_128 : CWS RX10 128 yX10_isLetter cX10_isLetter 1 (some .boolean) 1 := ⟨me_X10_isLetter, tb_c6 14 rfl rfl, ms_X10_isLetter⟩
set_option maxRecDepth 20000 in
theorem cw_X10_131 : CWS RX10 131 yX10_isDigit cX10_isDigit 1 (some .boolean) 1 := ⟨me_X10_isDigit, tb_c6 17 rfl rfl, ms_X10_isDigit⟩
set_option maxRecDepth 20000 in
theorem cw_X10_152 : CWV RX10 152 RX10 yX10_isWord cX10_isWord 3 (some .boolean) 1 := ⟨me_X10_isWord, tb_c6 28 rfl rfl, mi_X10_isWord, mz_X10_isWord⟩
set_option maxRecDepth 20000 in
theorem cw_X10_174 : CWV RX10 174 RX10 yX10_advance cX10_advance 2 none 0 := ⟨me_X10_advance, tb_c6 6 rfl rfl, mi_X10_advance, mz_X10_advance⟩
set_option maxRecDepth 20000 in
theorem cw_X10_177 : CWV RX10 177 RX10 yX10_isMark cX10_isMark 2 (some .boolean) 1 := ⟨me_X10_isMark, tb_c6 36 rfl rfl, mi_X10_isMark, mz_X10_isMark⟩
set_option maxRecDepth 20000 in
theorem cw_X10_183 : CWV RX10 183 RX10 yX10_wantNumber cX10_wantNumber 4 (some .int) 2 := ⟨me_X10_wantNumber, tb_c6 46 rfl rfl, mi_X10_wantNumber, mz_X10_wantNumber⟩
set_option maxRecDepth 20000 in
theorem cw_X10_187 : CWV RX10 187 RX10 yX10_wantEnd cX10_wantEnd 1 none 0 := ⟨me_X10_wantEnd, tb_c6 32 rfl rfl, mi_X10_wantEnd, mz_X10_wantEnd⟩
set_option maxRecDepth 20000 in
theorem cw_X10_192 : CWV RX10 192 RX10 yX10_wantWord cX10_wantWord 3 none 1 := ⟨me_X10_wantWord, tb_c6 56 rfl rfl, mi_X10_wantWord, mz_X10_wantWord⟩
set_option maxRecDepth 20000 in
theorem cw_X10_204 : CWV RX10 204 RX10 yX10_wantTwo cX10_wantTwo 5 none 1 := ⟨me_X10_wantTwo, tb_c6 42 rfl rfl, mi_X10_wantTwo, mz_X10_wantTwo⟩
set_option maxRecDepth 20000 in
theorem cw_X10_210 : CWV RX10 210 RX10 yX10_wantAway cX10_wantAway 5 none 0 := ⟨me_X10_wantAway, tb_c6 51 rfl rfl, mi_X10_wantAway, mz_X10_wantAway⟩
set_option maxRecDepth 20000 in
theorem cw_X10_213 : CWV RX10 213 RX10 yX10_lawHere cX10_lawHere 1 (some .int) 0 := ⟨me_X10_lawHere, tb_c6 61 rfl rfl, mi_X10_lawHere, mz_X10_lawHere⟩
set_option maxRecDepth 20000 in
theorem cw_X10_217 : CWV RX10 217 RX10 yX10_wantClause cX10_wantClause 3 none 0 := ⟨me_X10_wantClause, tb_c6 23 rfl rfl, mi_X10_wantClause, mz_X10_wantClause⟩
set_option maxRecDepth 20000 in
theorem cw_X10_226 : CWV RX10 226 RX10 yX10_areTwo cX10_areTwo 3 (some .boolean) 2 := ⟨me_X10_areTwo, tb_c6 81 rfl rfl, mi_X10_areTwo, mz_X10_areTwo⟩
set_option maxRecDepth 20000 in
theorem cw_X10_230 : CWV RX10 230 RX10 yX10_areKin cX10_areKin 3 (some .boolean) 2 := ⟨me_X10_areKin, tb_c6 89 rfl rfl, mi_X10_areKin, mz_X10_areKin⟩
set_option maxRecDepth 20000 in
theorem cw_X10_233 : CWS RX10 233 yX10_isDay cX10_isDay 1 (some .boolean) 1 := ⟨me_X10_isDay, tb_c6 101 rfl rfl, ms_X10_isDay⟩
set_option maxRecDepth 20000 in
theorem cw_X10_236 : CWV RX10 236 RX10 yX10_isAway cX10_isAway 3 (some .boolean) 2 := ⟨me_X10_isAway, tb_c6 104 rfl rfl, mi_X10_isAway, mz_X10_isAway⟩
set_option maxRecDepth 20000 in
theorem cw_X10_239 : CWS RX10 239 yX10_isLaw cX10_isLaw 1 (some .boolean) 1 := ⟨me_X10_isLaw, tb_c6 112 rfl rfl, ms_X10_isLaw⟩
set_option maxRecDepth 20000 in
theorem cw_X10_242 : CWS RX10 242 yX10_isPost cX10_isPost 1 (some .boolean) 1 := ⟨me_X10_isPost, tb_c6 123 rfl rfl, ms_X10_isPost⟩
set_option maxRecDepth 20000 in
theorem cw_X10_245 : CWS RX10 245 yX10_orNobody cX10_orNobody 1 (some .int) 1 := ⟨me_X10_orNobody, tb_c6 126 rfl rfl, ms_X10_orNobody⟩
set_option maxRecDepth 20000 in
theorem cw_X10_248 : CWV RX10 248 RX10 yX10_twoOn cX10_twoOn 4 (some .int) 1 := ⟨me_X10_twoOn, tb_c6 149 rfl rfl, mi_X10_twoOn, mz_X10_twoOn⟩
set_option maxRecDepth 20000 in
theorem cw_X10_251 : CWS RX10 251 yX10_pair cX10_pair 2 (some .int) 2 := ⟨me_X10_pair, tb_c6 153 rfl rfl, ms_X10_pair⟩
set_option maxRecDepth 20000 in
theorem cw_X10_254 : CWV RX10 254 RX10 yX10_trustOf cX10_trustOf 6 (some .int) 3 := ⟨me_X10_trustOf, tb_c6 145 rfl rfl, mi_X10_trustOf, mz_X10_trustOf⟩
set_option maxRecDepth 20000 in
theorem cw_X10_258 : CWV RX10 258 RX10 yX10_isNeither cX10_isNeither 5 (some .boolean) 3 := ⟨me_X10_isNeither, tb_c6 168 rfl rfl, mi_X10_isNeither, mz_X10_isNeither⟩
set_option maxRecDepth 20000 in
theorem cw_X10_261 : CWV RX10 261 RX10 yX10_isSurprise cX10_isSurprise 2 (some .boolean) 1 := ⟨me_X10_isSurprise, tb_c6 160 rfl rfl, mi_X10_isSurprise, mz_X10_isSurprise⟩
set_option maxRecDepth 20000 in
theorem cw_X10_264 : CWV RX10 264 RX10 yX10_seenBy cX10_seenBy 5 (some .int) 2 := ⟨me_X10_seenBy, tb_c6 164 rfl rfl, mi_X10_seenBy, mz_X10_seenBy⟩
set_option maxRecDepth 20000 in
theorem cw_X10_268 : CWV RX10 268 RX10 yX10_worthBy cX10_worthBy 4 (some .int) 2 := ⟨me_X10_worthBy, tb_c6 176 rfl rfl, mi_X10_worthBy, mz_X10_worthBy⟩
set_option maxRecDepth 20000 in
theorem cw_X10_271 : CWV RX10 271 RX10 yX10_paysBy cX10_paysBy 5 (some .boolean) 3 := ⟨me_X10_paysBy, tb_c6 184 rfl rfl, mi_X10_paysBy, mz_X10_paysBy⟩
set_option maxRecDepth 20000 in
theorem cw_X10_281 : CWS RX10 281 yX10_isSide cX10_isSide 1 (some .boolean) 1 := ⟨me_X10_isSide, tb_c6 192 rfl rfl, ms_X10_isSide⟩
set_option maxRecDepth 20000 in
theorem cw_X10_286 : CWV RX10 286 RX10 yX10_lowest cX10_lowest 11 none 2 := ⟨me_X10_lowest, tb_c6 196 rfl rfl, mi_X10_lowest, mz_X10_lowest⟩
set_option maxRecDepth 20000 in
theorem cw_X10_290 : CWV RX10 290 RX10 yX10_brokenOn cX10_brokenOn 6 (some .int) 1 := ⟨me_X10_brokenOn, tb_c6 212 rfl rfl, mi_X10_brokenOn, mz_X10_brokenOn⟩
set_option maxRecDepth 20000 in
theorem cw_X10_293 : CWV RX10 293 RX10 yX10_keepsPosts cX10_keepsPosts 4 none 2 := ⟨me_X10_keepsPosts, tb_c6 220 rfl rfl, mi_X10_keepsPosts, mz_X10_keepsPosts⟩
set_option maxRecDepth 20000 in
theorem cw_X10_297 : CWV RX10 297 RX10 yX10_comes cX10_comes 6 (some .boolean) 2 := ⟨me_X10_comes, tb_c6 224 rfl rfl, mi_X10_comes, mz_X10_comes⟩
set_option maxRecDepth 20000 in
theorem cw_X10_300 : CWV RX10 300 RX10 yX10_givesPosts cX10_givesPosts 4 none 2 := ⟨me_X10_givesPosts, tb_c6 228 rfl rfl, mi_X10_givesPosts, mz_X10_givesPosts⟩
set_option maxRecDepth 20000 in
theorem cw_X10_303 : CWV RX10 303 RX10 yX10_sits cX10_sits 5 (some .boolean) 2 := ⟨me_X10_sits, tb_c6 236 rfl rfl, mi_X10_sits, mz_X10_sits⟩
set_option maxRecDepth 20000 in
theorem cw_X10_306 : CWV RX10 306 RX10 yX10_satOn cX10_satOn 5 (some .int) 2 := ⟨me_X10_satOn, tb_c7 4 rfl rfl, mi_X10_satOn, mz_X10_satOn⟩
set_option maxRecDepth 20000 in
theorem cw_X10_309 : CWV RX10 309 RX10 yX10_sitting cX10_sitting 3 (some .int) 0 := ⟨me_X10_sitting, tb_c7 12 rfl rfl, mi_X10_sitting, mz_X10_sitting⟩
set_option maxRecDepth 20000 in
theorem cw_X10_312 : CWS RX10 312 yX10_ones cX10_ones 3 (some .int) 1 := ⟨me_X10_ones, tb_c7 16 rfl rfl, ms_X10_ones⟩
set_option maxRecDepth 20000 in
theorem cw_X10_318 : CWV RX10 318 RX10 yX10_isPlan cX10_isPlan 2 (some .boolean) 1 := ⟨me_X10_isPlan, tb_c7 31 rfl rfl, mi_X10_isPlan, mz_X10_isPlan⟩
set_option maxRecDepth 20000 in
theorem cw_X10_321 : CWV RX10 321 RX10 yX10_lastSat cX10_lastSat 6 (some .int) 3 := ⟨me_X10_lastSat, tb_c7 47 rfl rfl, mi_X10_lastSat, mz_X10_lastSat⟩
set_option maxRecDepth 20000 in
theorem cw_X10_324 : CWS RX10 324 yX10_leastOf cX10_leastOf 2 (some .int) 1 := ⟨me_X10_leastOf, tb_c7 51 rfl rfl, ms_X10_leastOf⟩
set_option maxRecDepth 20000 in
theorem cw_X10_328 : CWV RX10 328 RX10 yX10_fillsDraw cX10_fillsDraw 6 none 1 := ⟨me_X10_fillsDraw, tb_c7 54 rfl rfl, mi_X10_fillsDraw, mz_X10_fillsDraw⟩
set_option maxRecDepth 20000 in
theorem cw_X10_332 : CWV RX10 332 RX10 yX10_fillsTold cX10_fillsTold 4 (some .boolean) 1 := ⟨me_X10_fillsTold, tb_c7 39 rfl rfl, mi_X10_fillsTold, mz_X10_fillsTold⟩
set_option maxRecDepth 20000 in
theorem cw_X10_335 : CWV RX10 335 RX10 yX10_fillsTurn cX10_fillsTurn 11 none 2 := ⟨me_X10_fillsTurn, tb_c7 43 rfl rfl, mi_X10_fillsTurn, mz_X10_fillsTurn⟩
set_option maxRecDepth 20000 in
theorem cw_X10_338 : CWV RX10 338 RX10 yX10_fillsCount cX10_fillsCount 3 none 1 := ⟨me_X10_fillsCount, tb_c7 59 rfl rfl, mi_X10_fillsCount, mz_X10_fillsCount⟩
set_option maxRecDepth 20000 in
theorem cw_X10_341 : CWV RX10 341 RX10 yX10_findRows cX10_findRows 2 none 0 := ⟨me_X10_findRows, tb_c7 71 rfl rfl, mi_X10_findRows, mz_X10_findRows⟩
set_option maxRecDepth 20000 in
theorem cw_X10_344 : CWV RX10 344 RX10 yX10_isRow cX10_isRow 3 (some .boolean) 2 := ⟨me_X10_isRow, tb_c7 79 rfl rfl, mi_X10_isRow, mz_X10_isRow⟩
set_option maxRecDepth 20000 in
theorem cw_X10_347 : CWS RX10 347 yX10_isShelf cX10_isShelf 1 (some .boolean) 1 := ⟨me_X10_isShelf, tb_c7 95 rfl rfl, ms_X10_isShelf⟩
set_option maxRecDepth 20000 in
theorem cw_X10_350 : CWV RX10 350 RX10 yX10_lacksSort cX10_lacksSort 3 (some .int) 2 := ⟨me_X10_lacksSort, tb_c7 98 rfl rfl, mi_X10_lacksSort, mz_X10_lacksSort⟩
set_option maxRecDepth 20000 in
theorem cw_X10_353 : CWV RX10 353 RX10 yX10_isHeld cX10_isHeld 3 (some .boolean) 2 := ⟨me_X10_isHeld, tb_c7 118 rfl rfl, mi_X10_isHeld, mz_X10_isHeld⟩
set_option maxRecDepth 20000 in
theorem cw_X10_356 : CWV RX10 356 RX10 yX10_kindOn cX10_kindOn 2 (some .int) 1 := ⟨me_X10_kindOn, tb_c7 126 rfl rfl, mi_X10_kindOn, mz_X10_kindOn⟩
set_option maxRecDepth 20000 in
theorem cw_X10_359 : CWS RX10 359 yX10_isUnder cX10_isUnder 2 (some .boolean) 2 := ⟨me_X10_isUnder, tb_c7 130 rfl rfl, ms_X10_isUnder⟩
set_option maxRecDepth 20000 in
theorem cw_X10_365 : CWV RX10 365 RX10 yX10_ran cX10_ran 2 none 1 := ⟨me_X10_ran, tb_c7 141 rfl rfl, mi_X10_ran, mz_X10_ran⟩
set_option maxRecDepth 20000 in
theorem cw_X10_374 : CWV RX10 374 RX10 yX10_plainSits cX10_plainSits 2 (some .int) 1 := ⟨me_X10_plainSits, tb_c7 145 rfl rfl, mi_X10_plainSits, mz_X10_plainSits⟩
set_option maxRecDepth 20000 in
theorem cw_X10_377 : CWV RX10 377 RX10 yX10_sitsIt cX10_sitsIt 2 (some .int) 1 := ⟨me_X10_sitsIt, tb_c7 137 rfl rfl, mi_X10_sitsIt, mz_X10_sitsIt⟩
set_option maxRecDepth 20000 in
theorem cw_X10_380 : CWV RX10 380 RX10 yX10_plainCounts cX10_plainCounts 2 (some .int) 1 := ⟨me_X10_plainCounts, tb_c7 153 rfl rfl, mi_X10_plainCounts, mz_X10_plainCounts⟩
set_option maxRecDepth 20000 in
theorem cw_X10_386 : CWV RX10 386 RX10 yX10_turnCounts cX10_turnCounts 2 (some .int) 1 := ⟨me_X10_turnCounts, tb_c7 157 rfl rfl, mi_X10_turnCounts, mz_X10_turnCounts⟩
set_option maxRecDepth 20000 in
theorem cw_X10_392 : CWV RX10 392 RX10 yX10_plainShares cX10_plainShares 2 (some .int) 1 := ⟨me_X10_plainShares, tb_c7 165 rfl rfl, mi_X10_plainShares, mz_X10_plainShares⟩
set_option maxRecDepth 20000 in
theorem cw_X10_395 : CWV RX10 395 RX10 yX10_countsIt cX10_countsIt 3 (some .int) 1 := ⟨me_X10_countsIt, tb_c7 149 rfl rfl, mi_X10_countsIt, mz_X10_countsIt⟩
set_option maxRecDepth 20000 in
theorem cw_X10_398 : CWV RX10 398 RX10 yX10_plainTells cX10_plainTells 2 (some .int) 1 := ⟨me_X10_plainTells, tb_c7 173 rfl rfl, mi_X10_plainTells, mz_X10_plainTells⟩
set_option maxRecDepth 20000 in
theorem cw_X10_401 : CWV RX10 401 RX10 yX10_sharesIt cX10_sharesIt 3 (some .int) 1 := ⟨me_X10_sharesIt, tb_c7 161 rfl rfl, mi_X10_sharesIt, mz_X10_sharesIt⟩
set_option maxRecDepth 20000 in
theorem cw_X10_404 : CWV RX10 404 RX10 yX10_tellsIt cX10_tellsIt 3 (some .int) 1 := ⟨me_X10_tellsIt, tb_c7 169 rfl rfl, mi_X10_tellsIt, mz_X10_tellsIt⟩
set_option maxRecDepth 20000 in
theorem cw_X10_410 : CWV RX10 410 RX10 yX10_move cX10_move 5 none 3 := ⟨me_X10_move, tb_c7 193 rfl rfl, mi_X10_move, mz_X10_move⟩
set_option maxRecDepth 20000 in
theorem cw_X10_414 : CWV RX10 414 RX10 yX10_moveAll cX10_moveAll 2 none 1 := ⟨me_X10_moveAll, tb_c7 189 rfl rfl, mi_X10_moveAll, mz_X10_moveAll⟩
set_option maxRecDepth 20000 in
theorem cw_X1_30 : CWS RX1 30 yJ7_fill_53178 cJ7_fill_53178 4 none 2 := ⟨me_J7_fill_53178, tb_c2 13 rfl rfl, ms_J7_fill_53178⟩
set_option maxRecDepth 20000 in
theorem cw_X2_46 : CWS RX2 46 yJ7_fill_53178 cJ7_fill_53178 4 none 2 := ⟨me_J7_fill_53178, tb_c1 39 rfl rfl, ms_J7_fill_53178⟩
set_option maxRecDepth 20000 in
theorem cw_X2_52 : CWV RX2 52 RX2 yX2_isPerson cX2_isPerson 2 (some .boolean) 1 := ⟨me_X2_isPerson, tb_c3 21 rfl rfl, mi_X2_isPerson, mz_X2_isPerson⟩
set_option maxRecDepth 20000 in
theorem cw_X2_56 : CWV RX2 56 RX2 yX2_areKin cX2_areKin 3 (some .boolean) 2 := ⟨me_X2_areKin, tb_c2 200 rfl rfl, mi_X2_areKin, mz_X2_areKin⟩
set_option maxRecDepth 20000 in
theorem cw_X2_60 : CWV RX2 60 RX2 yX2_isAway cX2_isAway 3 (some .boolean) 2 := ⟨me_X2_isAway, tb_c2 224 rfl rfl, mi_X2_isAway, mz_X2_isAway⟩
set_option maxRecDepth 20000 in
theorem cw_X2_63 : CWV RX2 63 RX2 yX2_hasSurprise cX2_hasSurprise 2 (some .boolean) 1 := ⟨me_X2_hasSurprise, tb_c3 76 rfl rfl, mi_X2_hasSurprise, mz_X2_hasSurprise⟩
set_option maxRecDepth 20000 in
theorem cw_X2_66 : CWS RX2 66 yX2_pairOf cX2_pairOf 2 (some .int) 2 := ⟨me_X2_pairOf, tb_c3 96 rfl rfl, ms_X2_pairOf⟩
set_option maxRecDepth 20000 in
theorem cw_X2_70 : CWV RX2 70 RX2 yX2_pairOn cX2_pairOn 4 (some .int) 1 := ⟨me_X2_pairOn, tb_c3 219 rfl rfl, mi_X2_pairOn, mz_X2_pairOn⟩
set_option maxRecDepth 20000 in
theorem cw_X2_74 : CWV RX2 74 RX2 yX2_lastDayOf cX2_lastDayOf 4 (some .int) 2 := ⟨me_X2_lastDayOf, tb_c3 215 rfl rfl, mi_X2_lastDayOf, mz_X2_lastDayOf⟩
set_option maxRecDepth 20000 in
theorem cw_X2_77 : CWV RX2 77 RX2 yX2_lossOf cX2_lossOf 4 (some .int) 1 := ⟨me_X2_lossOf, tb_c4 80 rfl rfl, mi_X2_lossOf, mz_X2_lossOf⟩
set_option maxRecDepth 20000 in
theorem cw_X3_21 : CWV RX3 21 RX2 yX2_pairOn cX2_pairOn 4 (some .int) 1 := ⟨me_X2_pairOn, tb_c3 92 rfl rfl, mi_X2_pairOn, mz_X2_pairOn⟩
set_option maxRecDepth 20000 in
theorem cw_X3_25 : CWV RX3 25 RX3 yX3_trustAfter cX3_trustAfter 3 (some .int) 2 := ⟨me_X3_trustAfter, tb_c3 97 rfl rfl, mi_X3_trustAfter, mz_X3_trustAfter⟩
set_option maxRecDepth 20000 in
theorem cw_X3_44 : CWV RX3 44 RX2 yX2_at cX2_at 3 (some .int) 2 := ⟨me_X2_at, tb_c3 114 rfl rfl, mi_X2_at, mz_X2_at⟩
set_option maxRecDepth 20000 in
theorem cw_X3_47 : CWV RX3 47 RX2 yX2_hasSurprise cX2_hasSurprise 2 (some .boolean) 1 := ⟨me_X2_hasSurprise, tb_c3 115 rfl rfl, mi_X2_hasSurprise, mz_X2_hasSurprise⟩
set_option maxRecDepth 20000 in
theorem cw_X3_51 : CWV RX3 51 RX3 yX3_seenOf cX3_seenOf 7 (some .int) 4 := ⟨me_X3_seenOf, tb_c3 116 rfl rfl, mi_X3_seenOf, mz_X3_seenOf⟩
set_option maxRecDepth 20000 in
theorem cw_X3_55 : CWV RX3 55 RX3 yX3_worthIf cX3_worthIf 5 (some .int) 2 := ⟨me_X3_worthIf, tb_c3 128 rfl rfl, mi_X3_worthIf, mz_X3_worthIf⟩
set_option maxRecDepth 20000 in
theorem cw_X3_58 : CWV RX3 58 RX3 yX3_trustOfPair cX3_trustOfPair 5 (some .int) 2 := ⟨me_X3_trustOfPair, tb_c3 132 rfl rfl, mi_X3_trustOfPair, mz_X3_trustOfPair⟩
set_option maxRecDepth 20000 in
theorem cw_X3_61 : CWV RX3 61 RX3 yX3_worthOf cX3_worthOf 3 (some .int) 2 := ⟨me_X3_worthOf, tb_c3 133 rfl rfl, mi_X3_worthOf, mz_X3_worthOf⟩
set_option maxRecDepth 20000 in
theorem cw_X3_64 : CWV RX3 64 RX3 yX3_payingDaysBy cX3_payingDaysBy 4 (some .int) 1 := ⟨me_X3_payingDaysBy, tb_c3 145 rfl rfl, mi_X3_payingDaysBy, mz_X3_payingDaysBy⟩
set_option maxRecDepth 20000 in
theorem cw_X3_67 : CWV RX3 67 RX3 yX3_worthOn cX3_worthOn 2 (some .int) 1 := ⟨me_X3_worthOn, tb_c3 149 rfl rfl, mi_X3_worthOn, mz_X3_worthOn⟩
set_option maxRecDepth 20000 in
theorem cw_X3_70 : CWV RX3 70 RX3 yX3_isPaying cX3_isPaying 3 (some .boolean) 2 := ⟨me_X3_isPaying, tb_c3 150 rfl rfl, mi_X3_isPaying, mz_X3_isPaying⟩
set_option maxRecDepth 20000 in
theorem cw_X3_74 : CWV RX3 74 RX3 yX3_somebodyIsAway cX3_somebodyIsAway 4 (some .boolean) 1 := ⟨me_X3_somebodyIsAway, tb_c3 201 rfl rfl, mi_X3_somebodyIsAway, mz_X3_somebodyIsAway⟩
set_option maxRecDepth 20000 in
theorem cw_X3_77 : CWV RX3 77 RX3 yX3_somebodyIsTwice cX3_somebodyIsTwice 5 (some .boolean) 1 := ⟨me_X3_somebodyIsTwice, tb_c3 206 rfl rfl, mi_X3_somebodyIsTwice, mz_X3_somebodyIsTwice⟩
set_option maxRecDepth 20000 in
theorem cw_X3_80 : CWV RX3 80 RX2 yX2_areKin cX2_areKin 3 (some .boolean) 2 := ⟨me_X2_areKin, tb_c3 210 rfl rfl, mi_X2_areKin, mz_X2_areKin⟩
set_option maxRecDepth 20000 in
theorem cw_X3_83 : CWV RX3 83 RX2 yX2_satInGap cX2_satInGap 4 (some .boolean) 2 := ⟨me_X2_satInGap, tb_c3 211 rfl rfl, mi_X2_satInGap, mz_X2_satInGap⟩
set_option maxRecDepth 20000 in
theorem cw_X3_86 : CWV RX3 86 RX2 yX2_isAway cX2_isAway 3 (some .boolean) 2 := ⟨me_X2_isAway, tb_c3 205 rfl rfl, mi_X2_isAway, mz_X2_isAway⟩
set_option maxRecDepth 20000 in
theorem cw_X4_26 : CWV RX4 26 RX2 yX2_pairOn cX2_pairOn 4 (some .int) 1 := ⟨me_X2_pairOn, tb_c3 166 rfl rfl, mi_X2_pairOn, mz_X2_pairOn⟩
set_option maxRecDepth 20000 in
theorem cw_X4_32 : CWV RX4 32 RX3 yX3_seenOn cX3_seenOn 2 (some .int) 1 := ⟨me_X3_seenOn, tb_c3 167 rfl rfl, mi_X3_seenOn, mz_X3_seenOn⟩
set_option maxRecDepth 20000 in
theorem cw_X4_41 : CWV RX4 41 RX3 yX3_trustOfPair cX3_trustOfPair 5 (some .int) 2 := ⟨me_X3_trustOfPair, tb_c3 168 rfl rfl, mi_X3_trustOfPair, mz_X3_trustOfPair⟩
set_option maxRecDepth 20000 in
theorem cw_X4_53 : CWV RX4 53 RX4 yX4_reduce cX4_reduce 8 none 0 := ⟨me_X4_reduce, tb_c3 173 rfl rfl, mi_X4_reduce, mz_X4_reduce⟩
set_option maxRecDepth 20000 in
theorem cw_X4_56 : CWV RX4 56 RX2 yX2_sittings cX2_sittings 3 (some .int) 0 := ⟨me_X2_sittings, tb_c4 47 rfl rfl, mi_X2_sittings, mz_X2_sittings⟩
set_option maxRecDepth 20000 in
theorem cw_X4_60 : CWV RX4 60 RX2 yX2_daysOf cX2_daysOf 4 (some .int) 1 := ⟨me_X2_daysOf, tb_c4 51 rfl rfl, mi_X2_daysOf, mz_X2_daysOf⟩
set_option maxRecDepth 20000 in
theorem cw_X4_63 : CWS RX4 63 yJ6_bitCount_0f7a4 cJ6_bitCount_0f7a4 1 (some .int) 1 := ⟨me_J6_bitCount_0f7a4, tb_c4 55 rfl rfl, ms_J6_bitCount_0f7a4⟩
set_option maxRecDepth 20000 in
theorem cw_X4_72 : CWS RX4 72 yX4_ways cX4_ways 5 (some .long) 2 := ⟨me_X4_ways, tb_c4 61 rfl rfl, ms_X4_ways⟩
set_option maxRecDepth 20000 in
theorem cw_X4_76 : CWS RX4 76 yX4_power cX4_power 6 (some .long) 2 := ⟨me_X4_power, tb_c4 64 rfl rfl, ms_X4_power⟩
set_option maxRecDepth 20000 in
theorem cw_X5_100 : CWV RX5 100 RX5 yX5_drawFrom cX5_drawFrom 5 (some .int) 1 := ⟨me_X5_drawFrom, tb_c4 141 rfl rfl, mi_X5_drawFrom, mz_X5_drawFrom⟩
set_option maxRecDepth 20000 in
theorem cw_X5_106 : CWV RX5 106 RX2 yX2_seat cX2_seat 4 none 3 := ⟨me_X2_seat, tb_c4 153 rfl rfl, mi_X2_seat, mz_X2_seat⟩
set_option maxRecDepth 20000 in
theorem cw_X5_36 : CWV RX5 36 RX5 yX5_seatTold cX5_seatTold 4 (some .boolean) 2 := ⟨me_X5_seatTold, tb_c4 109 rfl rfl, mi_X5_seatTold, mz_X5_seatTold⟩
set_option maxRecDepth 20000 in
theorem cw_X5_40 : CWV RX5 40 RX5 yX5_presentFor cX5_presentFor 7 (some .int) 3 := ⟨me_X5_presentFor, tb_c4 114 rfl rfl, mi_X5_presentFor, mz_X5_presentFor⟩
set_option maxRecDepth 20000 in
theorem cw_X5_44 : CWS RX5 44 yJ6_bitCount_0f7a4 cJ6_bitCount_0f7a4 1 (some .int) 1 := ⟨me_J6_bitCount_0f7a4, tb_c4 119 rfl rfl, ms_J6_bitCount_0f7a4⟩
set_option maxRecDepth 20000 in
theorem cw_X5_50 : CWV RX5 50 RX5 yX5_seatByTurn cX5_seatByTurn 6 none 3 := ⟨me_X5_seatByTurn, tb_c4 120 rfl rfl, mi_X5_seatByTurn, mz_X5_seatByTurn⟩
set_option maxRecDepth 20000 in
theorem cw_X5_54 : CWV RX5 54 RX5 yX5_seatByDraw cX5_seatByDraw 4 none 1 := ⟨me_X5_seatByDraw, tb_c4 136 rfl rfl, mi_X5_seatByDraw, mz_X5_seatByDraw⟩
set_option maxRecDepth 20000 in
theorem cw_X5_58 : CWV RX5 58 RX5 yX5_seatStranger cX5_seatStranger 6 none 2 := ⟨me_X5_seatStranger, tb_c4 145 rfl rfl, mi_X5_seatStranger, mz_X5_seatStranger⟩
set_option maxRecDepth 20000 in
theorem cw_X5_62 : CWV RX5 62 RX5 yX5_sitDown cX5_sitDown 5 (some .int) 2 := ⟨me_X5_sitDown, tb_c4 149 rfl rfl, mi_X5_sitDown, mz_X5_sitDown⟩
set_option maxRecDepth 20000 in
theorem cw_X5_71 : CWV RX5 71 RX2 yX2_isAway cX2_isAway 3 (some .boolean) 2 := ⟨me_X2_isAway, tb_c4 118 rfl rfl, mi_X2_isAway, mz_X2_isAway⟩
set_option maxRecDepth 20000 in
theorem cw_X5_75 : CWV RX5 75 RX2 yX2_isPerson cX2_isPerson 2 (some .boolean) 1 := ⟨me_X2_isPerson, tb_c4 113 rfl rfl, mi_X2_isPerson, mz_X2_isPerson⟩
set_option maxRecDepth 20000 in
theorem cw_X5_79 : CWS RX5 79 yX5_longestApart cX5_longestApart 9 (some .int) 4 := ⟨me_X5_longestApart, tb_c4 124 rfl rfl, ms_X5_longestApart⟩
set_option maxRecDepth 20000 in
theorem cw_X5_83 : CWS RX5 83 yX5_leastOf cX5_leastOf 2 (some .int) 1 := ⟨me_X5_leastOf, tb_c4 133 rfl rfl, ms_X5_leastOf⟩
set_option maxRecDepth 20000 in
theorem cw_X5_86 : CWS RX5 86 yX5_isIn cX5_isIn 2 (some .boolean) 2 := ⟨me_X5_isIn, tb_c4 127 rfl rfl, ms_X5_isIn⟩
set_option maxRecDepth 20000 in
theorem cw_X5_89 : CWV RX5 89 RX2 yX2_areKin cX2_areKin 3 (some .boolean) 2 := ⟨me_X2_areKin, tb_c4 130 rfl rfl, mi_X2_areKin, mz_X2_areKin⟩
set_option maxRecDepth 20000 in
theorem cw_X5_92 : CWS RX5 92 yX2_pairOf cX2_pairOf 2 (some .int) 2 := ⟨me_X2_pairOf, tb_c4 131 rfl rfl, ms_X2_pairOf⟩
set_option maxRecDepth 20000 in
theorem cw_X5_96 : CWV RX5 96 RX2 yX2_lastDayOf cX2_lastDayOf 4 (some .int) 2 := ⟨me_X2_lastDayOf, tb_c4 132 rfl rfl, mi_X2_lastDayOf, mz_X2_lastDayOf⟩
set_option maxRecDepth 20000 in
theorem cw_X6_27 : CWV RX6 27 RX6 yX6_due cX6_due 4 (some .int) 2 := ⟨me_X6_due, tb_c4 166 rfl rfl, mi_X6_due, mz_X6_due⟩
set_option maxRecDepth 20000 in
theorem cw_X6_31 : CWV RX6 31 RX2 yX2_pairOn cX2_pairOn 4 (some .int) 1 := ⟨me_X2_pairOn, tb_c4 170 rfl rfl, mi_X2_pairOn, mz_X2_pairOn⟩
set_option maxRecDepth 20000 in
theorem cw_X6_37 : CWV RX6 37 RX3 yX3_seenOn cX3_seenOn 2 (some .int) 1 := ⟨me_X3_seenOn, tb_c4 171 rfl rfl, mi_X3_seenOn, mz_X3_seenOn⟩
set_option maxRecDepth 20000 in
theorem cw_X6_42 : CWV RX6 42 RX3 yX3_brokenOn cX3_brokenOn 3 (some .int) 1 := ⟨me_X3_brokenOn, tb_c4 172 rfl rfl, mi_X3_brokenOn, mz_X3_brokenOn⟩
set_option maxRecDepth 20000 in
theorem cw_X7_110 : CWV RX7 110 RX7 yX7_readNumber cX7_readNumber 6 (some .int) 2 := ⟨me_X7_readNumber, tb_c2 189 rfl rfl, mi_X7_readNumber, mz_X7_readNumber⟩
set_option maxRecDepth 20000 in
theorem cw_X7_114 : CWV RX7 114 RX2 yX2_setKin cX2_setKin 4 (some .int) 3 := ⟨me_X2_setKin, tb_c2 196 rfl rfl, mi_X2_setKin, mz_X2_setKin⟩
set_option maxRecDepth 20000 in
theorem cw_X7_121 : CWS RX7 121 yX2_pairOf cX2_pairOf 2 (some .int) 2 := ⟨me_X2_pairOf, tb_c2 208 rfl rfl, ms_X2_pairOf⟩
set_option maxRecDepth 20000 in
theorem cw_X7_126 : CWV RX7 126 RX7 yX7_readWord cX7_readWord 3 none 1 := ⟨me_X7_readWord, tb_c2 216 rfl rfl, mi_X7_readWord, mz_X7_readWord⟩
set_option maxRecDepth 20000 in
theorem cw_X7_130 : CWV RX7 130 RX2 yX2_setAway cX2_setAway 4 (some .int) 3 := ⟨me_X2_setAway, tb_c2 220 rfl rfl, mi_X2_setAway, mz_X2_setAway⟩
set_option maxRecDepth 20000 in
theorem cw_X7_138 : CWS RX7 138 yX7_isDigit cX7_isDigit 1 (some .boolean) 1 := ⟨me_X7_isDigit, tb_c2 193 rfl rfl, ms_X7_isDigit⟩
set_option maxRecDepth 20000 in
theorem cw_X7_147 : CWV RX7 147 RJ0 yJ0_length_8abf5 cJ0_length_8abf5 1 (some .int) 0 := ⟨me_J0_length_8abf5, tb_c2 126 rfl rfl, mi_J0_length_8abf5, mz_J0_length_8abf5⟩
set_option maxRecDepth 20000 in
theorem cw_X7_151 : CWV RX7 151 RJ0 yJ0_charAt_5068e cJ0_charAt_5068e 2 (some .char) 1 := ⟨me_J0_charAt_5068e, tb_c2 136 rfl rfl, mi_J0_charAt_5068e, mz_J0_charAt_5068e⟩
set_option maxRecDepth 20000 in
theorem cw_X7_35 : CWV RX7 35 RX2 yX2_emptyBut cX2_emptyBut 2 none 1 := ⟨me_X2_emptyBut, tb_c2 91 rfl rfl, mi_X2_emptyBut, mz_X2_emptyBut⟩
set_option maxRecDepth 20000 in
theorem cw_X7_39 : CWV RX7 39 RX7 yX7_skipBlanks cX7_skipBlanks 1 none 0 := ⟨me_X7_skipBlanks, tb_c2 95 rfl rfl, mi_X7_skipBlanks, mz_X7_skipBlanks⟩
set_option maxRecDepth 20000 in
theorem cw_X7_42 : CWV RX7 42 RX7 yX7_readStatement cX7_readStatement 3 none 0 := ⟨me_X7_readStatement, tb_c2 99 rfl rfl, mi_X7_readStatement, mz_X7_readStatement⟩
set_option maxRecDepth 20000 in
theorem cw_X7_45 : CWV RX7 45 RX2 yX2_become cX2_become 2 none 1 := ⟨me_X2_become, tb_c2 239 rfl rfl, mi_X2_become, mz_X2_become⟩
set_option maxRecDepth 20000 in
theorem cw_X7_49 : CWV RX7 49 RX7 yX7_endOfName cX7_endOfName 2 (some .int) 0 := ⟨me_X7_endOfName, tb_c2 103 rfl rfl, mi_X7_endOfName, mz_X7_endOfName⟩
set_option maxRecDepth 20000 in
theorem cw_X7_53 : CWS RX7 53 yX7_nameOf cX7_nameOf 1 (some (.object "java/lang/String")) 1 := ⟨me_X7_nameOf, tb_c2 107 rfl rfl, ms_X7_nameOf⟩
set_option maxRecDepth 20000 in
theorem cw_X7_57 : CWV RX7 57 RX7 yX7_stands cX7_stands 4 (some .boolean) 2 := ⟨me_X7_stands, tb_c2 122 rfl rfl, mi_X7_stands, mz_X7_stands⟩
set_option maxRecDepth 20000 in
theorem cw_X7_64 : CWV RX7 64 RX7 yX7_fail cX7_fail 2 none 1 := ⟨me_X7_fail, tb_c2 174 rfl rfl, mi_X7_fail, mz_X7_fail⟩
set_option maxRecDepth 20000 in
theorem cw_X7_68 : CWV RX7 68 RX2 yX2_addPerson cX2_addPerson 1 (some .int) 0 := ⟨me_X2_addPerson, tb_c2 181 rfl rfl, mi_X2_addPerson, mz_X2_addPerson⟩
set_option maxRecDepth 20000 in
theorem cw_X7_71 : CWV RX7 71 RX7 yX7_readKin cX7_readKin 3 none 0 := ⟨me_X7_readKin, tb_c2 185 rfl rfl, mi_X7_readKin, mz_X7_readKin⟩
set_option maxRecDepth 20000 in
theorem cw_X7_74 : CWV RX7 74 RX7 yX7_readTrust cX7_readTrust 4 none 0 := ⟨me_X7_readTrust, tb_c2 204 rfl rfl, mi_X7_readTrust, mz_X7_readTrust⟩
set_option maxRecDepth 20000 in
theorem cw_X7_77 : CWV RX7 77 RX7 yX7_readAway cX7_readAway 5 none 0 := ⟨me_X7_readAway, tb_c2 211 rfl rfl, mi_X7_readAway, mz_X7_readAway⟩
set_option maxRecDepth 20000 in
theorem cw_X7_80 : CWV RX7 80 RX7 yX7_readLaw cX7_readLaw 3 none 1 := ⟨me_X7_readLaw, tb_c2 229 rfl rfl, mi_X7_readLaw, mz_X7_readLaw⟩
set_option maxRecDepth 20000 in
theorem cw_X7_83 : CWV RX7 83 RX7 yX7_readEnd cX7_readEnd 1 none 0 := ⟨me_X7_readEnd, tb_c2 235 rfl rfl, mi_X7_readEnd, mz_X7_readEnd⟩
set_option maxRecDepth 20000 in
theorem cw_X8_101 : CWV RX8 101 RX2 yX2_lastDayOf cX2_lastDayOf 4 (some .int) 2 := ⟨me_X2_lastDayOf, tb_c4 26 rfl rfl, mi_X2_lastDayOf, mz_X2_lastDayOf⟩
set_option maxRecDepth 20000 in
theorem cw_X8_104 : CWV RX8 104 RX8 yX8_mostTrust cX8_mostTrust 7 (some .int) 2 := ⟨me_X8_mostTrust, tb_c4 27 rfl rfl, mi_X8_mostTrust, mz_X8_mostTrust⟩
set_option maxRecDepth 20000 in
theorem cw_X8_107 : CWS RX8 107 yX8_countRows cX8_countRows 7 (some .int) 3 := ⟨me_X8_countRows, tb_c4 31 rfl rfl, ms_X8_countRows⟩
set_option maxRecDepth 20000 in
theorem cw_X8_111 : CWV RX8 111 RX8 yX8_standsBehindChosen cX8_standsBehindChosen 6 (some .boolean) 2 := ⟨me_X8_standsBehindChosen, tb_c4 34 rfl rfl, mi_X8_standsBehindChosen, mz_X8_standsBehindChosen⟩
set_option maxRecDepth 20000 in
theorem cw_X8_114 : CWV RX8 114 RX3 yX3_trustAfter cX3_trustAfter 3 (some .int) 2 := ⟨me_X3_trustAfter, tb_c4 38 rfl rfl, mi_X3_trustAfter, mz_X3_trustAfter⟩
set_option maxRecDepth 20000 in
theorem cw_X8_43 : CWV RX8 43 RX8 yX8_maySit cX8_maySit 4 (some .boolean) 3 := ⟨me_X8_maySit, tb_c3 228 rfl rfl, mi_X8_maySit, mz_X8_maySit⟩
set_option maxRecDepth 20000 in
theorem cw_X8_47 : CWS RX8 47 yX2_pairOf cX2_pairOf 2 (some .int) 2 := ⟨me_X2_pairOf, tb_c3 234 rfl rfl, ms_X2_pairOf⟩
set_option maxRecDepth 20000 in
theorem cw_X8_51 : CWV RX8 51 RX2 yX2_satInGap cX2_satInGap 4 (some .boolean) 2 := ⟨me_X2_satInGap, tb_c3 235 rfl rfl, mi_X2_satInGap, mz_X2_satInGap⟩
set_option maxRecDepth 20000 in
theorem cw_X8_55 : CWV RX8 55 RX8 yX8_mendBy cX8_mendBy 10 none 3 := ⟨me_X8_mendBy, tb_c3 236 rfl rfl, mi_X8_mendBy, mz_X8_mendBy⟩
set_option maxRecDepth 20000 in
theorem cw_X8_59 : CWV RX8 59 RX3 yX3_trustOfPair cX3_trustOfPair 5 (some .int) 2 := ⟨me_X3_trustOfPair, tb_c4 0 rfl rfl, mi_X3_trustOfPair, mz_X3_trustOfPair⟩
set_option maxRecDepth 20000 in
theorem cw_X8_64 : CWV RX8 64 RX8 yX8_change cX8_change 4 (some .int) 3 := ⟨me_X8_change, tb_c4 1 rfl rfl, mi_X8_change, mz_X8_change⟩
set_option maxRecDepth 20000 in
theorem cw_X8_68 : CWV RX8 68 RX8 yX8_isFree cX8_isFree 4 (some .boolean) 3 := ⟨me_X8_isFree, tb_c4 6 rfl rfl, mi_X8_isFree, mz_X8_isFree⟩
set_option maxRecDepth 20000 in
theorem cw_X8_71 : CWV RX8 71 RX8 yX8_wouldPay cX8_wouldPay 7 (some .boolean) 5 := ⟨me_X8_wouldPay, tb_c4 10 rfl rfl, mi_X8_wouldPay, mz_X8_wouldPay⟩
set_option maxRecDepth 20000 in
theorem cw_X8_75 : CWV RX8 75 RX2 yX2_at cX2_at 3 (some .int) 2 := ⟨me_X2_at, tb_c4 5 rfl rfl, mi_X2_at, mz_X2_at⟩
set_option maxRecDepth 20000 in
theorem cw_X8_78 : CWV RX8 78 RX2 yX2_isAway cX2_isAway 3 (some .boolean) 2 := ⟨me_X2_isAway, tb_c3 232 rfl rfl, mi_X2_isAway, mz_X2_isAway⟩
set_option maxRecDepth 20000 in
theorem cw_X8_81 : CWV RX8 81 RX2 yX2_areKin cX2_areKin 3 (some .boolean) 2 := ⟨me_X2_areKin, tb_c3 233 rfl rfl, mi_X2_areKin, mz_X2_areKin⟩
set_option maxRecDepth 20000 in
theorem cw_X8_84 : CWV RX8 84 RX2 yX2_hasSurprise cX2_hasSurprise 2 (some .boolean) 1 := ⟨me_X2_hasSurprise, tb_c4 14 rfl rfl, mi_X2_hasSurprise, mz_X2_hasSurprise⟩
set_option maxRecDepth 20000 in
theorem cw_X8_88 : CWV RX8 88 RX3 yX3_seenOf cX3_seenOf 7 (some .int) 4 := ⟨me_X3_seenOf, tb_c4 15 rfl rfl, mi_X3_seenOf, mz_X3_seenOf⟩
set_option maxRecDepth 20000 in
theorem cw_X8_92 : CWV RX8 92 RX3 yX3_worthOf cX3_worthOf 3 (some .int) 2 := ⟨me_X3_worthOf, tb_c4 16 rfl rfl, mi_X3_worthOf, mz_X3_worthOf⟩
set_option maxRecDepth 20000 in
theorem cw_X8_98 : CWV RX8 98 RX3 yX3_isPaying cX3_isPaying 3 (some .boolean) 2 := ⟨me_X3_isPaying, tb_c4 17 rfl rfl, mi_X3_isPaying, mz_X3_isPaying⟩
set_option maxRecDepth 20000 in
theorem cw_X9_104 : CWV RX9 104 RX2 yX2_addPerson cX2_addPerson 1 (some .int) 0 := ⟨me_X2_addPerson, tb_c3 12 rfl rfl, mi_X2_addPerson, mz_X2_addPerson⟩
set_option maxRecDepth 20000 in
theorem cw_X9_108 : CWV RX9 108 RX2 yX2_areTwo cX2_areTwo 3 (some .boolean) 2 := ⟨me_X2_areTwo, tb_c3 17 rfl rfl, mi_X2_areTwo, mz_X2_areTwo⟩
set_option maxRecDepth 20000 in
theorem cw_X9_112 : CWV RX9 112 RX2 yX2_setKin cX2_setKin 4 (some .int) 3 := ⟨me_X2_setKin, tb_c3 25 rfl rfl, mi_X2_setKin, mz_X2_setKin⟩
set_option maxRecDepth 20000 in
theorem cw_X9_116 : CWS RX9 116 yX2_pairOf cX2_pairOf 2 (some .int) 2 := ⟨me_X2_pairOf, tb_c3 30 rfl rfl, ms_X2_pairOf⟩
set_option maxRecDepth 20000 in
theorem cw_X9_124 : CWV RX9 124 RX2 yX2_isPerson cX2_isPerson 2 (some .boolean) 1 := ⟨me_X2_isPerson, tb_c3 35 rfl rfl, mi_X2_isPerson, mz_X2_isPerson⟩
set_option maxRecDepth 20000 in
theorem cw_X9_128 : CWS RX9 128 yX9_isDay cX9_isDay 1 (some .boolean) 1 := ⟨me_X9_isDay, tb_c3 36 rfl rfl, ms_X9_isDay⟩
set_option maxRecDepth 20000 in
theorem cw_X9_131 : CWV RX9 131 RX2 yX2_setAway cX2_setAway 4 (some .int) 3 := ⟨me_X2_setAway, tb_c3 39 rfl rfl, mi_X2_setAway, mz_X2_setAway⟩
set_option maxRecDepth 20000 in
theorem cw_X9_140 : CWS RX9 140 yX9_isPost cX9_isPost 1 (some .boolean) 1 := ⟨me_X9_isPost, tb_c3 53 rfl rfl, ms_X9_isPost⟩
set_option maxRecDepth 20000 in
theorem cw_X9_143 : CWV RX9 143 RX2 yX2_at cX2_at 3 (some .int) 2 := ⟨me_X2_at, tb_c3 56 rfl rfl, mi_X2_at, mz_X2_at⟩
set_option maxRecDepth 20000 in
theorem cw_X9_146 : CWV RX9 146 RX2 yX2_seat cX2_seat 4 none 3 := ⟨me_X2_seat, tb_c3 60 rfl rfl, mi_X2_seat, mz_X2_seat⟩
set_option maxRecDepth 20000 in
theorem cw_X9_150 : CWV RX9 150 RX2 yX2_setSurprise cX2_setSurprise 3 (some .int) 2 := ⟨me_X2_setSurprise, tb_c3 72 rfl rfl, mi_X2_setSurprise, mz_X2_setSurprise⟩
set_option maxRecDepth 20000 in
theorem cw_X9_157 : CWV RX9 157 RX3 yX3_trustOfPair cX3_trustOfPair 5 (some .int) 2 := ⟨me_X3_trustOfPair, tb_c3 88 rfl rfl, mi_X3_trustOfPair, mz_X3_trustOfPair⟩
set_option maxRecDepth 20000 in
theorem cw_X9_160 : CWV RX9 160 RX2 yX2_pairOn cX2_pairOn 4 (some .int) 1 := ⟨me_X2_pairOn, tb_c3 109 rfl rfl, mi_X2_pairOn, mz_X2_pairOn⟩
set_option maxRecDepth 20000 in
theorem cw_X9_164 : CWV RX9 164 RX3 yX3_seenOn cX3_seenOn 2 (some .int) 1 := ⟨me_X3_seenOn, tb_c3 110 rfl rfl, mi_X3_seenOn, mz_X3_seenOn⟩
set_option maxRecDepth 20000 in
theorem cw_X9_167 : CWV RX9 167 RX3 yX3_worthOn cX3_worthOn 2 (some .int) 1 := ⟨me_X3_worthOn, tb_c3 124 rfl rfl, mi_X3_worthOn, mz_X3_worthOn⟩
set_option maxRecDepth 20000 in
theorem cw_X9_170 : CWV RX9 170 RX3 yX3_payingDays cX3_payingDays 1 (some .int) 0 := ⟨me_X3_payingDays, tb_c3 141 rfl rfl, mi_X3_payingDays, mz_X3_payingDays⟩
set_option maxRecDepth 20000 in
theorem cw_X9_173 : CWS RX9 173 yX9_isPart cX9_isPart 1 (some .boolean) 1 := ⟨me_X9_isPart, tb_c3 158 rfl rfl, ms_X9_isPart⟩
set_option maxRecDepth 20000 in
theorem cw_X9_178 : CWV RX9 178 RX4 yX4_findBest cX4_findBest 8 none 1 := ⟨me_X4_findBest, tb_c3 162 rfl rfl, mi_X4_findBest, mz_X4_findBest⟩
set_option maxRecDepth 20000 in
theorem cw_X9_189 : CWV RX9 189 RX3 yX3_leastTell cX3_leastTell 2 (some .int) 0 := ⟨me_X3_leastTell, tb_c3 181 rfl rfl, mi_X3_leastTell, mz_X3_leastTell⟩
set_option maxRecDepth 20000 in
theorem cw_X9_192 : CWV RX9 192 RX3 yX3_surprisesNeeded cX3_surprisesNeeded 4 (some .int) 0 := ⟨me_X3_surprisesNeeded, tb_c3 189 rfl rfl, mi_X3_surprisesNeeded, mz_X3_surprisesNeeded⟩
set_option maxRecDepth 20000 in
theorem cw_X9_195 : CWV RX9 195 RX3 yX3_brokenOn cX3_brokenOn 3 (some .int) 1 := ⟨me_X3_brokenOn, tb_c3 197 rfl rfl, mi_X3_brokenOn, mz_X3_brokenOn⟩
set_option maxRecDepth 20000 in
theorem cw_X9_198 : CWV RX9 198 RX8 yX8_mend cX8_mend 4 (some .boolean) 1 := ⟨me_X8_mend, tb_c3 224 rfl rfl, mi_X8_mend, mz_X8_mend⟩
set_option maxRecDepth 20000 in
theorem cw_X9_207 : CWV RX9 207 RX8 yX8_rowsAhead cX8_rowsAhead 9 (some .int) 2 := ⟨me_X8_rowsAhead, tb_c4 22 rfl rfl, mi_X8_rowsAhead, mz_X8_rowsAhead⟩
set_option maxRecDepth 20000 in
theorem cw_X9_210 : CWV RX9 210 RX4 yX4_findLot cX4_findLot 7 none 1 := ⟨me_X4_findLot, tb_c4 43 rfl rfl, mi_X4_findLot, mz_X4_findLot⟩
set_option maxRecDepth 20000 in
theorem cw_X9_213 : CWV RX9 213 RX2 yX2_daysOf cX2_daysOf 4 (some .int) 1 := ⟨me_X2_daysOf, tb_c4 71 rfl rfl, mi_X2_daysOf, mz_X2_daysOf⟩
set_option maxRecDepth 20000 in
theorem cw_X9_216 : CWV RX9 216 RX2 yX2_pairOfMostLoss cX2_pairOfMostLoss 6 (some .int) 0 := ⟨me_X2_pairOfMostLoss, tb_c4 76 rfl rfl, mi_X2_pairOfMostLoss, mz_X2_pairOfMostLoss⟩
set_option maxRecDepth 20000 in
theorem cw_X9_219 : CWV RX9 219 RX2 yX2_lossOf cX2_lossOf 4 (some .int) 1 := ⟨me_X2_lossOf, tb_c4 84 rfl rfl, mi_X2_lossOf, mz_X2_lossOf⟩
set_option maxRecDepth 20000 in
theorem cw_X9_225 : CWV RX9 225 RX5 yX5_add cX5_add 3 (some .int) 2 := ⟨me_X5_add, tb_c4 89 rfl rfl, mi_X5_add, mz_X5_add⟩
set_option maxRecDepth 20000 in
theorem cw_X9_227 : CWV RX9 227 RX5 yX5_has cX5_has 2 (some .boolean) 1 := ⟨me_X5_has, tb_c4 97 rfl rfl, mi_X5_has, mz_X5_has⟩
set_option maxRecDepth 20000 in
theorem cw_X9_236 : CWV RX9 236 RX5 yX5_fillDay cX5_fillDay 6 (some .int) 3 := ⟨me_X5_fillDay, tb_c4 105 rfl rfl, mi_X5_fillDay, mz_X5_fillDay⟩
set_option maxRecDepth 20000 in
theorem cw_X9_243 : CWV RX9 243 RX6 yX6_write cX6_write 3 (some .int) 0 := ⟨me_X6_write, tb_c4 162 rfl rfl, mi_X6_write, mz_X6_write⟩
set_option maxRecDepth 20000 in
theorem cw_X9_246 : CWV RX9 246 RX6 yX6_has cX6_has 3 (some .boolean) 2 := ⟨me_X6_has, tb_c4 177 rfl rfl, mi_X6_has, mz_X6_has⟩
set_option maxRecDepth 20000 in
theorem cw_X9_251 : CWV RX9 251 RX6 yX6_firstWrong cX6_firstWrong 3 (some .int) 0 := ⟨me_X6_firstWrong, tb_c4 189 rfl rfl, mi_X6_firstWrong, mz_X6_firstWrong⟩
set_option maxRecDepth 20000 in
theorem cw_X9_254 : CWS RX9 254 yX9_isPlace cX9_isPlace 1 (some .boolean) 1 := ⟨me_X9_isPlace, tb_c4 197 rfl rfl, ms_X9_isPlace⟩
set_option maxRecDepth 20000 in
theorem cw_X9_257 : CWV RX9 257 RX1 yX1_lay cX1_lay 4 (some .int) 3 := ⟨me_X1_lay, tb_c4 200 rfl rfl, mi_X1_lay, mz_X1_lay⟩
set_option maxRecDepth 20000 in
theorem cw_X9_264 : CWV RX9 264 RX1 yX1_holds cX1_holds 3 (some .boolean) 2 := ⟨me_X1_holds, tb_c4 208 rfl rfl, mi_X1_holds, mz_X1_holds⟩
set_option maxRecDepth 20000 in
theorem cw_X9_267 : CWV RX9 267 RX1 yX1_write cX1_write 4 (some .int) 3 := ⟨me_X1_write, tb_c4 212 rfl rfl, mi_X1_write, mz_X1_write⟩
set_option maxRecDepth 20000 in
theorem cw_X9_273 : CWV RX9 273 RX1 yX1_shelvePlan cX1_shelvePlan 3 (some .int) 2 := ⟨me_X1_shelvePlan, tb_c4 224 rfl rfl, mi_X1_shelvePlan, mz_X1_shelvePlan⟩
set_option maxRecDepth 20000 in
theorem cw_X9_276 : CWV RX9 276 RX1 yX1_shelveRow cX1_shelveRow 3 (some .int) 2 := ⟨me_X1_shelveRow, tb_c4 228 rfl rfl, mi_X1_shelveRow, mz_X1_shelveRow⟩
set_option maxRecDepth 20000 in
theorem cw_X9_279 : CWV RX9 279 RX1 yX1_clear cX1_clear 2 (some .int) 1 := ⟨me_X1_clear, tb_c4 232 rfl rfl, mi_X1_clear, mz_X1_clear⟩
set_option maxRecDepth 20000 in
theorem cw_X9_282 : CWV RX9 282 RX1 yX1_heldRow cX1_heldRow 2 (some .boolean) 1 := ⟨me_X1_heldRow, tb_c5 0 rfl rfl, mi_X1_heldRow, mz_X1_heldRow⟩
set_option maxRecDepth 20000 in
theorem cw_X9_291 : CWV RX9 291 RX9 yX9_planOn cX9_planOn 2 (some .int) 1 := ⟨me_X9_planOn, tb_c5 4 rfl rfl, mi_X9_planOn, mz_X9_planOn⟩
set_option maxRecDepth 20000 in
theorem cw_X9_294 : CWS RX9 294 yX0_isUnder cX0_isUnder 4 (some .boolean) 2 := ⟨me_X0_isUnder, tb_c5 12 rfl rfl, ms_X0_isUnder⟩
set_option maxRecDepth 20000 in
theorem cw_X9_297 : CWV RX9 297 RX0 yX0_forget cX0_forget 1 none 0 := ⟨me_X0_forget, tb_c5 21 rfl rfl, mi_X0_forget, mz_X0_forget⟩
set_option maxRecDepth 20000 in
theorem cw_X9_300 : CWV RX9 300 RX0 yX0_perform cX0_perform 7 (some .int) 5 := ⟨me_X0_perform, tb_c5 25 rfl rfl, mi_X0_perform, mz_X0_perform⟩
set_option maxRecDepth 20000 in
theorem cw_X9_318 : CWV RX9 318 RX2 yX2_sittings cX2_sittings 3 (some .int) 0 := ⟨me_X2_sittings, tb_c5 58 rfl rfl, mi_X2_sittings, mz_X2_sittings⟩
set_option maxRecDepth 20000 in
theorem cw_X9_322 : CWV RX9 322 RX2 yX2_become cX2_become 2 none 1 := ⟨me_X2_become, tb_c5 63 rfl rfl, mi_X2_become, mz_X2_become⟩
set_option maxRecDepth 20000 in
theorem cw_X9_325 : CWV RX9 325 RX5 yX5_become cX5_become 2 none 1 := ⟨me_X5_become, tb_c5 64 rfl rfl, mi_X5_become, mz_X5_become⟩
set_option maxRecDepth 20000 in
theorem cw_X9_328 : CWV RX9 328 RX1 yX1_heldPlan cX1_heldPlan 2 (some .boolean) 1 := ⟨me_X1_heldPlan, tb_c5 8 rfl rfl, mi_X1_heldPlan, mz_X1_heldPlan⟩
set_option maxRecDepth 20000 in
theorem cw_X9_90 : CWV RX9 90 RX7 yX7_add cX7_add 5 (some .int) 2 := ⟨me_X7_add, tb_c2 79 rfl rfl, mi_X7_add, mz_X7_add⟩
set_option maxRecDepth 20000 in
theorem cw_X9_94 : CWV RX9 94 RX7 yX7_tell cX7_tell 3 (some .int) 1 := ⟨me_X7_tell, tb_c2 87 rfl rfl, mi_X7_tell, mz_X7_tell⟩
set_option maxRecDepth 20000 in
theorem cw_X9_98 : CWV RX9 98 RX6 yX6_drop cX6_drop 1 none 0 := ⟨me_X6_drop, tb_c3 3 rfl rfl, mi_X6_drop, mz_X6_drop⟩
set_option maxRecDepth 20000 in
theorem kw_J6_265 : ((Jvm.Cond.constant "java/lang/Integer" (265 : Nat) (1431655765 : Int32)) : Cond) ∈ TBL := tb_c4 58 rfl rfl
set_option maxRecDepth 20000 in
theorem kw_J6_266 : ((Jvm.Cond.constant "java/lang/Integer" (266 : Nat) (858993459 : Int32)) : Cond) ∈ TBL := tb_c4 59 rfl rfl
set_option maxRecDepth 20000 in
theorem kw_J6_267 : ((Jvm.Cond.constant "java/lang/Integer" (267 : Nat) (252645135 : Int32)) : Cond) ∈ TBL := tb_c4 60 rfl rfl
set_option maxRecDepth 20000 in
theorem kw_X10_116 : ((Jvm.Cond.constantLong "TillPairsModel" (116 : Nat) (255 : Int64)) : Cond) ∈ TBL := tb_c6 1 rfl rfl
set_option maxRecDepth 20000 in
theorem kw_X10_144 : ((Jvm.Cond.constantLong "TillPairsModel" (144 : Nat) (27 : Int64)) : Cond) ∈ TBL := tb_c6 20 rfl rfl
set_option maxRecDepth 20000 in
theorem kw_X10_146 : ((Jvm.Cond.constantLong "TillPairsModel" (146 : Nat) (96 : Int64)) : Cond) ∈ TBL := tb_c6 21 rfl rfl
set_option maxRecDepth 20000 in
theorem kw_X10_148 : ((Jvm.Cond.constantLong "TillPairsModel" (148 : Nat) (-1 : Int64)) : Cond) ∈ TBL := tb_c6 22 rfl rfl
set_option maxRecDepth 20000 in
theorem kw_X10_150 : ((Jvm.Cond.constantLong "TillPairsModel" (150 : Nat) (394691 : Int64)) : Cond) ∈ TBL := tb_c6 65 rfl rfl
set_option maxRecDepth 20000 in
theorem kw_X10_156 : ((Jvm.Cond.constantLong "TillPairsModel" (156 : Nat) (315914 : Int64)) : Cond) ∈ TBL := tb_c6 66 rfl rfl
set_option maxRecDepth 20000 in
theorem kw_X10_158 : ((Jvm.Cond.constantLong "TillPairsModel" (158 : Nat) (4325 : Int64)) : Cond) ∈ TBL := tb_c6 67 rfl rfl
set_option maxRecDepth 20000 in
theorem kw_X10_160 : ((Jvm.Cond.constantLong "TillPairsModel" (160 : Nat) (1388945628 : Int64)) : Cond) ∈ TBL := tb_c6 68 rfl rfl
set_option maxRecDepth 20000 in
theorem kw_X10_162 : ((Jvm.Cond.constantLong "TillPairsModel" (162 : Nat) (260960283 : Int64)) : Cond) ∈ TBL := tb_c6 69 rfl rfl
set_option maxRecDepth 20000 in
theorem kw_X10_164 : ((Jvm.Cond.constantLong "TillPairsModel" (164 : Nat) (118940 : Int64)) : Cond) ∈ TBL := tb_c6 70 rfl rfl
set_option maxRecDepth 20000 in
theorem kw_X10_166 : ((Jvm.Cond.constantLong "TillPairsModel" (166 : Nat) (397641 : Int64)) : Cond) ∈ TBL := tb_c6 71 rfl rfl
set_option maxRecDepth 20000 in
theorem kw_X10_168 : ((Jvm.Cond.constantLong "TillPairsModel" (168 : Nat) (5146 : Int64)) : Cond) ∈ TBL := tb_c6 72 rfl rfl
set_option maxRecDepth 20000 in
theorem kw_X10_190 : ((Jvm.Cond.constantLong "TillPairsModel" (190 : Nat) (419 : Int64)) : Cond) ∈ TBL := tb_c6 55 rfl rfl
set_option maxRecDepth 20000 in
theorem kw_X10_196 : ((Jvm.Cond.constantLong "TillPairsModel" (196 : Nat) (1111 : Int64)) : Cond) ∈ TBL := tb_c6 60 rfl rfl
set_option maxRecDepth 20000 in
theorem kw_X10_198 : ((Jvm.Cond.constantLong "TillPairsModel" (198 : Nat) (232608281 : Int64)) : Cond) ∈ TBL := tb_c6 27 rfl rfl
set_option maxRecDepth 20000 in
theorem kw_X10_200 : ((Jvm.Cond.constantLong "TillPairsModel" (200 : Nat) (8276 : Int64)) : Cond) ∈ TBL := tb_c6 40 rfl rfl
set_option maxRecDepth 20000 in
theorem kw_X10_202 : ((Jvm.Cond.constantLong "TillPairsModel" (202 : Nat) (10998956 : Int64)) : Cond) ∈ TBL := tb_c6 41 rfl rfl
set_option maxRecDepth 20000 in
theorem kw_X10_208 : ((Jvm.Cond.constantLong "TillPairsModel" (208 : Nat) (36502 : Int64)) : Cond) ∈ TBL := tb_c6 50 rfl rfl
set_option maxRecDepth 20000 in
theorem kw_X10_284 : ((Jvm.Cond.constantLong "TillPairsModel" (284 : Nat) (12 : Int64)) : Cond) ∈ TBL := tb_c6 195 rfl rfl
set_option maxRecDepth 20000 in
theorem kw_X10_327 : ((Jvm.Cond.constant "TillPairsModel" (327 : Nat) (1103515245 : Int32)) : Cond) ∈ TBL := tb_c7 58 rfl rfl
set_option maxRecDepth 20000 in
theorem kw_X4_45 : ((Jvm.Cond.constantLong "TillPairs$Odds" (45 : Nat) (12 : Int64)) : Cond) ∈ TBL := tb_c3 169 rfl rfl
set_option maxRecDepth 20000 in
theorem kw_X5_99 : ((Jvm.Cond.constant "TillPairs$Plans" (99 : Nat) (1103515245 : Int32)) : Cond) ∈ TBL := tb_c4 140 rfl rfl
set_option maxRecDepth 20000 in
theorem kw_X9_176 : ((Jvm.Cond.constantLong "TillPairs" (176 : Nat) (-1 : Int64)) : Cond) ∈ TBL := tb_c3 161 rfl rfl
theorem io_0 : isO 0 RX9 := fun _ _ _ => ⟨9, _, _, _, rfl, rfl⟩
theorem io_1 : isO 1 RX2 := fun _ _ _ => ⟨2, _, _, _, rfl, rfl⟩
theorem io_8 : isO 8 RX7 := fun _ _ _ => ⟨7, _, _, _, rfl, rfl⟩
theorem io_10 : isO 10 RX2 := fun _ _ _ => ⟨2, _, _, _, rfl, rfl⟩
theorem io_17 : isO 17 RX3 := fun _ _ _ => ⟨3, _, _, _, rfl, rfl⟩
theorem io_18 : isO 18 RX4 := fun _ _ _ => ⟨4, _, _, _, rfl, rfl⟩
theorem io_19 : isO 19 RX8 := fun _ _ _ => ⟨8, _, _, _, rfl, rfl⟩
theorem io_26 : isO 26 RX5 := fun _ _ _ => ⟨5, _, _, _, rfl, rfl⟩
theorem io_30 : isO 30 RX6 := fun _ _ _ => ⟨6, _, _, _, rfl, rfl⟩
theorem io_32 : isO 32 RX0 := fun _ _ _ => ⟨0, _, _, _, rfl, rfl⟩
theorem io_34 : isO 34 RX1 := fun _ _ _ => ⟨1, _, _, _, rfl, rfl⟩
theorem io_45 : isO 45 RX2 := fun _ _ _ => ⟨2, _, _, _, rfl, rfl⟩
theorem io_52 : isO 52 RX5 := fun _ _ _ => ⟨5, _, _, _, rfl, rfl⟩
theorem io_56 : isO 56 RX10 := fun _ _ _ => ⟨10, _, _, _, rfl, rfl⟩
section UFLD
variable {p : Program} {l : Launch} {e : Env} {R : Room} {s : State} {m : MethodId} {args : Array Value} {below : List Frame} {meth : Method} {c : Code} {H : Heap} {locs : List Loc} {cells slots : Nat} {Q : State → Prop}
variable {cc : ByteArray} {nL fr lo pc : Nat} {own : String} {ls : Array Slot} {rest : List Value} {D : va_G} {ad : Nat → Nat} {cs : Nat → ClassId} {sd : Nat → Nat} {A : Nat → Prop} {z : MS}
set_option maxRecDepth 20000 in
theorem gf_X0_11_32 (X : UC p s m args meth c cc nL RX0 R fr lo D ad cs sd A) (hP : va_P D clss (wld cs ad z) H) (d : decode cc pc = .ok (.getfield 11, 3)) (k : W p l e R s m args below meth c H locs cells slots Q (F0 m (pc + 3) ls (.ref (ad 33) :: rest))) : W p l e R s m args below meth c H locs cells slots Q (F0 m pc ls (.ref (ad 32) :: rest)) := u_get (C := RX0) (T := TX0) (N := 6) 0 32 X hP rfl rfl hin_X0 0 (Nat.le_of_ble_eq_true rfl) (tb_c1 (w := Cond.fieldLink "TillPairs$Acts" 11 "TillPairs$Acts" "noted" "[I") 225 rfl rfl) rfl rfl d k
set_option maxRecDepth 20000 in
theorem gf_X0_15_32 (X : UC p s m args meth c cc nL RX0 R fr lo D ad cs sd A) (hP : va_P D clss (wld cs ad z) H) (d : decode cc pc = .ok (.getfield 15, 3)) (k : W p l e R s m args below meth c H locs cells slots Q (F0 m (pc + 3) ls (.int (gI z 32 1) :: rest))) : W p l e R s m args below meth c H locs cells slots Q (F0 m pc ls (.ref (ad 32) :: rest)) := u_get (C := RX0) (T := TX0) (N := 6) 0 32 X hP rfl rfl hin_X0 1 (Nat.le_of_ble_eq_true rfl) (tb_c1 (w := Cond.fieldLink "TillPairs$Acts" 15 "TillPairs$Acts" "bodies" "I") 227 rfl rfl) rfl rfl d k
set_option maxRecDepth 20000 in
theorem gf_X0_19_32 (X : UC p s m args meth c cc nL RX0 R fr lo D ad cs sd A) (hP : va_P D clss (wld cs ad z) H) (d : decode cc pc = .ok (.getfield 19, 3)) (k : W p l e R s m args below meth c H locs cells slots Q (F0 m (pc + 3) ls (.int (gI z 32 2) :: rest))) : W p l e R s m args below meth c H locs cells slots Q (F0 m pc ls (.ref (ad 32) :: rest)) := u_get (C := RX0) (T := TX0) (N := 6) 0 32 X hP rfl rfl hin_X0 2 (Nat.le_of_ble_eq_true rfl) (tb_c1 (w := Cond.fieldLink "TillPairs$Acts" 19 "TillPairs$Acts" "kind" "I") 229 rfl rfl) rfl rfl d k
set_option maxRecDepth 20000 in
theorem gf_X0_22_32 (X : UC p s m args meth c cc nL RX0 R fr lo D ad cs sd A) (hP : va_P D clss (wld cs ad z) H) (d : decode cc pc = .ok (.getfield 22, 3)) (k : W p l e R s m args below meth c H locs cells slots Q (F0 m (pc + 3) ls (.int (gI z 32 3) :: rest))) : W p l e R s m args below meth c H locs cells slots Q (F0 m pc ls (.ref (ad 32) :: rest)) := u_get (C := RX0) (T := TX0) (N := 6) 0 32 X hP rfl rfl hin_X0 3 (Nat.le_of_ble_eq_true rfl) (tb_c1 (w := Cond.fieldLink "TillPairs$Acts" 22 "TillPairs$Acts" "number" "I") 230 rfl rfl) rfl rfl d k
set_option maxRecDepth 20000 in
theorem gf_X0_25_32 (X : UC p s m args meth c cc nL RX0 R fr lo D ad cs sd A) (hP : va_P D clss (wld cs ad z) H) (d : decode cc pc = .ok (.getfield 25, 3)) (k : W p l e R s m args below meth c H locs cells slots Q (F0 m (pc + 3) ls (.int (gI z 32 4) :: rest))) : W p l e R s m args below meth c H locs cells slots Q (F0 m pc ls (.ref (ad 32) :: rest)) := u_get (C := RX0) (T := TX0) (N := 6) 0 32 X hP rfl rfl hin_X0 4 (Nat.le_of_ble_eq_true rfl) (tb_c1 (w := Cond.fieldLink "TillPairs$Acts" 25 "TillPairs$Acts" "a" "I") 231 rfl rfl) rfl rfl d k
set_option maxRecDepth 20000 in
theorem gf_X0_28_32 (X : UC p s m args meth c cc nL RX0 R fr lo D ad cs sd A) (hP : va_P D clss (wld cs ad z) H) (d : decode cc pc = .ok (.getfield 28, 3)) (k : W p l e R s m args below meth c H locs cells slots Q (F0 m (pc + 3) ls (.int (gI z 32 5) :: rest))) : W p l e R s m args below meth c H locs cells slots Q (F0 m pc ls (.ref (ad 32) :: rest)) := u_get (C := RX0) (T := TX0) (N := 6) 0 32 X hP rfl rfl hin_X0 5 (Nat.le_of_ble_eq_true rfl) (tb_c1 (w := Cond.fieldLink "TillPairs$Acts" 28 "TillPairs$Acts" "parted" "Z") 232 rfl rfl) rfl rfl d k
set_option maxRecDepth 20000 in
theorem gf_X10_102_56 (X : UC p s m args meth c cc nL RX10 R fr lo D ad cs sd A) (hP : va_P D clss (wld cs ad z) H) (d : decode cc pc = .ok (.getfield 102, 3)) (k : W p l e R s m args below meth c H locs cells slots Q (F0 m (pc + 3) ls (.int (gI z 56 0) :: rest))) : W p l e R s m args below meth c H locs cells slots Q (F0 m pc ls (.ref (ad 56) :: rest)) := u_get (C := RX10) (T := TX10) (N := 51) 10 56 X hP rfl rfl hin_X10 0 (Nat.le_of_ble_eq_true rfl) (tb_c5 (w := Cond.fieldLink "TillPairsModel" 102 "TillPairsModel" "people" "I") 79 rfl rfl) rfl rfl d k
set_option maxRecDepth 20000 in
theorem gf_X10_113_56 (X : UC p s m args meth c cc nL RX10 R fr lo D ad cs sd A) (hP : va_P D clss (wld cs ad z) H) (d : decode cc pc = .ok (.getfield 113, 3)) (k : W p l e R s m args below meth c H locs cells slots Q (F0 m (pc + 3) ls (.int (gI z 56 13) :: rest))) : W p l e R s m args below meth c H locs cells slots Q (F0 m pc ls (.ref (ad 56) :: rest)) := u_get (C := RX10) (T := TX10) (N := 51) 10 56 X hP rfl rfl hin_X10 13 (Nat.le_of_ble_eq_true rfl) (tb_c5 (w := Cond.fieldLink "TillPairsModel" 113 "TillPairsModel" "tapeMany" "I") 92 rfl rfl) rfl rfl d k
set_option maxRecDepth 20000 in
theorem gf_X10_118_56 (X : UC p s m args meth c cc nL RX10 R fr lo D ad cs sd A) (hP : va_P D clss (wld cs ad z) H) (d : decode cc pc = .ok (.getfield 118, 3)) (k : W p l e R s m args below meth c H locs cells slots Q (F0 m (pc + 3) ls (.int (gI z 56 16) :: rest))) : W p l e R s m args below meth c H locs cells slots Q (F0 m pc ls (.ref (ad 56) :: rest)) := u_get (C := RX10) (T := TX10) (N := 51) 10 56 X hP rfl rfl hin_X10 16 (Nat.le_of_ble_eq_true rfl) (tb_c5 (w := Cond.fieldLink "TillPairsModel" 118 "TillPairsModel" "tokenEnds" "I") 95 rfl rfl) rfl rfl d k
set_option maxRecDepth 20000 in
theorem gf_X10_121_56 (X : UC p s m args meth c cc nL RX10 R fr lo D ad cs sd A) (hP : va_P D clss (wld cs ad z) H) (d : decode cc pc = .ok (.getfield 121, 3)) (k : W p l e R s m args below meth c H locs cells slots Q (F0 m (pc + 3) ls (.int (gI z 56 15) :: rest))) : W p l e R s m args below meth c H locs cells slots Q (F0 m pc ls (.ref (ad 56) :: rest)) := u_get (C := RX10) (T := TX10) (N := 51) 10 56 X hP rfl rfl hin_X10 15 (Nat.le_of_ble_eq_true rfl) (tb_c5 (w := Cond.fieldLink "TillPairsModel" 121 "TillPairsModel" "begins" "I") 94 rfl rfl) rfl rfl d k
set_option maxRecDepth 20000 in
theorem gf_X10_134_56 (X : UC p s m args meth c cc nL RX10 R fr lo D ad cs sd A) (hP : va_P D clss (wld cs ad z) H) (d : decode cc pc = .ok (.getfield 134, 3)) (k : W p l e R s m args below meth c H locs cells slots Q (F0 m (pc + 3) ls (.int (gI z 56 14) :: rest))) : W p l e R s m args below meth c H locs cells slots Q (F0 m pc ls (.ref (ad 56) :: rest)) := u_get (C := RX10) (T := TX10) (N := 51) 10 56 X hP rfl rfl hin_X10 14 (Nat.le_of_ble_eq_true rfl) (tb_c5 (w := Cond.fieldLink "TillPairsModel" 134 "TillPairsModel" "sort" "I") 93 rfl rfl) rfl rfl d k
set_option maxRecDepth 20000 in
theorem gf_X10_137_56 (X : UC p s m args meth c cc nL RX10 R fr lo D ad cs sd A) (hP : va_P D clss (wld cs ad z) H) (d : decode cc pc = .ok (.getfield 137, 3)) (k : W p l e R s m args below meth c H locs cells slots Q (F0 m (pc + 3) ls (.long (gJ z 56 17) :: rest))) : W p l e R s m args below meth c H locs cells slots Q (F0 m pc ls (.ref (ad 56) :: rest)) := u_get (C := RX10) (T := TX10) (N := 51) 10 56 X hP rfl rfl hin_X10 17 (Nat.le_of_ble_eq_true rfl) (tb_c5 (w := Cond.fieldLink "TillPairsModel" 137 "TillPairsModel" "word" "J") 96 rfl rfl) rfl rfl d k
set_option maxRecDepth 20000 in
theorem gf_X10_13_56 (X : UC p s m args meth c cc nL RX10 R fr lo D ad cs sd A) (hP : va_P D clss (wld cs ad z) H) (d : decode cc pc = .ok (.getfield 13, 3)) (k : W p l e R s m args below meth c H locs cells slots Q (F0 m (pc + 3) ls (.ref (ad 58) :: rest))) : W p l e R s m args below meth c H locs cells slots Q (F0 m pc ls (.ref (ad 56) :: rest)) := u_get (C := RX10) (T := TX10) (N := 51) 10 56 X hP rfl rfl hin_X10 2 (Nat.le_of_ble_eq_true rfl) (tb_c5 (w := Cond.fieldLink "TillPairsModel" 13 "TillPairsModel" "away" "[I") 81 rfl rfl) rfl rfl d k
set_option maxRecDepth 20000 in
theorem gf_X10_141_56 (X : UC p s m args meth c cc nL RX10 R fr lo D ad cs sd A) (hP : va_P D clss (wld cs ad z) H) (d : decode cc pc = .ok (.getfield 141, 3)) (k : W p l e R s m args below meth c H locs cells slots Q (F0 m (pc + 3) ls (.int (gI z 56 18) :: rest))) : W p l e R s m args below meth c H locs cells slots Q (F0 m pc ls (.ref (ad 56) :: rest)) := u_get (C := RX10) (T := TX10) (N := 51) 10 56 X hP rfl rfl hin_X10 18 (Nat.le_of_ble_eq_true rfl) (tb_c5 (w := Cond.fieldLink "TillPairsModel" 141 "TillPairsModel" "value" "I") 97 rfl rfl) rfl rfl d k
set_option maxRecDepth 20000 in
theorem gf_X10_16_56 (X : UC p s m args meth c cc nL RX10 R fr lo D ad cs sd A) (hP : va_P D clss (wld cs ad z) H) (d : decode cc pc = .ok (.getfield 16, 3)) (k : W p l e R s m args below meth c H locs cells slots Q (F0 m (pc + 3) ls (.ref (ad 59) :: rest))) : W p l e R s m args below meth c H locs cells slots Q (F0 m pc ls (.ref (ad 56) :: rest)) := u_get (C := RX10) (T := TX10) (N := 51) 10 56 X hP rfl rfl hin_X10 3 (Nat.le_of_ble_eq_true rfl) (tb_c5 (w := Cond.fieldLink "TillPairsModel" 16 "TillPairsModel" "first" "[I") 82 rfl rfl) rfl rfl d k
set_option maxRecDepth 20000 in
theorem gf_X10_170_56 (X : UC p s m args meth c cc nL RX10 R fr lo D ad cs sd A) (hP : va_P D clss (wld cs ad z) H) (d : decode cc pc = .ok (.getfield 170, 3)) (k : W p l e R s m args below meth c H locs cells slots Q (F0 m (pc + 3) ls (.int (gI z 56 19) :: rest))) : W p l e R s m args below meth c H locs cells slots Q (F0 m pc ls (.ref (ad 56) :: rest)) := u_get (C := RX10) (T := TX10) (N := 51) 10 56 X hP rfl rfl hin_X10 19 (Nat.le_of_ble_eq_true rfl) (tb_c5 (w := Cond.fieldLink "TillPairsModel" 170 "TillPairsModel" "good" "Z") 98 rfl rfl) rfl rfl d k
set_option maxRecDepth 20000 in
theorem gf_X10_180_56 (X : UC p s m args meth c cc nL RX10 R fr lo D ad cs sd A) (hP : va_P D clss (wld cs ad z) H) (d : decode cc pc = .ok (.getfield 180, 3)) (k : W p l e R s m args below meth c H locs cells slots Q (F0 m (pc + 3) ls (.int (gI z 56 20) :: rest))) : W p l e R s m args below meth c H locs cells slots Q (F0 m pc ls (.ref (ad 56) :: rest)) := u_get (C := RX10) (T := TX10) (N := 51) 10 56 X hP rfl rfl hin_X10 20 (Nat.le_of_ble_eq_true rfl) (tb_c5 (w := Cond.fieldLink "TillPairsModel" 180 "TillPairsModel" "freshPeople" "I") 99 rfl rfl) rfl rfl d k
set_option maxRecDepth 20000 in
theorem gf_X10_19_56 (X : UC p s m args meth c cc nL RX10 R fr lo D ad cs sd A) (hP : va_P D clss (wld cs ad z) H) (d : decode cc pc = .ok (.getfield 19, 3)) (k : W p l e R s m args below meth c H locs cells slots Q (F0 m (pc + 3) ls (.ref (ad 60) :: rest))) : W p l e R s m args below meth c H locs cells slots Q (F0 m pc ls (.ref (ad 56) :: rest)) := u_get (C := RX10) (T := TX10) (N := 51) 10 56 X hP rfl rfl hin_X10 4 (Nat.le_of_ble_eq_true rfl) (tb_c5 (w := Cond.fieldLink "TillPairsModel" 19 "TillPairsModel" "posts" "[I") 83 rfl rfl) rfl rfl d k
set_option maxRecDepth 20000 in
theorem gf_X10_220_56 (X : UC p s m args meth c cc nL RX10 R fr lo D ad cs sd A) (hP : va_P D clss (wld cs ad z) H) (d : decode cc pc = .ok (.getfield 220, 3)) (k : W p l e R s m args below meth c H locs cells slots Q (F0 m (pc + 3) ls (.int (gI z 56 5) :: rest))) : W p l e R s m args below meth c H locs cells slots Q (F0 m pc ls (.ref (ad 56) :: rest)) := u_get (C := RX10) (T := TX10) (N := 51) 10 56 X hP rfl rfl hin_X10 5 (Nat.le_of_ble_eq_true rfl) (tb_c5 (w := Cond.fieldLink "TillPairsModel" 220 "TillPairsModel" "surprises" "I") 84 rfl rfl) rfl rfl d k
set_option maxRecDepth 20000 in
theorem gf_X10_223_56 (X : UC p s m args meth c cc nL RX10 R fr lo D ad cs sd A) (hP : va_P D clss (wld cs ad z) H) (d : decode cc pc = .ok (.getfield 223, 3)) (k : W p l e R s m args below meth c H locs cells slots Q (F0 m (pc + 3) ls (.int (gI z 56 34) :: rest))) : W p l e R s m args below meth c H locs cells slots Q (F0 m pc ls (.ref (ad 56) :: rest)) := u_get (C := RX10) (T := TX10) (N := 51) 10 56 X hP rfl rfl hin_X10 34 (Nat.le_of_ble_eq_true rfl) (tb_c5 (w := Cond.fieldLink "TillPairsModel" 223 "TillPairsModel" "rowMany" "I") 113 rfl rfl) rfl rfl d k
set_option maxRecDepth 20000 in
theorem gf_X10_22_56 (X : UC p s m args meth c cc nL RX10 R fr lo D ad cs sd A) (hP : va_P D clss (wld cs ad z) H) (d : decode cc pc = .ok (.getfield 22, 3)) (k : W p l e R s m args below meth c H locs cells slots Q (F0 m (pc + 3) ls (.ref (ad 61) :: rest))) : W p l e R s m args below meth c H locs cells slots Q (F0 m pc ls (.ref (ad 56) :: rest)) := u_get (C := RX10) (T := TX10) (N := 51) 10 56 X hP rfl rfl hin_X10 6 (Nat.le_of_ble_eq_true rfl) (tb_c5 (w := Cond.fieldLink "TillPairsModel" 22 "TillPairsModel" "losses" "[I") 85 rfl rfl) rfl rfl d k
set_option maxRecDepth 20000 in
theorem gf_X10_25_56 (X : UC p s m args meth c cc nL RX10 R fr lo D ad cs sd A) (hP : va_P D clss (wld cs ad z) H) (d : decode cc pc = .ok (.getfield 25, 3)) (k : W p l e R s m args below meth c H locs cells slots Q (F0 m (pc + 3) ls (.ref (ad 62) :: rest))) : W p l e R s m args below meth c H locs cells slots Q (F0 m pc ls (.ref (ad 56) :: rest)) := u_get (C := RX10) (T := TX10) (N := 51) 10 56 X hP rfl rfl hin_X10 7 (Nat.le_of_ble_eq_true rfl) (tb_c5 (w := Cond.fieldLink "TillPairsModel" 25 "TillPairsModel" "laws" "[I") 86 rfl rfl) rfl rfl d k
set_option maxRecDepth 20000 in
theorem gf_X10_275_56 (X : UC p s m args meth c cc nL RX10 R fr lo D ad cs sd A) (hP : va_P D clss (wld cs ad z) H) (d : decode cc pc = .ok (.getfield 275, 3)) (k : W p l e R s m args below meth c H locs cells slots Q (F0 m (pc + 3) ls (.long (gJ z 56 25) :: rest))) : W p l e R s m args below meth c H locs cells slots Q (F0 m pc ls (.ref (ad 56) :: rest)) := u_get (C := RX10) (T := TX10) (N := 51) 10 56 X hP rfl rfl hin_X10 25 (Nat.le_of_ble_eq_true rfl) (tb_c5 (w := Cond.fieldLink "TillPairsModel" 275 "TillPairsModel" "above" "J") 104 rfl rfl) rfl rfl d k
set_option maxRecDepth 20000 in
theorem gf_X10_278_56 (X : UC p s m args meth c cc nL RX10 R fr lo D ad cs sd A) (hP : va_P D clss (wld cs ad z) H) (d : decode cc pc = .ok (.getfield 278, 3)) (k : W p l e R s m args below meth c H locs cells slots Q (F0 m (pc + 3) ls (.long (gJ z 56 26) :: rest))) : W p l e R s m args below meth c H locs cells slots Q (F0 m pc ls (.ref (ad 56) :: rest)) := u_get (C := RX10) (T := TX10) (N := 51) 10 56 X hP rfl rfl hin_X10 26 (Nat.le_of_ble_eq_true rfl) (tb_c5 (w := Cond.fieldLink "TillPairsModel" 278 "TillPairsModel" "below" "J") 105 rfl rfl) rfl rfl d k
set_option maxRecDepth 20000 in
theorem gf_X10_28_56 (X : UC p s m args meth c cc nL RX10 R fr lo D ad cs sd A) (hP : va_P D clss (wld cs ad z) H) (d : decode cc pc = .ok (.getfield 28, 3)) (k : W p l e R s m args below meth c H locs cells slots Q (F0 m (pc + 3) ls (.ref (ad 63) :: rest))) : W p l e R s m args below meth c H locs cells slots Q (F0 m pc ls (.ref (ad 56) :: rest)) := u_get (C := RX10) (T := TX10) (N := 51) 10 56 X hP rfl rfl hin_X10 8 (Nat.le_of_ble_eq_true rfl) (tb_c5 (w := Cond.fieldLink "TillPairsModel" 28 "TillPairsModel" "mostOf" "[I") 87 rfl rfl) rfl rfl d k
set_option maxRecDepth 20000 in
theorem gf_X10_315_56 (X : UC p s m args meth c cc nL RX10 R fr lo D ad cs sd A) (hP : va_P D clss (wld cs ad z) H) (d : decode cc pc = .ok (.getfield 315, 3)) (k : W p l e R s m args below meth c H locs cells slots Q (F0 m (pc + 3) ls (.int (gI z 56 9) :: rest))) : W p l e R s m args below meth c H locs cells slots Q (F0 m pc ls (.ref (ad 56) :: rest)) := u_get (C := RX10) (T := TX10) (N := 51) 10 56 X hP rfl rfl hin_X10 9 (Nat.le_of_ble_eq_true rfl) (tb_c5 (w := Cond.fieldLink "TillPairsModel" 315 "TillPairsModel" "plans" "I") 88 rfl rfl) rfl rfl d k
set_option maxRecDepth 20000 in
theorem gf_X10_31_56 (X : UC p s m args meth c cc nL RX10 R fr lo D ad cs sd A) (hP : va_P D clss (wld cs ad z) H) (d : decode cc pc = .ok (.getfield 31, 3)) (k : W p l e R s m args below meth c H locs cells slots Q (F0 m (pc + 3) ls (.ref (ad 64) :: rest))) : W p l e R s m args below meth c H locs cells slots Q (F0 m pc ls (.ref (ad 56) :: rest)) := u_get (C := RX10) (T := TX10) (N := 51) 10 56 X hP rfl rfl hin_X10 10 (Nat.le_of_ble_eq_true rfl) (tb_c5 (w := Cond.fieldLink "TillPairsModel" 31 "TillPairsModel" "plan" "[I") 89 rfl rfl) rfl rfl d k
set_option maxRecDepth 20000 in
theorem gf_X10_34_56 (X : UC p s m args meth c cc nL RX10 R fr lo D ad cs sd A) (hP : va_P D clss (wld cs ad z) H) (d : decode cc pc = .ok (.getfield 34, 3)) (k : W p l e R s m args below meth c H locs cells slots Q (F0 m (pc + 3) ls (.int (gI z 56 11) :: rest))) : W p l e R s m args below meth c H locs cells slots Q (F0 m pc ls (.ref (ad 56) :: rest)) := u_get (C := RX10) (T := TX10) (N := 51) 10 56 X hP rfl rfl hin_X10 11 (Nat.le_of_ble_eq_true rfl) (tb_c5 (w := Cond.fieldLink "TillPairsModel" 34 "TillPairsModel" "z" "I") 90 rfl rfl) rfl rfl d k
set_option maxRecDepth 20000 in
theorem gf_X10_362_56 (X : UC p s m args meth c cc nL RX10 R fr lo D ad cs sd A) (hP : va_P D clss (wld cs ad z) H) (d : decode cc pc = .ok (.getfield 362, 3)) (k : W p l e R s m args below meth c H locs cells slots Q (F0 m (pc + 3) ls (.int (gI z 56 45) :: rest))) : W p l e R s m args below meth c H locs cells slots Q (F0 m pc ls (.ref (ad 56) :: rest)) := u_get (C := RX10) (T := TX10) (N := 51) 10 56 X hP rfl rfl hin_X10 45 (Nat.le_of_ble_eq_true rfl) (tb_c5 (w := Cond.fieldLink "TillPairsModel" 362 "TillPairsModel" "bodies" "I") 124 rfl rfl) rfl rfl d k
set_option maxRecDepth 20000 in
theorem gf_X10_368_56 (X : UC p s m args meth c cc nL RX10 R fr lo D ad cs sd A) (hP : va_P D clss (wld cs ad z) H) (d : decode cc pc = .ok (.getfield 368, 3)) (k : W p l e R s m args below meth c H locs cells slots Q (F0 m (pc + 3) ls (.int (gI z 56 42) :: rest))) : W p l e R s m args below meth c H locs cells slots Q (F0 m pc ls (.ref (ad 56) :: rest)) := u_get (C := RX10) (T := TX10) (N := 51) 10 56 X hP rfl rfl hin_X10 42 (Nat.le_of_ble_eq_true rfl) (tb_c5 (w := Cond.fieldLink "TillPairsModel" 368 "TillPairsModel" "number" "I") 121 rfl rfl) rfl rfl d k
set_option maxRecDepth 20000 in
theorem gf_X10_371_56 (X : UC p s m args meth c cc nL RX10 R fr lo D ad cs sd A) (hP : va_P D clss (wld cs ad z) H) (d : decode cc pc = .ok (.getfield 371, 3)) (k : W p l e R s m args below meth c H locs cells slots Q (F0 m (pc + 3) ls (.int (gI z 56 41) :: rest))) : W p l e R s m args below meth c H locs cells slots Q (F0 m pc ls (.ref (ad 56) :: rest)) := u_get (C := RX10) (T := TX10) (N := 51) 10 56 X hP rfl rfl hin_X10 41 (Nat.le_of_ble_eq_true rfl) (tb_c5 (w := Cond.fieldLink "TillPairsModel" 371 "TillPairsModel" "kind" "I") 120 rfl rfl) rfl rfl d k
set_option maxRecDepth 20000 in
theorem gf_X10_383_56 (X : UC p s m args meth c cc nL RX10 R fr lo D ad cs sd A) (hP : va_P D clss (wld cs ad z) H) (d : decode cc pc = .ok (.getfield 383, 3)) (k : W p l e R s m args below meth c H locs cells slots Q (F0 m (pc + 3) ls (.int (gI z 56 43) :: rest))) : W p l e R s m args below meth c H locs cells slots Q (F0 m pc ls (.ref (ad 56) :: rest)) := u_get (C := RX10) (T := TX10) (N := 51) 10 56 X hP rfl rfl hin_X10 43 (Nat.le_of_ble_eq_true rfl) (tb_c5 (w := Cond.fieldLink "TillPairsModel" 383 "TillPairsModel" "own" "I") 122 rfl rfl) rfl rfl d k
set_option maxRecDepth 20000 in
theorem gf_X10_389_56 (X : UC p s m args meth c cc nL RX10 R fr lo D ad cs sd A) (hP : va_P D clss (wld cs ad z) H) (d : decode cc pc = .ok (.getfield 389, 3)) (k : W p l e R s m args below meth c H locs cells slots Q (F0 m (pc + 3) ls (.int (gI z 56 46) :: rest))) : W p l e R s m args below meth c H locs cells slots Q (F0 m pc ls (.ref (ad 56) :: rest)) := u_get (C := RX10) (T := TX10) (N := 51) 10 56 X hP rfl rfl hin_X10 46 (Nat.le_of_ble_eq_true rfl) (tb_c5 (w := Cond.fieldLink "TillPairsModel" 389 "TillPairsModel" "isParted" "Z") 125 rfl rfl) rfl rfl d k
set_option maxRecDepth 20000 in
theorem gf_X10_38_56 (X : UC p s m args meth c cc nL RX10 R fr lo D ad cs sd A) (hP : va_P D clss (wld cs ad z) H) (d : decode cc pc = .ok (.getfield 38, 3)) (k : W p l e R s m args below meth c H locs cells slots Q (F0 m (pc + 3) ls (.ref (ad 65) :: rest))) : W p l e R s m args below meth c H locs cells slots Q (F0 m pc ls (.ref (ad 56) :: rest)) := u_get (C := RX10) (T := TX10) (N := 51) 10 56 X hP rfl rfl hin_X10 12 (Nat.le_of_ble_eq_true rfl) (tb_c5 (w := Cond.fieldLink "TillPairsModel" 38 "TillPairsModel" "tape" "[I") 91 rfl rfl) rfl rfl d k
set_option maxRecDepth 20000 in
theorem gf_X10_407_56 (X : UC p s m args meth c cc nL RX10 R fr lo D ad cs sd A) (hP : va_P D clss (wld cs ad z) H) (d : decode cc pc = .ok (.getfield 407, 3)) (k : W p l e R s m args below meth c H locs cells slots Q (F0 m (pc + 3) ls (.int (gI z 56 49) :: rest))) : W p l e R s m args below meth c H locs cells slots Q (F0 m pc ls (.ref (ad 56) :: rest)) := u_get (C := RX10) (T := TX10) (N := 51) 10 56 X hP rfl rfl hin_X10 49 (Nat.le_of_ble_eq_true rfl) (tb_c5 (w := Cond.fieldLink "TillPairsModel" 407 "TillPairsModel" "movedTo" "I") 128 rfl rfl) rfl rfl d k
set_option maxRecDepth 20000 in
theorem gf_X10_417_56 (X : UC p s m args meth c cc nL RX10 R fr lo D ad cs sd A) (hP : va_P D clss (wld cs ad z) H) (d : decode cc pc = .ok (.getfield 417, 3)) (k : W p l e R s m args below meth c H locs cells slots Q (F0 m (pc + 3) ls (.int (gI z 56 47) :: rest))) : W p l e R s m args below meth c H locs cells slots Q (F0 m pc ls (.ref (ad 56) :: rest)) := u_get (C := RX10) (T := TX10) (N := 51) 10 56 X hP rfl rfl hin_X10 47 (Nat.le_of_ble_eq_true rfl) (tb_c5 (w := Cond.fieldLink "TillPairsModel" 417 "TillPairsModel" "isKept" "Z") 126 rfl rfl) rfl rfl d k
set_option maxRecDepth 20000 in
theorem gf_X10_41_56 (X : UC p s m args meth c cc nL RX10 R fr lo D ad cs sd A) (hP : va_P D clss (wld cs ad z) H) (d : decode cc pc = .ok (.getfield 41, 3)) (k : W p l e R s m args below meth c H locs cells slots Q (F0 m (pc + 3) ls (.ref (ad 66) :: rest))) : W p l e R s m args below meth c H locs cells slots Q (F0 m pc ls (.ref (ad 56) :: rest)) := u_get (C := RX10) (T := TX10) (N := 51) 10 56 X hP rfl rfl hin_X10 21 (Nat.le_of_ble_eq_true rfl) (tb_c5 (w := Cond.fieldLink "TillPairsModel" 41 "TillPairsModel" "freshKin" "[I") 100 rfl rfl) rfl rfl d k
set_option maxRecDepth 20000 in
theorem gf_X10_44_56 (X : UC p s m args meth c cc nL RX10 R fr lo D ad cs sd A) (hP : va_P D clss (wld cs ad z) H) (d : decode cc pc = .ok (.getfield 44, 3)) (k : W p l e R s m args below meth c H locs cells slots Q (F0 m (pc + 3) ls (.ref (ad 67) :: rest))) : W p l e R s m args below meth c H locs cells slots Q (F0 m pc ls (.ref (ad 56) :: rest)) := u_get (C := RX10) (T := TX10) (N := 51) 10 56 X hP rfl rfl hin_X10 22 (Nat.le_of_ble_eq_true rfl) (tb_c5 (w := Cond.fieldLink "TillPairsModel" 44 "TillPairsModel" "freshAway" "[I") 101 rfl rfl) rfl rfl d k
set_option maxRecDepth 20000 in
theorem gf_X10_47_56 (X : UC p s m args meth c cc nL RX10 R fr lo D ad cs sd A) (hP : va_P D clss (wld cs ad z) H) (d : decode cc pc = .ok (.getfield 47, 3)) (k : W p l e R s m args below meth c H locs cells slots Q (F0 m (pc + 3) ls (.ref (ad 68) :: rest))) : W p l e R s m args below meth c H locs cells slots Q (F0 m pc ls (.ref (ad 56) :: rest)) := u_get (C := RX10) (T := TX10) (N := 51) 10 56 X hP rfl rfl hin_X10 23 (Nat.le_of_ble_eq_true rfl) (tb_c5 (w := Cond.fieldLink "TillPairsModel" 47 "TillPairsModel" "freshFirst" "[I") 102 rfl rfl) rfl rfl d k
set_option maxRecDepth 20000 in
theorem gf_X10_50_56 (X : UC p s m args meth c cc nL RX10 R fr lo D ad cs sd A) (hP : va_P D clss (wld cs ad z) H) (d : decode cc pc = .ok (.getfield 50, 3)) (k : W p l e R s m args below meth c H locs cells slots Q (F0 m (pc + 3) ls (.ref (ad 69) :: rest))) : W p l e R s m args below meth c H locs cells slots Q (F0 m pc ls (.ref (ad 56) :: rest)) := u_get (C := RX10) (T := TX10) (N := 51) 10 56 X hP rfl rfl hin_X10 24 (Nat.le_of_ble_eq_true rfl) (tb_c5 (w := Cond.fieldLink "TillPairsModel" 50 "TillPairsModel" "freshLaws" "[I") 103 rfl rfl) rfl rfl d k
set_option maxRecDepth 20000 in
theorem gf_X10_53_56 (X : UC p s m args meth c cc nL RX10 R fr lo D ad cs sd A) (hP : va_P D clss (wld cs ad z) H) (d : decode cc pc = .ok (.getfield 53, 3)) (k : W p l e R s m args below meth c H locs cells slots Q (F0 m (pc + 3) ls (.ref (ad 70) :: rest))) : W p l e R s m args below meth c H locs cells slots Q (F0 m pc ls (.ref (ad 56) :: rest)) := u_get (C := RX10) (T := TX10) (N := 51) 10 56 X hP rfl rfl hin_X10 27 (Nat.le_of_ble_eq_true rfl) (tb_c5 (w := Cond.fieldLink "TillPairsModel" 53 "TillPairsModel" "had" "[I") 106 rfl rfl) rfl rfl d k
set_option maxRecDepth 20000 in
theorem gf_X10_56_56 (X : UC p s m args meth c cc nL RX10 R fr lo D ad cs sd A) (hP : va_P D clss (wld cs ad z) H) (d : decode cc pc = .ok (.getfield 56, 3)) (k : W p l e R s m args below meth c H locs cells slots Q (F0 m (pc + 3) ls (.ref (ad 71) :: rest))) : W p l e R s m args below meth c H locs cells slots Q (F0 m pc ls (.ref (ad 56) :: rest)) := u_get (C := RX10) (T := TX10) (N := 51) 10 56 X hP rfl rfl hin_X10 28 (Nat.le_of_ble_eq_true rfl) (tb_c5 (w := Cond.fieldLink "TillPairsModel" 56 "TillPairsModel" "bestWay" "[I") 107 rfl rfl) rfl rfl d k
set_option maxRecDepth 20000 in
theorem gf_X10_59_56 (X : UC p s m args meth c cc nL RX10 R fr lo D ad cs sd A) (hP : va_P D clss (wld cs ad z) H) (d : decode cc pc = .ok (.getfield 59, 3)) (k : W p l e R s m args below meth c H locs cells slots Q (F0 m (pc + 3) ls (.ref (ad 72) :: rest))) : W p l e R s m args below meth c H locs cells slots Q (F0 m pc ls (.ref (ad 56) :: rest)) := u_get (C := RX10) (T := TX10) (N := 51) 10 56 X hP rfl rfl hin_X10 29 (Nat.le_of_ble_eq_true rfl) (tb_c5 (w := Cond.fieldLink "TillPairsModel" 59 "TillPairsModel" "place" "[I") 108 rfl rfl) rfl rfl d k
set_option maxRecDepth 20000 in
theorem gf_X10_62_56 (X : UC p s m args meth c cc nL RX10 R fr lo D ad cs sd A) (hP : va_P D clss (wld cs ad z) H) (d : decode cc pc = .ok (.getfield 62, 3)) (k : W p l e R s m args below meth c H locs cells slots Q (F0 m (pc + 3) ls (.ref (ad 73) :: rest))) : W p l e R s m args below meth c H locs cells slots Q (F0 m pc ls (.ref (ad 56) :: rest)) := u_get (C := RX10) (T := TX10) (N := 51) 10 56 X hP rfl rfl hin_X10 30 (Nat.le_of_ble_eq_true rfl) (tb_c5 (w := Cond.fieldLink "TillPairsModel" 62 "TillPairsModel" "often" "[J") 109 rfl rfl) rfl rfl d k
set_option maxRecDepth 20000 in
theorem gf_X10_66_56 (X : UC p s m args meth c cc nL RX10 R fr lo D ad cs sd A) (hP : va_P D clss (wld cs ad z) H) (d : decode cc pc = .ok (.getfield 66, 3)) (k : W p l e R s m args below meth c H locs cells slots Q (F0 m (pc + 3) ls (.ref (ad 74) :: rest))) : W p l e R s m args below meth c H locs cells slots Q (F0 m pc ls (.ref (ad 56) :: rest)) := u_get (C := RX10) (T := TX10) (N := 51) 10 56 X hP rfl rfl hin_X10 31 (Nat.le_of_ble_eq_true rfl) (tb_c5 (w := Cond.fieldLink "TillPairsModel" 66 "TillPairsModel" "way" "[I") 110 rfl rfl) rfl rfl d k
set_option maxRecDepth 20000 in
theorem gf_X10_69_56 (X : UC p s m args meth c cc nL RX10 R fr lo D ad cs sd A) (hP : va_P D clss (wld cs ad z) H) (d : decode cc pc = .ok (.getfield 69, 3)) (k : W p l e R s m args below meth c H locs cells slots Q (F0 m (pc + 3) ls (.ref (ad 75) :: rest))) : W p l e R s m args below meth c H locs cells slots Q (F0 m pc ls (.ref (ad 56) :: rest)) := u_get (C := RX10) (T := TX10) (N := 51) 10 56 X hP rfl rfl hin_X10 32 (Nat.le_of_ble_eq_true rfl) (tb_c5 (w := Cond.fieldLink "TillPairsModel" 69 "TillPairsModel" "rows" "[I") 111 rfl rfl) rfl rfl d k
set_option maxRecDepth 20000 in
theorem gf_X10_72_56 (X : UC p s m args meth c cc nL RX10 R fr lo D ad cs sd A) (hP : va_P D clss (wld cs ad z) H) (d : decode cc pc = .ok (.getfield 72, 3)) (k : W p l e R s m args below meth c H locs cells slots Q (F0 m (pc + 3) ls (.ref (ad 76) :: rest))) : W p l e R s m args below meth c H locs cells slots Q (F0 m pc ls (.ref (ad 56) :: rest)) := u_get (C := RX10) (T := TX10) (N := 51) 10 56 X hP rfl rfl hin_X10 33 (Nat.le_of_ble_eq_true rfl) (tb_c5 (w := Cond.fieldLink "TillPairsModel" 72 "TillPairsModel" "must" "[I") 112 rfl rfl) rfl rfl d k
set_option maxRecDepth 20000 in
theorem gf_X10_75_56 (X : UC p s m args meth c cc nL RX10 R fr lo D ad cs sd A) (hP : va_P D clss (wld cs ad z) H) (d : decode cc pc = .ok (.getfield 75, 3)) (k : W p l e R s m args below meth c H locs cells slots Q (F0 m (pc + 3) ls (.ref (ad 77) :: rest))) : W p l e R s m args below meth c H locs cells slots Q (F0 m pc ls (.ref (ad 56) :: rest)) := u_get (C := RX10) (T := TX10) (N := 51) 10 56 X hP rfl rfl hin_X10 35 (Nat.le_of_ble_eq_true rfl) (tb_c5 (w := Cond.fieldLink "TillPairsModel" 75 "TillPairsModel" "sorts" "[I") 114 rfl rfl) rfl rfl d k
set_option maxRecDepth 20000 in
theorem gf_X10_78_56 (X : UC p s m args meth c cc nL RX10 R fr lo D ad cs sd A) (hP : va_P D clss (wld cs ad z) H) (d : decode cc pc = .ok (.getfield 78, 3)) (k : W p l e R s m args below meth c H locs cells slots Q (F0 m (pc + 3) ls (.ref (ad 78) :: rest))) : W p l e R s m args below meth c H locs cells slots Q (F0 m pc ls (.ref (ad 56) :: rest)) := u_get (C := RX10) (T := TX10) (N := 51) 10 56 X hP rfl rfl hin_X10 36 (Nat.le_of_ble_eq_true rfl) (tb_c5 (w := Cond.fieldLink "TillPairsModel" 78 "TillPairsModel" "sizes" "[I") 115 rfl rfl) rfl rfl d k
set_option maxRecDepth 20000 in
theorem gf_X10_7_56 (X : UC p s m args meth c cc nL RX10 R fr lo D ad cs sd A) (hP : va_P D clss (wld cs ad z) H) (d : decode cc pc = .ok (.getfield 7, 3)) (k : W p l e R s m args below meth c H locs cells slots Q (F0 m (pc + 3) ls (.ref (ad 57) :: rest))) : W p l e R s m args below meth c H locs cells slots Q (F0 m pc ls (.ref (ad 56) :: rest)) := u_get (C := RX10) (T := TX10) (N := 51) 10 56 X hP rfl rfl hin_X10 1 (Nat.le_of_ble_eq_true rfl) (tb_c5 (w := Cond.fieldLink "TillPairsModel" 7 "TillPairsModel" "kin" "[I") 80 rfl rfl) rfl rfl d k
set_option maxRecDepth 20000 in
theorem gf_X10_81_56 (X : UC p s m args meth c cc nL RX10 R fr lo D ad cs sd A) (hP : va_P D clss (wld cs ad z) H) (d : decode cc pc = .ok (.getfield 81, 3)) (k : W p l e R s m args below meth c H locs cells slots Q (F0 m (pc + 3) ls (.ref (ad 79) :: rest))) : W p l e R s m args below meth c H locs cells slots Q (F0 m pc ls (.ref (ad 56) :: rest)) := u_get (C := RX10) (T := TX10) (N := 51) 10 56 X hP rfl rfl hin_X10 37 (Nat.le_of_ble_eq_true rfl) (tb_c5 (w := Cond.fieldLink "TillPairsModel" 81 "TillPairsModel" "sheets" "[J") 116 rfl rfl) rfl rfl d k
set_option maxRecDepth 20000 in
theorem gf_X10_84_56 (X : UC p s m args meth c cc nL RX10 R fr lo D ad cs sd A) (hP : va_P D clss (wld cs ad z) H) (d : decode cc pc = .ok (.getfield 84, 3)) (k : W p l e R s m args below meth c H locs cells slots Q (F0 m (pc + 3) ls (.ref (ad 80) :: rest))) : W p l e R s m args below meth c H locs cells slots Q (F0 m pc ls (.ref (ad 56) :: rest)) := u_get (C := RX10) (T := TX10) (N := 51) 10 56 X hP rfl rfl hin_X10 38 (Nat.le_of_ble_eq_true rfl) (tb_c5 (w := Cond.fieldLink "TillPairsModel" 84 "TillPairsModel" "held" "[I") 117 rfl rfl) rfl rfl d k
set_option maxRecDepth 20000 in
theorem gf_X10_87_56 (X : UC p s m args meth c cc nL RX10 R fr lo D ad cs sd A) (hP : va_P D clss (wld cs ad z) H) (d : decode cc pc = .ok (.getfield 87, 3)) (k : W p l e R s m args below meth c H locs cells slots Q (F0 m (pc + 3) ls (.ref (ad 81) :: rest))) : W p l e R s m args below meth c H locs cells slots Q (F0 m pc ls (.ref (ad 56) :: rest)) := u_get (C := RX10) (T := TX10) (N := 51) 10 56 X hP rfl rfl hin_X10 39 (Nat.le_of_ble_eq_true rfl) (tb_c5 (w := Cond.fieldLink "TillPairsModel" 87 "TillPairsModel" "heldNumber" "[I") 118 rfl rfl) rfl rfl d k
set_option maxRecDepth 20000 in
theorem gf_X10_90_56 (X : UC p s m args meth c cc nL RX10 R fr lo D ad cs sd A) (hP : va_P D clss (wld cs ad z) H) (d : decode cc pc = .ok (.getfield 90, 3)) (k : W p l e R s m args below meth c H locs cells slots Q (F0 m (pc + 3) ls (.ref (ad 82) :: rest))) : W p l e R s m args below meth c H locs cells slots Q (F0 m pc ls (.ref (ad 56) :: rest)) := u_get (C := RX10) (T := TX10) (N := 51) 10 56 X hP rfl rfl hin_X10 40 (Nat.le_of_ble_eq_true rfl) (tb_c5 (w := Cond.fieldLink "TillPairsModel" 90 "TillPairsModel" "heldSize" "[I") 119 rfl rfl) rfl rfl d k
set_option maxRecDepth 20000 in
theorem gf_X10_93_56 (X : UC p s m args meth c cc nL RX10 R fr lo D ad cs sd A) (hP : va_P D clss (wld cs ad z) H) (d : decode cc pc = .ok (.getfield 93, 3)) (k : W p l e R s m args below meth c H locs cells slots Q (F0 m (pc + 3) ls (.ref (ad 83) :: rest))) : W p l e R s m args below meth c H locs cells slots Q (F0 m pc ls (.ref (ad 56) :: rest)) := u_get (C := RX10) (T := TX10) (N := 51) 10 56 X hP rfl rfl hin_X10 44 (Nat.le_of_ble_eq_true rfl) (tb_c5 (w := Cond.fieldLink "TillPairsModel" 93 "TillPairsModel" "traced" "[I") 123 rfl rfl) rfl rfl d k
set_option maxRecDepth 20000 in
theorem gf_X10_96_56 (X : UC p s m args meth c cc nL RX10 R fr lo D ad cs sd A) (hP : va_P D clss (wld cs ad z) H) (d : decode cc pc = .ok (.getfield 96, 3)) (k : W p l e R s m args below meth c H locs cells slots Q (F0 m (pc + 3) ls (.ref (ad 84) :: rest))) : W p l e R s m args below meth c H locs cells slots Q (F0 m pc ls (.ref (ad 56) :: rest)) := u_get (C := RX10) (T := TX10) (N := 51) 10 56 X hP rfl rfl hin_X10 48 (Nat.le_of_ble_eq_true rfl) (tb_c5 (w := Cond.fieldLink "TillPairsModel" 96 "TillPairsModel" "kept" "[I") 127 rfl rfl) rfl rfl d k
set_option maxRecDepth 20000 in
theorem gf_X10_99_56 (X : UC p s m args meth c cc nL RX10 R fr lo D ad cs sd A) (hP : va_P D clss (wld cs ad z) H) (d : decode cc pc = .ok (.getfield 99, 3)) (k : W p l e R s m args below meth c H locs cells slots Q (F0 m (pc + 3) ls (.ref (ad 85) :: rest))) : W p l e R s m args below meth c H locs cells slots Q (F0 m pc ls (.ref (ad 56) :: rest)) := u_get (C := RX10) (T := TX10) (N := 51) 10 56 X hP rfl rfl hin_X10 50 (Nat.le_of_ble_eq_true rfl) (tb_c5 (w := Cond.fieldLink "TillPairsModel" 99 "TillPairsModel" "single" "[I") 129 rfl rfl) rfl rfl d k
set_option maxRecDepth 20000 in
theorem gf_X1_13_34 (X : UC p s m args meth c cc nL RX1 R fr lo D ad cs sd A) (hP : va_P D clss (wld cs ad z) H) (d : decode cc pc = .ok (.getfield 13, 3)) (k : W p l e R s m args below meth c H locs cells slots Q (F0 m (pc + 3) ls (.ref (ad 36) :: rest))) : W p l e R s m args below meth c H locs cells slots Q (F0 m pc ls (.ref (ad 34) :: rest)) := u_get (C := RX1) (T := TX1) (N := 6) 1 34 X hP rfl rfl hin_X1 1 (Nat.le_of_ble_eq_true rfl) (tb_c2 (w := Cond.fieldLink "TillPairs$Host" 13 "TillPairs$Host" "lengths" "[I") 16 rfl rfl) rfl rfl d k
set_option maxRecDepth 20000 in
theorem gf_X1_18_34 (X : UC p s m args meth c cc nL RX1 R fr lo D ad cs sd A) (hP : va_P D clss (wld cs ad z) H) (d : decode cc pc = .ok (.getfield 18, 3)) (k : W p l e R s m args below meth c H locs cells slots Q (F0 m (pc + 3) ls (.ref (ad 37) :: rest))) : W p l e R s m args below meth c H locs cells slots Q (F0 m pc ls (.ref (ad 34) :: rest)) := u_get (C := RX1) (T := TX1) (N := 6) 1 34 X hP rfl rfl hin_X1 2 (Nat.le_of_ble_eq_true rfl) (tb_c2 (w := Cond.fieldLink "TillPairs$Host" 18 "TillPairs$Host" "items" "[[I") 18 rfl rfl) rfl rfl d k
set_option maxRecDepth 20000 in
theorem gf_X1_21_34 (X : UC p s m args meth c cc nL RX1 R fr lo D ad cs sd A) (hP : va_P D clss (wld cs ad z) H) (d : decode cc pc = .ok (.getfield 21, 3)) (k : W p l e R s m args below meth c H locs cells slots Q (F0 m (pc + 3) ls (.ref (ad 42) :: rest))) : W p l e R s m args below meth c H locs cells slots Q (F0 m pc ls (.ref (ad 34) :: rest)) := u_get (C := RX1) (T := TX1) (N := 6) 1 34 X hP rfl rfl hin_X1 3 (Nat.le_of_ble_eq_true rfl) (tb_c2 (w := Cond.fieldLink "TillPairs$Host" 21 "TillPairs$Host" "heldWhat" "[I") 20 rfl rfl) rfl rfl d k
set_option maxRecDepth 20000 in
theorem gf_X1_24_34 (X : UC p s m args meth c cc nL RX1 R fr lo D ad cs sd A) (hP : va_P D clss (wld cs ad z) H) (d : decode cc pc = .ok (.getfield 24, 3)) (k : W p l e R s m args below meth c H locs cells slots Q (F0 m (pc + 3) ls (.ref (ad 43) :: rest))) : W p l e R s m args below meth c H locs cells slots Q (F0 m pc ls (.ref (ad 34) :: rest)) := u_get (C := RX1) (T := TX1) (N := 6) 1 34 X hP rfl rfl hin_X1 4 (Nat.le_of_ble_eq_true rfl) (tb_c2 (w := Cond.fieldLink "TillPairs$Host" 24 "TillPairs$Host" "heldSort" "[I") 21 rfl rfl) rfl rfl d k
set_option maxRecDepth 20000 in
theorem gf_X1_27_34 (X : UC p s m args meth c cc nL RX1 R fr lo D ad cs sd A) (hP : va_P D clss (wld cs ad z) H) (d : decode cc pc = .ok (.getfield 27, 3)) (k : W p l e R s m args below meth c H locs cells slots Q (F0 m (pc + 3) ls (.ref (ad 44) :: rest))) : W p l e R s m args below meth c H locs cells slots Q (F0 m pc ls (.ref (ad 34) :: rest)) := u_get (C := RX1) (T := TX1) (N := 6) 1 34 X hP rfl rfl hin_X1 5 (Nat.le_of_ble_eq_true rfl) (tb_c2 (w := Cond.fieldLink "TillPairs$Host" 27 "TillPairs$Host" "held" "[I") 23 rfl rfl) rfl rfl d k
set_option maxRecDepth 20000 in
theorem gf_X1_9_34 (X : UC p s m args meth c cc nL RX1 R fr lo D ad cs sd A) (hP : va_P D clss (wld cs ad z) H) (d : decode cc pc = .ok (.getfield 9, 3)) (k : W p l e R s m args below meth c H locs cells slots Q (F0 m (pc + 3) ls (.ref (ad 35) :: rest))) : W p l e R s m args below meth c H locs cells slots Q (F0 m pc ls (.ref (ad 34) :: rest)) := u_get (C := RX1) (T := TX1) (N := 6) 1 34 X hP rfl rfl hin_X1 0 (Nat.le_of_ble_eq_true rfl) (tb_c2 (w := Cond.fieldLink "TillPairs$Host" 9 "TillPairs$Host" "sorts" "[I") 14 rfl rfl) rfl rfl d k
set_option maxRecDepth 20000 in
theorem gf_X2_15_1 (X : UC p s m args meth c cc nL RX2 R fr lo D ad cs sd A) (hP : va_P D clss (wld cs ad z) H) (d : decode cc pc = .ok (.getfield 15, 3)) (k : W p l e R s m args below meth c H locs cells slots Q (F0 m (pc + 3) ls (.int (gI z 1 1) :: rest))) : W p l e R s m args below meth c H locs cells slots Q (F0 m pc ls (.ref (ad 1) :: rest)) := u_get (C := RX2) (T := TX2) (N := 8) 2 1 X hP rfl rfl hin_X2 1 (Nat.le_of_ble_eq_true rfl) (tb_c1 (w := Cond.fieldLink "TillPairs$House" 15 "TillPairs$House" "surprises" "I") 48 rfl rfl) rfl rfl d k
set_option maxRecDepth 20000 in
theorem gf_X2_15_10 (X : UC p s m args meth c cc nL RX2 R fr lo D ad cs sd A) (hP : va_P D clss (wld cs ad z) H) (d : decode cc pc = .ok (.getfield 15, 3)) (k : W p l e R s m args below meth c H locs cells slots Q (F0 m (pc + 3) ls (.int (gI z 10 1) :: rest))) : W p l e R s m args below meth c H locs cells slots Q (F0 m pc ls (.ref (ad 10) :: rest)) := u_get (C := RX2) (T := TX2) (N := 8) 2 10 X hP rfl rfl hin_X2 1 (Nat.le_of_ble_eq_true rfl) (tb_c1 (w := Cond.fieldLink "TillPairs$House" 15 "TillPairs$House" "surprises" "I") 48 rfl rfl) rfl rfl d k
set_option maxRecDepth 20000 in
theorem gf_X2_15_45 (X : UC p s m args meth c cc nL RX2 R fr lo D ad cs sd A) (hP : va_P D clss (wld cs ad z) H) (d : decode cc pc = .ok (.getfield 15, 3)) (k : W p l e R s m args below meth c H locs cells slots Q (F0 m (pc + 3) ls (.int (gI z 45 1) :: rest))) : W p l e R s m args below meth c H locs cells slots Q (F0 m pc ls (.ref (ad 45) :: rest)) := u_get (C := RX2) (T := TX2) (N := 8) 2 45 X hP rfl rfl hin_X2 1 (Nat.le_of_ble_eq_true rfl) (tb_c1 (w := Cond.fieldLink "TillPairs$House" 15 "TillPairs$House" "surprises" "I") 48 rfl rfl) rfl rfl d k
set_option maxRecDepth 20000 in
theorem gf_X2_18_1 (X : UC p s m args meth c cc nL RX2 R fr lo D ad cs sd A) (hP : va_P D clss (wld cs ad z) H) (d : decode cc pc = .ok (.getfield 18, 3)) (k : W p l e R s m args below meth c H locs cells slots Q (F0 m (pc + 3) ls (.ref (ad 2) :: rest))) : W p l e R s m args below meth c H locs cells slots Q (F0 m pc ls (.ref (ad 1) :: rest)) := u_get (C := RX2) (T := TX2) (N := 8) 2 1 X hP rfl rfl hin_X2 2 (Nat.le_of_ble_eq_true rfl) (tb_c1 (w := Cond.fieldLink "TillPairs$House" 18 "TillPairs$House" "kinOf" "[I") 49 rfl rfl) rfl rfl d k
set_option maxRecDepth 20000 in
theorem gf_X2_18_10 (X : UC p s m args meth c cc nL RX2 R fr lo D ad cs sd A) (hP : va_P D clss (wld cs ad z) H) (d : decode cc pc = .ok (.getfield 18, 3)) (k : W p l e R s m args below meth c H locs cells slots Q (F0 m (pc + 3) ls (.ref (ad 11) :: rest))) : W p l e R s m args below meth c H locs cells slots Q (F0 m pc ls (.ref (ad 10) :: rest)) := u_get (C := RX2) (T := TX2) (N := 8) 2 10 X hP rfl rfl hin_X2 2 (Nat.le_of_ble_eq_true rfl) (tb_c1 (w := Cond.fieldLink "TillPairs$House" 18 "TillPairs$House" "kinOf" "[I") 49 rfl rfl) rfl rfl d k
set_option maxRecDepth 20000 in
theorem gf_X2_18_45 (X : UC p s m args meth c cc nL RX2 R fr lo D ad cs sd A) (hP : va_P D clss (wld cs ad z) H) (d : decode cc pc = .ok (.getfield 18, 3)) (k : W p l e R s m args below meth c H locs cells slots Q (F0 m (pc + 3) ls (.ref (ad 46) :: rest))) : W p l e R s m args below meth c H locs cells slots Q (F0 m pc ls (.ref (ad 45) :: rest)) := u_get (C := RX2) (T := TX2) (N := 8) 2 45 X hP rfl rfl hin_X2 2 (Nat.le_of_ble_eq_true rfl) (tb_c1 (w := Cond.fieldLink "TillPairs$House" 18 "TillPairs$House" "kinOf" "[I") 49 rfl rfl) rfl rfl d k
set_option maxRecDepth 20000 in
theorem gf_X2_22_1 (X : UC p s m args meth c cc nL RX2 R fr lo D ad cs sd A) (hP : va_P D clss (wld cs ad z) H) (d : decode cc pc = .ok (.getfield 22, 3)) (k : W p l e R s m args below meth c H locs cells slots Q (F0 m (pc + 3) ls (.ref (ad 3) :: rest))) : W p l e R s m args below meth c H locs cells slots Q (F0 m pc ls (.ref (ad 1) :: rest)) := u_get (C := RX2) (T := TX2) (N := 8) 2 1 X hP rfl rfl hin_X2 3 (Nat.le_of_ble_eq_true rfl) (tb_c1 (w := Cond.fieldLink "TillPairs$House" 22 "TillPairs$House" "awayOn" "[I") 52 rfl rfl) rfl rfl d k
set_option maxRecDepth 20000 in
theorem gf_X2_22_10 (X : UC p s m args meth c cc nL RX2 R fr lo D ad cs sd A) (hP : va_P D clss (wld cs ad z) H) (d : decode cc pc = .ok (.getfield 22, 3)) (k : W p l e R s m args below meth c H locs cells slots Q (F0 m (pc + 3) ls (.ref (ad 12) :: rest))) : W p l e R s m args below meth c H locs cells slots Q (F0 m pc ls (.ref (ad 10) :: rest)) := u_get (C := RX2) (T := TX2) (N := 8) 2 10 X hP rfl rfl hin_X2 3 (Nat.le_of_ble_eq_true rfl) (tb_c1 (w := Cond.fieldLink "TillPairs$House" 22 "TillPairs$House" "awayOn" "[I") 52 rfl rfl) rfl rfl d k
set_option maxRecDepth 20000 in
theorem gf_X2_22_45 (X : UC p s m args meth c cc nL RX2 R fr lo D ad cs sd A) (hP : va_P D clss (wld cs ad z) H) (d : decode cc pc = .ok (.getfield 22, 3)) (k : W p l e R s m args below meth c H locs cells slots Q (F0 m (pc + 3) ls (.ref (ad 47) :: rest))) : W p l e R s m args below meth c H locs cells slots Q (F0 m pc ls (.ref (ad 45) :: rest)) := u_get (C := RX2) (T := TX2) (N := 8) 2 45 X hP rfl rfl hin_X2 3 (Nat.le_of_ble_eq_true rfl) (tb_c1 (w := Cond.fieldLink "TillPairs$House" 22 "TillPairs$House" "awayOn" "[I") 52 rfl rfl) rfl rfl d k
set_option maxRecDepth 20000 in
theorem gf_X2_25_1 (X : UC p s m args meth c cc nL RX2 R fr lo D ad cs sd A) (hP : va_P D clss (wld cs ad z) H) (d : decode cc pc = .ok (.getfield 25, 3)) (k : W p l e R s m args below meth c H locs cells slots Q (F0 m (pc + 3) ls (.ref (ad 4) :: rest))) : W p l e R s m args below meth c H locs cells slots Q (F0 m pc ls (.ref (ad 1) :: rest)) := u_get (C := RX2) (T := TX2) (N := 8) 2 1 X hP rfl rfl hin_X2 4 (Nat.le_of_ble_eq_true rfl) (tb_c1 (w := Cond.fieldLink "TillPairs$House" 25 "TillPairs$House" "trustAtFirst" "[I") 53 rfl rfl) rfl rfl d k
set_option maxRecDepth 20000 in
theorem gf_X2_25_10 (X : UC p s m args meth c cc nL RX2 R fr lo D ad cs sd A) (hP : va_P D clss (wld cs ad z) H) (d : decode cc pc = .ok (.getfield 25, 3)) (k : W p l e R s m args below meth c H locs cells slots Q (F0 m (pc + 3) ls (.ref (ad 13) :: rest))) : W p l e R s m args below meth c H locs cells slots Q (F0 m pc ls (.ref (ad 10) :: rest)) := u_get (C := RX2) (T := TX2) (N := 8) 2 10 X hP rfl rfl hin_X2 4 (Nat.le_of_ble_eq_true rfl) (tb_c1 (w := Cond.fieldLink "TillPairs$House" 25 "TillPairs$House" "trustAtFirst" "[I") 53 rfl rfl) rfl rfl d k
set_option maxRecDepth 20000 in
theorem gf_X2_25_45 (X : UC p s m args meth c cc nL RX2 R fr lo D ad cs sd A) (hP : va_P D clss (wld cs ad z) H) (d : decode cc pc = .ok (.getfield 25, 3)) (k : W p l e R s m args below meth c H locs cells slots Q (F0 m (pc + 3) ls (.ref (ad 48) :: rest))) : W p l e R s m args below meth c H locs cells slots Q (F0 m pc ls (.ref (ad 45) :: rest)) := u_get (C := RX2) (T := TX2) (N := 8) 2 45 X hP rfl rfl hin_X2 4 (Nat.le_of_ble_eq_true rfl) (tb_c1 (w := Cond.fieldLink "TillPairs$House" 25 "TillPairs$House" "trustAtFirst" "[I") 53 rfl rfl) rfl rfl d k
set_option maxRecDepth 20000 in
theorem gf_X2_28_1 (X : UC p s m args meth c cc nL RX2 R fr lo D ad cs sd A) (hP : va_P D clss (wld cs ad z) H) (d : decode cc pc = .ok (.getfield 28, 3)) (k : W p l e R s m args below meth c H locs cells slots Q (F0 m (pc + 3) ls (.ref (ad 5) :: rest))) : W p l e R s m args below meth c H locs cells slots Q (F0 m pc ls (.ref (ad 1) :: rest)) := u_get (C := RX2) (T := TX2) (N := 8) 2 1 X hP rfl rfl hin_X2 5 (Nat.le_of_ble_eq_true rfl) (tb_c1 (w := Cond.fieldLink "TillPairs$House" 28 "TillPairs$House" "laws" "[I") 57 rfl rfl) rfl rfl d k
set_option maxRecDepth 20000 in
theorem gf_X2_28_10 (X : UC p s m args meth c cc nL RX2 R fr lo D ad cs sd A) (hP : va_P D clss (wld cs ad z) H) (d : decode cc pc = .ok (.getfield 28, 3)) (k : W p l e R s m args below meth c H locs cells slots Q (F0 m (pc + 3) ls (.ref (ad 14) :: rest))) : W p l e R s m args below meth c H locs cells slots Q (F0 m pc ls (.ref (ad 10) :: rest)) := u_get (C := RX2) (T := TX2) (N := 8) 2 10 X hP rfl rfl hin_X2 5 (Nat.le_of_ble_eq_true rfl) (tb_c1 (w := Cond.fieldLink "TillPairs$House" 28 "TillPairs$House" "laws" "[I") 57 rfl rfl) rfl rfl d k
set_option maxRecDepth 20000 in
theorem gf_X2_28_45 (X : UC p s m args meth c cc nL RX2 R fr lo D ad cs sd A) (hP : va_P D clss (wld cs ad z) H) (d : decode cc pc = .ok (.getfield 28, 3)) (k : W p l e R s m args below meth c H locs cells slots Q (F0 m (pc + 3) ls (.ref (ad 49) :: rest))) : W p l e R s m args below meth c H locs cells slots Q (F0 m pc ls (.ref (ad 45) :: rest)) := u_get (C := RX2) (T := TX2) (N := 8) 2 45 X hP rfl rfl hin_X2 5 (Nat.le_of_ble_eq_true rfl) (tb_c1 (w := Cond.fieldLink "TillPairs$House" 28 "TillPairs$House" "laws" "[I") 57 rfl rfl) rfl rfl d k
set_option maxRecDepth 20000 in
theorem gf_X2_31_1 (X : UC p s m args meth c cc nL RX2 R fr lo D ad cs sd A) (hP : va_P D clss (wld cs ad z) H) (d : decode cc pc = .ok (.getfield 31, 3)) (k : W p l e R s m args below meth c H locs cells slots Q (F0 m (pc + 3) ls (.ref (ad 6) :: rest))) : W p l e R s m args below meth c H locs cells slots Q (F0 m pc ls (.ref (ad 1) :: rest)) := u_get (C := RX2) (T := TX2) (N := 8) 2 1 X hP rfl rfl hin_X2 6 (Nat.le_of_ble_eq_true rfl) (tb_c1 (w := Cond.fieldLink "TillPairs$House" 31 "TillPairs$House" "seats" "[I") 63 rfl rfl) rfl rfl d k
set_option maxRecDepth 20000 in
theorem gf_X2_31_10 (X : UC p s m args meth c cc nL RX2 R fr lo D ad cs sd A) (hP : va_P D clss (wld cs ad z) H) (d : decode cc pc = .ok (.getfield 31, 3)) (k : W p l e R s m args below meth c H locs cells slots Q (F0 m (pc + 3) ls (.ref (ad 15) :: rest))) : W p l e R s m args below meth c H locs cells slots Q (F0 m pc ls (.ref (ad 10) :: rest)) := u_get (C := RX2) (T := TX2) (N := 8) 2 10 X hP rfl rfl hin_X2 6 (Nat.le_of_ble_eq_true rfl) (tb_c1 (w := Cond.fieldLink "TillPairs$House" 31 "TillPairs$House" "seats" "[I") 63 rfl rfl) rfl rfl d k
set_option maxRecDepth 20000 in
theorem gf_X2_31_45 (X : UC p s m args meth c cc nL RX2 R fr lo D ad cs sd A) (hP : va_P D clss (wld cs ad z) H) (d : decode cc pc = .ok (.getfield 31, 3)) (k : W p l e R s m args below meth c H locs cells slots Q (F0 m (pc + 3) ls (.ref (ad 50) :: rest))) : W p l e R s m args below meth c H locs cells slots Q (F0 m pc ls (.ref (ad 45) :: rest)) := u_get (C := RX2) (T := TX2) (N := 8) 2 45 X hP rfl rfl hin_X2 6 (Nat.le_of_ble_eq_true rfl) (tb_c1 (w := Cond.fieldLink "TillPairs$House" 31 "TillPairs$House" "seats" "[I") 63 rfl rfl) rfl rfl d k
set_option maxRecDepth 20000 in
theorem gf_X2_34_1 (X : UC p s m args meth c cc nL RX2 R fr lo D ad cs sd A) (hP : va_P D clss (wld cs ad z) H) (d : decode cc pc = .ok (.getfield 34, 3)) (k : W p l e R s m args below meth c H locs cells slots Q (F0 m (pc + 3) ls (.ref (ad 7) :: rest))) : W p l e R s m args below meth c H locs cells slots Q (F0 m pc ls (.ref (ad 1) :: rest)) := u_get (C := RX2) (T := TX2) (N := 8) 2 1 X hP rfl rfl hin_X2 7 (Nat.le_of_ble_eq_true rfl) (tb_c1 (w := Cond.fieldLink "TillPairs$House" 34 "TillPairs$House" "losses" "[I") 64 rfl rfl) rfl rfl d k
set_option maxRecDepth 20000 in
theorem gf_X2_34_10 (X : UC p s m args meth c cc nL RX2 R fr lo D ad cs sd A) (hP : va_P D clss (wld cs ad z) H) (d : decode cc pc = .ok (.getfield 34, 3)) (k : W p l e R s m args below meth c H locs cells slots Q (F0 m (pc + 3) ls (.ref (ad 16) :: rest))) : W p l e R s m args below meth c H locs cells slots Q (F0 m pc ls (.ref (ad 10) :: rest)) := u_get (C := RX2) (T := TX2) (N := 8) 2 10 X hP rfl rfl hin_X2 7 (Nat.le_of_ble_eq_true rfl) (tb_c1 (w := Cond.fieldLink "TillPairs$House" 34 "TillPairs$House" "losses" "[I") 64 rfl rfl) rfl rfl d k
set_option maxRecDepth 20000 in
theorem gf_X2_34_45 (X : UC p s m args meth c cc nL RX2 R fr lo D ad cs sd A) (hP : va_P D clss (wld cs ad z) H) (d : decode cc pc = .ok (.getfield 34, 3)) (k : W p l e R s m args below meth c H locs cells slots Q (F0 m (pc + 3) ls (.ref (ad 51) :: rest))) : W p l e R s m args below meth c H locs cells slots Q (F0 m pc ls (.ref (ad 45) :: rest)) := u_get (C := RX2) (T := TX2) (N := 8) 2 45 X hP rfl rfl hin_X2 7 (Nat.le_of_ble_eq_true rfl) (tb_c1 (w := Cond.fieldLink "TillPairs$House" 34 "TillPairs$House" "losses" "[I") 64 rfl rfl) rfl rfl d k
set_option maxRecDepth 20000 in
theorem gf_X2_9_1 (X : UC p s m args meth c cc nL RX2 R fr lo D ad cs sd A) (hP : va_P D clss (wld cs ad z) H) (d : decode cc pc = .ok (.getfield 9, 3)) (k : W p l e R s m args below meth c H locs cells slots Q (F0 m (pc + 3) ls (.int (gI z 1 0) :: rest))) : W p l e R s m args below meth c H locs cells slots Q (F0 m pc ls (.ref (ad 1) :: rest)) := u_get (C := RX2) (T := TX2) (N := 8) 2 1 X hP rfl rfl hin_X2 0 (Nat.le_of_ble_eq_true rfl) (tb_c1 (w := Cond.fieldLink "TillPairs$House" 9 "TillPairs$House" "people" "I") 42 rfl rfl) rfl rfl d k
set_option maxRecDepth 20000 in
theorem gf_X2_9_10 (X : UC p s m args meth c cc nL RX2 R fr lo D ad cs sd A) (hP : va_P D clss (wld cs ad z) H) (d : decode cc pc = .ok (.getfield 9, 3)) (k : W p l e R s m args below meth c H locs cells slots Q (F0 m (pc + 3) ls (.int (gI z 10 0) :: rest))) : W p l e R s m args below meth c H locs cells slots Q (F0 m pc ls (.ref (ad 10) :: rest)) := u_get (C := RX2) (T := TX2) (N := 8) 2 10 X hP rfl rfl hin_X2 0 (Nat.le_of_ble_eq_true rfl) (tb_c1 (w := Cond.fieldLink "TillPairs$House" 9 "TillPairs$House" "people" "I") 42 rfl rfl) rfl rfl d k
set_option maxRecDepth 20000 in
theorem gf_X2_9_45 (X : UC p s m args meth c cc nL RX2 R fr lo D ad cs sd A) (hP : va_P D clss (wld cs ad z) H) (d : decode cc pc = .ok (.getfield 9, 3)) (k : W p l e R s m args below meth c H locs cells slots Q (F0 m (pc + 3) ls (.int (gI z 45 0) :: rest))) : W p l e R s m args below meth c H locs cells slots Q (F0 m pc ls (.ref (ad 45) :: rest)) := u_get (C := RX2) (T := TX2) (N := 8) 2 45 X hP rfl rfl hin_X2 0 (Nat.le_of_ble_eq_true rfl) (tb_c1 (w := Cond.fieldLink "TillPairs$House" 9 "TillPairs$House" "people" "I") 42 rfl rfl) rfl rfl d k
set_option maxRecDepth 20000 in
theorem gf_X3_15_1 (X : UC p s m args meth c cc nL RX3 R fr lo D ad cs sd A) (hP : va_P D clss (wld cs ad z) H) (d : decode cc pc = .ok (.getfield 15, 3)) (k : W p l e R s m args below meth c H locs cells slots Q (F0 m (pc + 3) ls (.ref (ad 4) :: rest))) : W p l e R s m args below meth c H locs cells slots Q (F0 m pc ls (.ref (ad 1) :: rest)) := u_getN (C := RX2) (T := TX2) (N := 8) 2 1 X hP rfl rfl hin_X2 4 (Nat.le_of_ble_eq_true rfl) (nw_c1 (w := Cond.fieldLinkNest "TillPairs$Judge" 15 "TillPairs$House" "trustAtFirst" "[I" "TillPairs") 54 rfl rfl) rfl rfl d k
set_option maxRecDepth 20000 in
theorem gf_X3_35_1 (X : UC p s m args meth c cc nL RX3 R fr lo D ad cs sd A) (hP : va_P D clss (wld cs ad z) H) (d : decode cc pc = .ok (.getfield 35, 3)) (k : W p l e R s m args below meth c H locs cells slots Q (F0 m (pc + 3) ls (.ref (ad 5) :: rest))) : W p l e R s m args below meth c H locs cells slots Q (F0 m pc ls (.ref (ad 1) :: rest)) := u_getN (C := RX2) (T := TX2) (N := 8) 2 1 X hP rfl rfl hin_X2 5 (Nat.le_of_ble_eq_true rfl) (nw_c1 (w := Cond.fieldLinkNest "TillPairs$Judge" 35 "TillPairs$House" "laws" "[I" "TillPairs") 60 rfl rfl) rfl rfl d k
set_option maxRecDepth 20000 in
theorem gf_X3_41_1 (X : UC p s m args meth c cc nL RX3 R fr lo D ad cs sd A) (hP : va_P D clss (wld cs ad z) H) (d : decode cc pc = .ok (.getfield 41, 3)) (k : W p l e R s m args below meth c H locs cells slots Q (F0 m (pc + 3) ls (.ref (ad 2) :: rest))) : W p l e R s m args below meth c H locs cells slots Q (F0 m pc ls (.ref (ad 1) :: rest)) := u_getN (C := RX2) (T := TX2) (N := 8) 2 1 X hP rfl rfl hin_X2 2 (Nat.le_of_ble_eq_true rfl) (nw_c1 (w := Cond.fieldLinkNest "TillPairs$Judge" 41 "TillPairs$House" "kinOf" "[I" "TillPairs") 50 rfl rfl) rfl rfl d k
set_option maxRecDepth 20000 in
theorem gf_X3_9_17 (X : UC p s m args meth c cc nL RX3 R fr lo D ad cs sd A) (hP : va_P D clss (wld cs ad z) H) (d : decode cc pc = .ok (.getfield 9, 3)) (k : W p l e R s m args below meth c H locs cells slots Q (F0 m (pc + 3) ls (.ref (ad 1) :: rest))) : W p l e R s m args below meth c H locs cells slots Q (F0 m pc ls (.ref (ad 17) :: rest)) := u_get (C := RX3) (T := TX3) (N := 1) 3 17 X hP rfl rfl hin_X3 0 (Nat.le_of_ble_eq_true rfl) (tb_c1 (w := Cond.fieldLink "TillPairs$Judge" 9 "TillPairs$Judge" "home" "LTillPairs$House;") 115 rfl rfl) rfl rfl d k
set_option maxRecDepth 20000 in
theorem gf_X4_15_18 (X : UC p s m args meth c cc nL RX4 R fr lo D ad cs sd A) (hP : va_P D clss (wld cs ad z) H) (d : decode cc pc = .ok (.getfield 15, 3)) (k : W p l e R s m args below meth c H locs cells slots Q (F0 m (pc + 3) ls (.ref (ad 17) :: rest))) : W p l e R s m args below meth c H locs cells slots Q (F0 m pc ls (.ref (ad 18) :: rest)) := u_get (C := RX4) (T := TX4) (N := 4) 4 18 X hP rfl rfl hin_X4 1 (Nat.le_of_ble_eq_true rfl) (tb_c1 (w := Cond.fieldLink "TillPairs$Odds" 15 "TillPairs$Odds" "mind" "LTillPairs$Judge;") 126 rfl rfl) rfl rfl d k
set_option maxRecDepth 20000 in
theorem gf_X4_19_18 (X : UC p s m args meth c cc nL RX4 R fr lo D ad cs sd A) (hP : va_P D clss (wld cs ad z) H) (d : decode cc pc = .ok (.getfield 19, 3)) (k : W p l e R s m args below meth c H locs cells slots Q (F0 m (pc + 3) ls (.long (gJ z 18 2) :: rest))) : W p l e R s m args below meth c H locs cells slots Q (F0 m pc ls (.ref (ad 18) :: rest)) := u_get (C := RX4) (T := TX4) (N := 4) 4 18 X hP rfl rfl hin_X4 2 (Nat.le_of_ble_eq_true rfl) (tb_c1 (w := Cond.fieldLink "TillPairs$Odds" 19 "TillPairs$Odds" "above" "J") 127 rfl rfl) rfl rfl d k
set_option maxRecDepth 20000 in
theorem gf_X4_23_18 (X : UC p s m args meth c cc nL RX4 R fr lo D ad cs sd A) (hP : va_P D clss (wld cs ad z) H) (d : decode cc pc = .ok (.getfield 23, 3)) (k : W p l e R s m args below meth c H locs cells slots Q (F0 m (pc + 3) ls (.long (gJ z 18 3) :: rest))) : W p l e R s m args below meth c H locs cells slots Q (F0 m pc ls (.ref (ad 18) :: rest)) := u_get (C := RX4) (T := TX4) (N := 4) 4 18 X hP rfl rfl hin_X4 3 (Nat.le_of_ble_eq_true rfl) (tb_c1 (w := Cond.fieldLink "TillPairs$Odds" 23 "TillPairs$Odds" "below" "J") 129 rfl rfl) rfl rfl d k
set_option maxRecDepth 20000 in
theorem gf_X4_37_1 (X : UC p s m args meth c cc nL RX4 R fr lo D ad cs sd A) (hP : va_P D clss (wld cs ad z) H) (d : decode cc pc = .ok (.getfield 37, 3)) (k : W p l e R s m args below meth c H locs cells slots Q (F0 m (pc + 3) ls (.ref (ad 5) :: rest))) : W p l e R s m args below meth c H locs cells slots Q (F0 m pc ls (.ref (ad 1) :: rest)) := u_getN (C := RX2) (T := TX2) (N := 8) 2 1 X hP rfl rfl hin_X2 5 (Nat.le_of_ble_eq_true rfl) (nw_c1 (w := Cond.fieldLinkNest "TillPairs$Odds" 37 "TillPairs$House" "laws" "[I" "TillPairs") 58 rfl rfl) rfl rfl d k
set_option maxRecDepth 20000 in
theorem gf_X4_68_1 (X : UC p s m args meth c cc nL RX4 R fr lo D ad cs sd A) (hP : va_P D clss (wld cs ad z) H) (d : decode cc pc = .ok (.getfield 68, 3)) (k : W p l e R s m args below meth c H locs cells slots Q (F0 m (pc + 3) ls (.int (gI z 1 0) :: rest))) : W p l e R s m args below meth c H locs cells slots Q (F0 m pc ls (.ref (ad 1) :: rest)) := u_getN (C := RX2) (T := TX2) (N := 8) 2 1 X hP rfl rfl hin_X2 0 (Nat.le_of_ble_eq_true rfl) (nw_c1 (w := Cond.fieldLinkNest "TillPairs$Odds" 68 "TillPairs$House" "people" "I" "TillPairs") 44 rfl rfl) rfl rfl d k
set_option maxRecDepth 20000 in
theorem gf_X4_9_18 (X : UC p s m args meth c cc nL RX4 R fr lo D ad cs sd A) (hP : va_P D clss (wld cs ad z) H) (d : decode cc pc = .ok (.getfield 9, 3)) (k : W p l e R s m args below meth c H locs cells slots Q (F0 m (pc + 3) ls (.ref (ad 1) :: rest))) : W p l e R s m args below meth c H locs cells slots Q (F0 m pc ls (.ref (ad 18) :: rest)) := u_get (C := RX4) (T := TX4) (N := 4) 4 18 X hP rfl rfl hin_X4 0 (Nat.le_of_ble_eq_true rfl) (tb_c1 (w := Cond.fieldLink "TillPairs$Odds" 9 "TillPairs$Odds" "home" "LTillPairs$House;") 125 rfl rfl) rfl rfl d k
set_option maxRecDepth 20000 in
theorem gf_X5_103_1 (X : UC p s m args meth c cc nL RX5 R fr lo D ad cs sd A) (hP : va_P D clss (wld cs ad z) H) (d : decode cc pc = .ok (.getfield 103, 3)) (k : W p l e R s m args below meth c H locs cells slots Q (F0 m (pc + 3) ls (.ref (ad 2) :: rest))) : W p l e R s m args below meth c H locs cells slots Q (F0 m pc ls (.ref (ad 1) :: rest)) := u_getN (C := RX2) (T := TX2) (N := 8) 2 1 X hP rfl rfl hin_X2 2 (Nat.le_of_ble_eq_true rfl) (nw_c1 (w := Cond.fieldLinkNest "TillPairs$Plans" 103 "TillPairs$House" "kinOf" "[I" "TillPairs") 51 rfl rfl) rfl rfl d k
set_option maxRecDepth 20000 in
theorem gf_X5_11_26 (X : UC p s m args meth c cc nL RX5 R fr lo D ad cs sd A) (hP : va_P D clss (wld cs ad z) H) (d : decode cc pc = .ok (.getfield 11, 3)) (k : W p l e R s m args below meth c H locs cells slots Q (F0 m (pc + 3) ls (.ref (ad 27) :: rest))) : W p l e R s m args below meth c H locs cells slots Q (F0 m pc ls (.ref (ad 26) :: rest)) := u_get (C := RX5) (T := TX5) (N := 5) 5 26 X hP rfl rfl hin_X5 0 (Nat.le_of_ble_eq_true rfl) (tb_c1 (w := Cond.fieldLink "TillPairs$Plans" 11 "TillPairs$Plans" "kinds" "[I") 178 rfl rfl) rfl rfl d k
set_option maxRecDepth 20000 in
theorem gf_X5_11_52 (X : UC p s m args meth c cc nL RX5 R fr lo D ad cs sd A) (hP : va_P D clss (wld cs ad z) H) (d : decode cc pc = .ok (.getfield 11, 3)) (k : W p l e R s m args below meth c H locs cells slots Q (F0 m (pc + 3) ls (.ref (ad 53) :: rest))) : W p l e R s m args below meth c H locs cells slots Q (F0 m pc ls (.ref (ad 52) :: rest)) := u_get (C := RX5) (T := TX5) (N := 5) 5 52 X hP rfl rfl hin_X5 0 (Nat.le_of_ble_eq_true rfl) (tb_c1 (w := Cond.fieldLink "TillPairs$Plans" 11 "TillPairs$Plans" "kinds" "[I") 178 rfl rfl) rfl rfl d k
set_option maxRecDepth 20000 in
theorem gf_X5_15_26 (X : UC p s m args meth c cc nL RX5 R fr lo D ad cs sd A) (hP : va_P D clss (wld cs ad z) H) (d : decode cc pc = .ok (.getfield 15, 3)) (k : W p l e R s m args below meth c H locs cells slots Q (F0 m (pc + 3) ls (.ref (ad 28) :: rest))) : W p l e R s m args below meth c H locs cells slots Q (F0 m pc ls (.ref (ad 26) :: rest)) := u_get (C := RX5) (T := TX5) (N := 5) 5 26 X hP rfl rfl hin_X5 1 (Nat.le_of_ble_eq_true rfl) (tb_c1 (w := Cond.fieldLink "TillPairs$Plans" 15 "TillPairs$Plans" "as" "[I") 180 rfl rfl) rfl rfl d k
set_option maxRecDepth 20000 in
theorem gf_X5_15_52 (X : UC p s m args meth c cc nL RX5 R fr lo D ad cs sd A) (hP : va_P D clss (wld cs ad z) H) (d : decode cc pc = .ok (.getfield 15, 3)) (k : W p l e R s m args below meth c H locs cells slots Q (F0 m (pc + 3) ls (.ref (ad 54) :: rest))) : W p l e R s m args below meth c H locs cells slots Q (F0 m pc ls (.ref (ad 52) :: rest)) := u_get (C := RX5) (T := TX5) (N := 5) 5 52 X hP rfl rfl hin_X5 1 (Nat.le_of_ble_eq_true rfl) (tb_c1 (w := Cond.fieldLink "TillPairs$Plans" 15 "TillPairs$Plans" "as" "[I") 180 rfl rfl) rfl rfl d k
set_option maxRecDepth 20000 in
theorem gf_X5_18_26 (X : UC p s m args meth c cc nL RX5 R fr lo D ad cs sd A) (hP : va_P D clss (wld cs ad z) H) (d : decode cc pc = .ok (.getfield 18, 3)) (k : W p l e R s m args below meth c H locs cells slots Q (F0 m (pc + 3) ls (.ref (ad 29) :: rest))) : W p l e R s m args below meth c H locs cells slots Q (F0 m pc ls (.ref (ad 26) :: rest)) := u_get (C := RX5) (T := TX5) (N := 5) 5 26 X hP rfl rfl hin_X5 2 (Nat.le_of_ble_eq_true rfl) (tb_c1 (w := Cond.fieldLink "TillPairs$Plans" 18 "TillPairs$Plans" "seated" "[I") 182 rfl rfl) rfl rfl d k
set_option maxRecDepth 20000 in
theorem gf_X5_21_26 (X : UC p s m args meth c cc nL RX5 R fr lo D ad cs sd A) (hP : va_P D clss (wld cs ad z) H) (d : decode cc pc = .ok (.getfield 21, 3)) (k : W p l e R s m args below meth c H locs cells slots Q (F0 m (pc + 3) ls (.int (gI z 26 3) :: rest))) : W p l e R s m args below meth c H locs cells slots Q (F0 m pc ls (.ref (ad 26) :: rest)) := u_get (C := RX5) (T := TX5) (N := 5) 5 26 X hP rfl rfl hin_X5 3 (Nat.le_of_ble_eq_true rfl) (tb_c1 (w := Cond.fieldLink "TillPairs$Plans" 21 "TillPairs$Plans" "count" "I") 183 rfl rfl) rfl rfl d k
set_option maxRecDepth 20000 in
theorem gf_X5_21_52 (X : UC p s m args meth c cc nL RX5 R fr lo D ad cs sd A) (hP : va_P D clss (wld cs ad z) H) (d : decode cc pc = .ok (.getfield 21, 3)) (k : W p l e R s m args below meth c H locs cells slots Q (F0 m (pc + 3) ls (.int (gI z 52 3) :: rest))) : W p l e R s m args below meth c H locs cells slots Q (F0 m pc ls (.ref (ad 52) :: rest)) := u_get (C := RX5) (T := TX5) (N := 5) 5 52 X hP rfl rfl hin_X5 3 (Nat.le_of_ble_eq_true rfl) (tb_c1 (w := Cond.fieldLink "TillPairs$Plans" 21 "TillPairs$Plans" "count" "I") 183 rfl rfl) rfl rfl d k
set_option maxRecDepth 20000 in
theorem gf_X5_25_26 (X : UC p s m args meth c cc nL RX5 R fr lo D ad cs sd A) (hP : va_P D clss (wld cs ad z) H) (d : decode cc pc = .ok (.getfield 25, 3)) (k : W p l e R s m args below meth c H locs cells slots Q (F0 m (pc + 3) ls (.int (gI z 26 4) :: rest))) : W p l e R s m args below meth c H locs cells slots Q (F0 m pc ls (.ref (ad 26) :: rest)) := u_get (C := RX5) (T := TX5) (N := 5) 5 26 X hP rfl rfl hin_X5 4 (Nat.le_of_ble_eq_true rfl) (tb_c1 (w := Cond.fieldLink "TillPairs$Plans" 25 "TillPairs$Plans" "z" "I") 185 rfl rfl) rfl rfl d k
set_option maxRecDepth 20000 in
theorem gf_X5_25_52 (X : UC p s m args meth c cc nL RX5 R fr lo D ad cs sd A) (hP : va_P D clss (wld cs ad z) H) (d : decode cc pc = .ok (.getfield 25, 3)) (k : W p l e R s m args below meth c H locs cells slots Q (F0 m (pc + 3) ls (.int (gI z 52 4) :: rest))) : W p l e R s m args below meth c H locs cells slots Q (F0 m pc ls (.ref (ad 52) :: rest)) := u_get (C := RX5) (T := TX5) (N := 5) 5 52 X hP rfl rfl hin_X5 4 (Nat.le_of_ble_eq_true rfl) (tb_c1 (w := Cond.fieldLink "TillPairs$Plans" 25 "TillPairs$Plans" "z" "I") 185 rfl rfl) rfl rfl d k
set_option maxRecDepth 20000 in
theorem gf_X5_66_1 (X : UC p s m args meth c cc nL RX5 R fr lo D ad cs sd A) (hP : va_P D clss (wld cs ad z) H) (d : decode cc pc = .ok (.getfield 66, 3)) (k : W p l e R s m args below meth c H locs cells slots Q (F0 m (pc + 3) ls (.int (gI z 1 0) :: rest))) : W p l e R s m args below meth c H locs cells slots Q (F0 m pc ls (.ref (ad 1) :: rest)) := u_getN (C := RX2) (T := TX2) (N := 8) 2 1 X hP rfl rfl hin_X2 0 (Nat.le_of_ble_eq_true rfl) (nw_c1 (w := Cond.fieldLinkNest "TillPairs$Plans" 66 "TillPairs$House" "people" "I" "TillPairs") 47 rfl rfl) rfl rfl d k
set_option maxRecDepth 20000 in
theorem gf_X6_15_30 (X : UC p s m args meth c cc nL RX6 R fr lo D ad cs sd A) (hP : va_P D clss (wld cs ad z) H) (d : decode cc pc = .ok (.getfield 15, 3)) (k : W p l e R s m args below meth c H locs cells slots Q (F0 m (pc + 3) ls (.ref (ad 17) :: rest))) : W p l e R s m args below meth c H locs cells slots Q (F0 m pc ls (.ref (ad 30) :: rest)) := u_get (C := RX6) (T := TX6) (N := 4) 6 30 X hP rfl rfl hin_X6 1 (Nat.le_of_ble_eq_true rfl) (tb_c1 (w := Cond.fieldLink "TillPairs$Rows" 15 "TillPairs$Rows" "mind" "LTillPairs$Judge;") 205 rfl rfl) rfl rfl d k
set_option maxRecDepth 20000 in
theorem gf_X6_19_30 (X : UC p s m args meth c cc nL RX6 R fr lo D ad cs sd A) (hP : va_P D clss (wld cs ad z) H) (d : decode cc pc = .ok (.getfield 19, 3)) (k : W p l e R s m args below meth c H locs cells slots Q (F0 m (pc + 3) ls (.ref (ad 31) :: rest))) : W p l e R s m args below meth c H locs cells slots Q (F0 m pc ls (.ref (ad 30) :: rest)) := u_get (C := RX6) (T := TX6) (N := 4) 6 30 X hP rfl rfl hin_X6 2 (Nat.le_of_ble_eq_true rfl) (tb_c1 (w := Cond.fieldLink "TillPairs$Rows" 19 "TillPairs$Rows" "cells" "[I") 206 rfl rfl) rfl rfl d k
set_option maxRecDepth 20000 in
theorem gf_X6_23_30 (X : UC p s m args meth c cc nL RX6 R fr lo D ad cs sd A) (hP : va_P D clss (wld cs ad z) H) (d : decode cc pc = .ok (.getfield 23, 3)) (k : W p l e R s m args below meth c H locs cells slots Q (F0 m (pc + 3) ls (.int (gI z 30 3) :: rest))) : W p l e R s m args below meth c H locs cells slots Q (F0 m pc ls (.ref (ad 30) :: rest)) := u_get (C := RX6) (T := TX6) (N := 4) 6 30 X hP rfl rfl hin_X6 3 (Nat.le_of_ble_eq_true rfl) (tb_c1 (w := Cond.fieldLink "TillPairs$Rows" 23 "TillPairs$Rows" "count" "I") 208 rfl rfl) rfl rfl d k
set_option maxRecDepth 20000 in
theorem gf_X6_9_30 (X : UC p s m args meth c cc nL RX6 R fr lo D ad cs sd A) (hP : va_P D clss (wld cs ad z) H) (d : decode cc pc = .ok (.getfield 9, 3)) (k : W p l e R s m args below meth c H locs cells slots Q (F0 m (pc + 3) ls (.ref (ad 1) :: rest))) : W p l e R s m args below meth c H locs cells slots Q (F0 m pc ls (.ref (ad 30) :: rest)) := u_get (C := RX6) (T := TX6) (N := 4) 6 30 X hP rfl rfl hin_X6 0 (Nat.le_of_ble_eq_true rfl) (tb_c1 (w := Cond.fieldLink "TillPairs$Rows" 9 "TillPairs$Rows" "home" "LTillPairs$House;") 204 rfl rfl) rfl rfl d k
set_option maxRecDepth 20000 in
theorem gf_X7_118_10 (X : UC p s m args meth c cc nL RX7 R fr lo D ad cs sd A) (hP : va_P D clss (wld cs ad z) H) (d : decode cc pc = .ok (.getfield 118, 3)) (k : W p l e R s m args below meth c H locs cells slots Q (F0 m (pc + 3) ls (.ref (ad 13) :: rest))) : W p l e R s m args below meth c H locs cells slots Q (F0 m pc ls (.ref (ad 10) :: rest)) := u_getN (C := RX2) (T := TX2) (N := 8) 2 10 X hP rfl rfl hin_X2 4 (Nat.le_of_ble_eq_true rfl) (nw_c1 (w := Cond.fieldLinkNest "TillPairs$Tape" 118 "TillPairs$House" "trustAtFirst" "[I" "TillPairs") 56 rfl rfl) rfl rfl d k
set_option maxRecDepth 20000 in
theorem gf_X7_11_8 (X : UC p s m args meth c cc nL RX7 R fr lo D ad cs sd A) (hP : va_P D clss (wld cs ad z) H) (d : decode cc pc = .ok (.getfield 11, 3)) (k : W p l e R s m args below meth c H locs cells slots Q (F0 m (pc + 3) ls (.ref (ad 9) :: rest))) : W p l e R s m args below meth c H locs cells slots Q (F0 m pc ls (.ref (ad 8) :: rest)) := u_get (C := RX7) (T := TX7) (N := 5) 7 8 X hP rfl rfl hin_X7 0 (Nat.le_of_ble_eq_true rfl) (tb_c1 (w := Cond.fieldLink "TillPairs$Tape" 11 "TillPairs$Tape" "bytes" "[I") 92 rfl rfl) rfl rfl d k
set_option maxRecDepth 20000 in
theorem gf_X7_18_8 (X : UC p s m args meth c cc nL RX7 R fr lo D ad cs sd A) (hP : va_P D clss (wld cs ad z) H) (d : decode cc pc = .ok (.getfield 18, 3)) (k : W p l e R s m args below meth c H locs cells slots Q (F0 m (pc + 3) ls (.ref (ad 10) :: rest))) : W p l e R s m args below meth c H locs cells slots Q (F0 m pc ls (.ref (ad 8) :: rest)) := u_get (C := RX7) (T := TX7) (N := 5) 7 8 X hP rfl rfl hin_X7 1 (Nat.le_of_ble_eq_true rfl) (tb_c1 (w := Cond.fieldLink "TillPairs$Tape" 18 "TillPairs$Tape" "draft" "LTillPairs$House;") 93 rfl rfl) rfl rfl d k
set_option maxRecDepth 20000 in
theorem gf_X7_22_8 (X : UC p s m args meth c cc nL RX7 R fr lo D ad cs sd A) (hP : va_P D clss (wld cs ad z) H) (d : decode cc pc = .ok (.getfield 22, 3)) (k : W p l e R s m args below meth c H locs cells slots Q (F0 m (pc + 3) ls (.int (gI z 8 2) :: rest))) : W p l e R s m args below meth c H locs cells slots Q (F0 m pc ls (.ref (ad 8) :: rest)) := u_get (C := RX7) (T := TX7) (N := 5) 7 8 X hP rfl rfl hin_X7 2 (Nat.le_of_ble_eq_true rfl) (tb_c1 (w := Cond.fieldLink "TillPairs$Tape" 22 "TillPairs$Tape" "length" "I") 94 rfl rfl) rfl rfl d k
set_option maxRecDepth 20000 in
theorem gf_X7_26_8 (X : UC p s m args meth c cc nL RX7 R fr lo D ad cs sd A) (hP : va_P D clss (wld cs ad z) H) (d : decode cc pc = .ok (.getfield 26, 3)) (k : W p l e R s m args below meth c H locs cells slots Q (F0 m (pc + 3) ls (.int (gI z 8 3) :: rest))) : W p l e R s m args below meth c H locs cells slots Q (F0 m pc ls (.ref (ad 8) :: rest)) := u_get (C := RX7) (T := TX7) (N := 5) 7 8 X hP rfl rfl hin_X7 3 (Nat.le_of_ble_eq_true rfl) (tb_c1 (w := Cond.fieldLink "TillPairs$Tape" 26 "TillPairs$Tape" "at" "I") 96 rfl rfl) rfl rfl d k
set_option maxRecDepth 20000 in
theorem gf_X7_29_8 (X : UC p s m args meth c cc nL RX7 R fr lo D ad cs sd A) (hP : va_P D clss (wld cs ad z) H) (d : decode cc pc = .ok (.getfield 29, 3)) (k : W p l e R s m args below meth c H locs cells slots Q (F0 m (pc + 3) ls (.int (gI z 8 4) :: rest))) : W p l e R s m args below meth c H locs cells slots Q (F0 m pc ls (.ref (ad 8) :: rest)) := u_get (C := RX7) (T := TX7) (N := 5) 7 8 X hP rfl rfl hin_X7 4 (Nat.le_of_ble_eq_true rfl) (tb_c1 (w := Cond.fieldLink "TillPairs$Tape" 29 "TillPairs$Tape" "fault" "I") 97 rfl rfl) rfl rfl d k
set_option maxRecDepth 20000 in
theorem gf_X7_32_1 (X : UC p s m args meth c cc nL RX7 R fr lo D ad cs sd A) (hP : va_P D clss (wld cs ad z) H) (d : decode cc pc = .ok (.getfield 32, 3)) (k : W p l e R s m args below meth c H locs cells slots Q (F0 m (pc + 3) ls (.ref (ad 5) :: rest))) : W p l e R s m args below meth c H locs cells slots Q (F0 m pc ls (.ref (ad 1) :: rest)) := u_getN (C := RX2) (T := TX2) (N := 8) 2 1 X hP rfl rfl hin_X2 5 (Nat.le_of_ble_eq_true rfl) (nw_c1 (w := Cond.fieldLinkNest "TillPairs$Tape" 32 "TillPairs$House" "laws" "[I" "TillPairs") 59 rfl rfl) rfl rfl d k
set_option maxRecDepth 20000 in
theorem gf_X7_32_10 (X : UC p s m args meth c cc nL RX7 R fr lo D ad cs sd A) (hP : va_P D clss (wld cs ad z) H) (d : decode cc pc = .ok (.getfield 32, 3)) (k : W p l e R s m args below meth c H locs cells slots Q (F0 m (pc + 3) ls (.ref (ad 14) :: rest))) : W p l e R s m args below meth c H locs cells slots Q (F0 m pc ls (.ref (ad 10) :: rest)) := u_getN (C := RX2) (T := TX2) (N := 8) 2 10 X hP rfl rfl hin_X2 5 (Nat.le_of_ble_eq_true rfl) (nw_c1 (w := Cond.fieldLinkNest "TillPairs$Tape" 32 "TillPairs$House" "laws" "[I" "TillPairs") 59 rfl rfl) rfl rfl d k
set_option maxRecDepth 20000 in
theorem gf_X7_61_10 (X : UC p s m args meth c cc nL RX7 R fr lo D ad cs sd A) (hP : va_P D clss (wld cs ad z) H) (d : decode cc pc = .ok (.getfield 61, 3)) (k : W p l e R s m args below meth c H locs cells slots Q (F0 m (pc + 3) ls (.int (gI z 10 0) :: rest))) : W p l e R s m args below meth c H locs cells slots Q (F0 m pc ls (.ref (ad 10) :: rest)) := u_getN (C := RX2) (T := TX2) (N := 8) 2 10 X hP rfl rfl hin_X2 0 (Nat.le_of_ble_eq_true rfl) (nw_c1 (w := Cond.fieldLinkNest "TillPairs$Tape" 61 "TillPairs$House" "people" "I" "TillPairs") 46 rfl rfl) rfl rfl d k
set_option maxRecDepth 20000 in
theorem gf_X8_15_19 (X : UC p s m args meth c cc nL RX8 R fr lo D ad cs sd A) (hP : va_P D clss (wld cs ad z) H) (d : decode cc pc = .ok (.getfield 15, 3)) (k : W p l e R s m args below meth c H locs cells slots Q (F0 m (pc + 3) ls (.ref (ad 17) :: rest))) : W p l e R s m args below meth c H locs cells slots Q (F0 m pc ls (.ref (ad 19) :: rest)) := u_get (C := RX8) (T := TX8) (N := 7) 8 19 X hP rfl rfl hin_X8 1 (Nat.le_of_ble_eq_true rfl) (tb_c1 (w := Cond.fieldLink "TillPairs$Ways" 15 "TillPairs$Ways" "mind" "LTillPairs$Judge;") 149 rfl rfl) rfl rfl d k
set_option maxRecDepth 20000 in
theorem gf_X8_19_19 (X : UC p s m args meth c cc nL RX8 R fr lo D ad cs sd A) (hP : va_P D clss (wld cs ad z) H) (d : decode cc pc = .ok (.getfield 19, 3)) (k : W p l e R s m args below meth c H locs cells slots Q (F0 m (pc + 3) ls (.ref (ad 20) :: rest))) : W p l e R s m args below meth c H locs cells slots Q (F0 m pc ls (.ref (ad 19) :: rest)) := u_get (C := RX8) (T := TX8) (N := 7) 8 19 X hP rfl rfl hin_X8 2 (Nat.le_of_ble_eq_true rfl) (tb_c1 (w := Cond.fieldLink "TillPairs$Ways" 19 "TillPairs$Ways" "trusts" "[I") 150 rfl rfl) rfl rfl d k
set_option maxRecDepth 20000 in
theorem gf_X8_25_19 (X : UC p s m args meth c cc nL RX8 R fr lo D ad cs sd A) (hP : va_P D clss (wld cs ad z) H) (d : decode cc pc = .ok (.getfield 25, 3)) (k : W p l e R s m args below meth c H locs cells slots Q (F0 m (pc + 3) ls (.ref (ad 21) :: rest))) : W p l e R s m args below meth c H locs cells slots Q (F0 m pc ls (.ref (ad 19) :: rest)) := u_get (C := RX8) (T := TX8) (N := 7) 8 19 X hP rfl rfl hin_X8 3 (Nat.le_of_ble_eq_true rfl) (tb_c1 (w := Cond.fieldLink "TillPairs$Ways" 25 "TillPairs$Ways" "bounds" "[[I") 151 rfl rfl) rfl rfl d k
set_option maxRecDepth 20000 in
theorem gf_X8_28_19 (X : UC p s m args meth c cc nL RX8 R fr lo D ad cs sd A) (hP : va_P D clss (wld cs ad z) H) (d : decode cc pc = .ok (.getfield 28, 3)) (k : W p l e R s m args below meth c H locs cells slots Q (F0 m (pc + 3) ls (.ref (ad 25) :: rest))) : W p l e R s m args below meth c H locs cells slots Q (F0 m pc ls (.ref (ad 19) :: rest)) := u_get (C := RX8) (T := TX8) (N := 7) 8 19 X hP rfl rfl hin_X8 4 (Nat.le_of_ble_eq_true rfl) (tb_c1 (w := Cond.fieldLink "TillPairs$Ways" 28 "TillPairs$Ways" "chosen" "[I") 152 rfl rfl) rfl rfl d k
set_option maxRecDepth 20000 in
theorem gf_X8_31_19 (X : UC p s m args meth c cc nL RX8 R fr lo D ad cs sd A) (hP : va_P D clss (wld cs ad z) H) (d : decode cc pc = .ok (.getfield 31, 3)) (k : W p l e R s m args below meth c H locs cells slots Q (F0 m (pc + 3) ls (.int (gI z 19 5) :: rest))) : W p l e R s m args below meth c H locs cells slots Q (F0 m pc ls (.ref (ad 19) :: rest)) := u_get (C := RX8) (T := TX8) (N := 7) 8 19 X hP rfl rfl hin_X8 5 (Nat.le_of_ble_eq_true rfl) (tb_c1 (w := Cond.fieldLink "TillPairs$Ways" 31 "TillPairs$Ways" "changes" "I") 153 rfl rfl) rfl rfl d k
set_option maxRecDepth 20000 in
theorem gf_X8_38_1 (X : UC p s m args meth c cc nL RX8 R fr lo D ad cs sd A) (hP : va_P D clss (wld cs ad z) H) (d : decode cc pc = .ok (.getfield 38, 3)) (k : W p l e R s m args below meth c H locs cells slots Q (F0 m (pc + 3) ls (.int (gI z 1 0) :: rest))) : W p l e R s m args below meth c H locs cells slots Q (F0 m pc ls (.ref (ad 1) :: rest)) := u_getN (C := RX2) (T := TX2) (N := 8) 2 1 X hP rfl rfl hin_X2 0 (Nat.le_of_ble_eq_true rfl) (nw_c1 (w := Cond.fieldLinkNest "TillPairs$Ways" 38 "TillPairs$House" "people" "I" "TillPairs") 43 rfl rfl) rfl rfl d k
set_option maxRecDepth 20000 in
theorem gf_X8_95_1 (X : UC p s m args meth c cc nL RX8 R fr lo D ad cs sd A) (hP : va_P D clss (wld cs ad z) H) (d : decode cc pc = .ok (.getfield 95, 3)) (k : W p l e R s m args below meth c H locs cells slots Q (F0 m (pc + 3) ls (.ref (ad 5) :: rest))) : W p l e R s m args below meth c H locs cells slots Q (F0 m pc ls (.ref (ad 1) :: rest)) := u_getN (C := RX2) (T := TX2) (N := 8) 2 1 X hP rfl rfl hin_X2 5 (Nat.le_of_ble_eq_true rfl) (nw_c1 (w := Cond.fieldLinkNest "TillPairs$Ways" 95 "TillPairs$House" "laws" "[I" "TillPairs") 61 rfl rfl) rfl rfl d k
set_option maxRecDepth 20000 in
theorem gf_X8_9_19 (X : UC p s m args meth c cc nL RX8 R fr lo D ad cs sd A) (hP : va_P D clss (wld cs ad z) H) (d : decode cc pc = .ok (.getfield 9, 3)) (k : W p l e R s m args below meth c H locs cells slots Q (F0 m (pc + 3) ls (.ref (ad 1) :: rest))) : W p l e R s m args below meth c H locs cells slots Q (F0 m pc ls (.ref (ad 19) :: rest)) := u_get (C := RX8) (T := TX8) (N := 7) 8 19 X hP rfl rfl hin_X8 0 (Nat.le_of_ble_eq_true rfl) (tb_c1 (w := Cond.fieldLink "TillPairs$Ways" 9 "TillPairs$Ways" "home" "LTillPairs$House;") 148 rfl rfl) rfl rfl d k
set_option maxRecDepth 20000 in
theorem gf_X9_101_1 (X : UC p s m args meth c cc nL RX9 R fr lo D ad cs sd A) (hP : va_P D clss (wld cs ad z) H) (d : decode cc pc = .ok (.getfield 101, 3)) (k : W p l e R s m args below meth c H locs cells slots Q (F0 m (pc + 3) ls (.int (gI z 1 0) :: rest))) : W p l e R s m args below meth c H locs cells slots Q (F0 m pc ls (.ref (ad 1) :: rest)) := u_getN (C := RX2) (T := TX2) (N := 8) 2 1 X hP rfl rfl hin_X2 0 (Nat.le_of_ble_eq_true rfl) (nw_c1 (w := Cond.fieldLinkNest "TillPairs" 101 "TillPairs$House" "people" "I" "TillPairs") 45 rfl rfl) rfl rfl d k
set_option maxRecDepth 20000 in
theorem gf_X9_10_0 (X : UC p s m args meth c cc nL RX9 R fr lo D ad cs sd A) (hP : va_P D clss (wld cs ad z) H) (d : decode cc pc = .ok (.getfield 10, 3)) (k : W p l e R s m args below meth c H locs cells slots Q (F0 m (pc + 3) ls (.ref (ad 1) :: rest))) : W p l e R s m args below meth c H locs cells slots Q (F0 m pc ls (.ref (ad 0) :: rest)) := u_get (C := RX9) (T := TX9) (N := 12) 9 0 X hP rfl rfl hin_X9 0 (Nat.le_of_ble_eq_true rfl) (tb_c2 (w := Cond.fieldLink "TillPairs" 10 "TillPairs" "home" "LTillPairs$House;") 38 rfl rfl) rfl rfl d k
set_option maxRecDepth 20000 in
theorem gf_X9_120_1 (X : UC p s m args meth c cc nL RX9 R fr lo D ad cs sd A) (hP : va_P D clss (wld cs ad z) H) (d : decode cc pc = .ok (.getfield 120, 3)) (k : W p l e R s m args below meth c H locs cells slots Q (F0 m (pc + 3) ls (.ref (ad 4) :: rest))) : W p l e R s m args below meth c H locs cells slots Q (F0 m pc ls (.ref (ad 1) :: rest)) := u_getN (C := RX2) (T := TX2) (N := 8) 2 1 X hP rfl rfl hin_X2 4 (Nat.le_of_ble_eq_true rfl) (nw_c1 (w := Cond.fieldLinkNest "TillPairs" 120 "TillPairs$House" "trustAtFirst" "[I" "TillPairs") 55 rfl rfl) rfl rfl d k
set_option maxRecDepth 20000 in
theorem gf_X9_137_1 (X : UC p s m args meth c cc nL RX9 R fr lo D ad cs sd A) (hP : va_P D clss (wld cs ad z) H) (d : decode cc pc = .ok (.getfield 137, 3)) (k : W p l e R s m args below meth c H locs cells slots Q (F0 m (pc + 3) ls (.ref (ad 5) :: rest))) : W p l e R s m args below meth c H locs cells slots Q (F0 m pc ls (.ref (ad 1) :: rest)) := u_getN (C := RX2) (T := TX2) (N := 8) 2 1 X hP rfl rfl hin_X2 5 (Nat.le_of_ble_eq_true rfl) (nw_c1 (w := Cond.fieldLinkNest "TillPairs" 137 "TillPairs$House" "laws" "[I" "TillPairs") 62 rfl rfl) rfl rfl d k
set_option maxRecDepth 20000 in
theorem gf_X9_154_1 (X : UC p s m args meth c cc nL RX9 R fr lo D ad cs sd A) (hP : va_P D clss (wld cs ad z) H) (d : decode cc pc = .ok (.getfield 154, 3)) (k : W p l e R s m args below meth c H locs cells slots Q (F0 m (pc + 3) ls (.ref (ad 7) :: rest))) : W p l e R s m args below meth c H locs cells slots Q (F0 m pc ls (.ref (ad 1) :: rest)) := u_getN (C := RX2) (T := TX2) (N := 8) 2 1 X hP rfl rfl hin_X2 7 (Nat.le_of_ble_eq_true rfl) (nw_c1 (w := Cond.fieldLinkNest "TillPairs" 154 "TillPairs$House" "losses" "[I" "TillPairs") 65 rfl rfl) rfl rfl d k
set_option maxRecDepth 20000 in
theorem gf_X9_182_18 (X : UC p s m args meth c cc nL RX9 R fr lo D ad cs sd A) (hP : va_P D clss (wld cs ad z) H) (d : decode cc pc = .ok (.getfield 182, 3)) (k : W p l e R s m args below meth c H locs cells slots Q (F0 m (pc + 3) ls (.long (gJ z 18 2) :: rest))) : W p l e R s m args below meth c H locs cells slots Q (F0 m pc ls (.ref (ad 18) :: rest)) := u_getN (C := RX4) (T := TX4) (N := 4) 4 18 X hP rfl rfl hin_X4 2 (Nat.le_of_ble_eq_true rfl) (nw_c1 (w := Cond.fieldLinkNest "TillPairs" 182 "TillPairs$Odds" "above" "J" "TillPairs") 128 rfl rfl) rfl rfl d k
set_option maxRecDepth 20000 in
theorem gf_X9_186_18 (X : UC p s m args meth c cc nL RX9 R fr lo D ad cs sd A) (hP : va_P D clss (wld cs ad z) H) (d : decode cc pc = .ok (.getfield 186, 3)) (k : W p l e R s m args below meth c H locs cells slots Q (F0 m (pc + 3) ls (.long (gJ z 18 3) :: rest))) : W p l e R s m args below meth c H locs cells slots Q (F0 m pc ls (.ref (ad 18) :: rest)) := u_getN (C := RX4) (T := TX4) (N := 4) 4 18 X hP rfl rfl hin_X4 3 (Nat.le_of_ble_eq_true rfl) (nw_c1 (w := Cond.fieldLinkNest "TillPairs" 186 "TillPairs$Odds" "below" "J" "TillPairs") 130 rfl rfl) rfl rfl d k
set_option maxRecDepth 20000 in
theorem gf_X9_19_0 (X : UC p s m args meth c cc nL RX9 R fr lo D ad cs sd A) (hP : va_P D clss (wld cs ad z) H) (d : decode cc pc = .ok (.getfield 19, 3)) (k : W p l e R s m args below meth c H locs cells slots Q (F0 m (pc + 3) ls (.ref (ad 8) :: rest))) : W p l e R s m args below meth c H locs cells slots Q (F0 m pc ls (.ref (ad 0) :: rest)) := u_get (C := RX9) (T := TX9) (N := 12) 9 0 X hP rfl rfl hin_X9 1 (Nat.le_of_ble_eq_true rfl) (tb_c2 (w := Cond.fieldLink "TillPairs" 19 "TillPairs" "tape" "LTillPairs$Tape;") 39 rfl rfl) rfl rfl d k
set_option maxRecDepth 20000 in
theorem gf_X9_201_19 (X : UC p s m args meth c cc nL RX9 R fr lo D ad cs sd A) (hP : va_P D clss (wld cs ad z) H) (d : decode cc pc = .ok (.getfield 201, 3)) (k : W p l e R s m args below meth c H locs cells slots Q (F0 m (pc + 3) ls (.int (gI z 19 5) :: rest))) : W p l e R s m args below meth c H locs cells slots Q (F0 m pc ls (.ref (ad 19) :: rest)) := u_getN (C := RX8) (T := TX8) (N := 7) 8 19 X hP rfl rfl hin_X8 5 (Nat.le_of_ble_eq_true rfl) (nw_c1 (w := Cond.fieldLinkNest "TillPairs" 201 "TillPairs$Ways" "changes" "I" "TillPairs") 154 rfl rfl) rfl rfl d k
set_option maxRecDepth 20000 in
theorem gf_X9_204_19 (X : UC p s m args meth c cc nL RX9 R fr lo D ad cs sd A) (hP : va_P D clss (wld cs ad z) H) (d : decode cc pc = .ok (.getfield 204, 3)) (k : W p l e R s m args below meth c H locs cells slots Q (F0 m (pc + 3) ls (.int (gI z 19 6) :: rest))) : W p l e R s m args below meth c H locs cells slots Q (F0 m pc ls (.ref (ad 19) :: rest)) := u_getN (C := RX8) (T := TX8) (N := 7) 8 19 X hP rfl rfl hin_X8 6 (Nat.le_of_ble_eq_true rfl) (nw_c1 (w := Cond.fieldLinkNest "TillPairs" 204 "TillPairs$Ways" "digits" "I" "TillPairs") 156 rfl rfl) rfl rfl d k
set_option maxRecDepth 20000 in
theorem gf_X9_222_26 (X : UC p s m args meth c cc nL RX9 R fr lo D ad cs sd A) (hP : va_P D clss (wld cs ad z) H) (d : decode cc pc = .ok (.getfield 222, 3)) (k : W p l e R s m args below meth c H locs cells slots Q (F0 m (pc + 3) ls (.int (gI z 26 3) :: rest))) : W p l e R s m args below meth c H locs cells slots Q (F0 m pc ls (.ref (ad 26) :: rest)) := u_getN (C := RX5) (T := TX5) (N := 5) 5 26 X hP rfl rfl hin_X5 3 (Nat.le_of_ble_eq_true rfl) (nw_c1 (w := Cond.fieldLinkNest "TillPairs" 222 "TillPairs$Plans" "count" "I" "TillPairs") 184 rfl rfl) rfl rfl d k
set_option maxRecDepth 20000 in
theorem gf_X9_230_26 (X : UC p s m args meth c cc nL RX9 R fr lo D ad cs sd A) (hP : va_P D clss (wld cs ad z) H) (d : decode cc pc = .ok (.getfield 230, 3)) (k : W p l e R s m args below meth c H locs cells slots Q (F0 m (pc + 3) ls (.ref (ad 27) :: rest))) : W p l e R s m args below meth c H locs cells slots Q (F0 m pc ls (.ref (ad 26) :: rest)) := u_getN (C := RX5) (T := TX5) (N := 5) 5 26 X hP rfl rfl hin_X5 0 (Nat.le_of_ble_eq_true rfl) (nw_c1 (w := Cond.fieldLinkNest "TillPairs" 230 "TillPairs$Plans" "kinds" "[I" "TillPairs") 179 rfl rfl) rfl rfl d k
set_option maxRecDepth 20000 in
theorem gf_X9_233_26 (X : UC p s m args meth c cc nL RX9 R fr lo D ad cs sd A) (hP : va_P D clss (wld cs ad z) H) (d : decode cc pc = .ok (.getfield 233, 3)) (k : W p l e R s m args below meth c H locs cells slots Q (F0 m (pc + 3) ls (.ref (ad 28) :: rest))) : W p l e R s m args below meth c H locs cells slots Q (F0 m pc ls (.ref (ad 26) :: rest)) := u_getN (C := RX5) (T := TX5) (N := 5) 5 26 X hP rfl rfl hin_X5 1 (Nat.le_of_ble_eq_true rfl) (nw_c1 (w := Cond.fieldLinkNest "TillPairs" 233 "TillPairs$Plans" "as" "[I" "TillPairs") 181 rfl rfl) rfl rfl d k
set_option maxRecDepth 20000 in
theorem gf_X9_240_26 (X : UC p s m args meth c cc nL RX9 R fr lo D ad cs sd A) (hP : va_P D clss (wld cs ad z) H) (d : decode cc pc = .ok (.getfield 240, 3)) (k : W p l e R s m args below meth c H locs cells slots Q (F0 m (pc + 3) ls (.int (gI z 26 4) :: rest))) : W p l e R s m args below meth c H locs cells slots Q (F0 m pc ls (.ref (ad 26) :: rest)) := u_getN (C := RX5) (T := TX5) (N := 5) 5 26 X hP rfl rfl hin_X5 4 (Nat.le_of_ble_eq_true rfl) (nw_c1 (w := Cond.fieldLinkNest "TillPairs" 240 "TillPairs$Plans" "z" "I" "TillPairs") 186 rfl rfl) rfl rfl d k
set_option maxRecDepth 20000 in
theorem gf_X9_248_30 (X : UC p s m args meth c cc nL RX9 R fr lo D ad cs sd A) (hP : va_P D clss (wld cs ad z) H) (d : decode cc pc = .ok (.getfield 248, 3)) (k : W p l e R s m args below meth c H locs cells slots Q (F0 m (pc + 3) ls (.ref (ad 31) :: rest))) : W p l e R s m args below meth c H locs cells slots Q (F0 m pc ls (.ref (ad 30) :: rest)) := u_getN (C := RX6) (T := TX6) (N := 4) 6 30 X hP rfl rfl hin_X6 2 (Nat.le_of_ble_eq_true rfl) (nw_c1 (w := Cond.fieldLinkNest "TillPairs" 248 "TillPairs$Rows" "cells" "[I" "TillPairs") 207 rfl rfl) rfl rfl d k
set_option maxRecDepth 20000 in
theorem gf_X9_261_34 (X : UC p s m args meth c cc nL RX9 R fr lo D ad cs sd A) (hP : va_P D clss (wld cs ad z) H) (d : decode cc pc = .ok (.getfield 261, 3)) (k : W p l e R s m args below meth c H locs cells slots Q (F0 m (pc + 3) ls (.ref (ad 35) :: rest))) : W p l e R s m args below meth c H locs cells slots Q (F0 m pc ls (.ref (ad 34) :: rest)) := u_getN (C := RX1) (T := TX1) (N := 6) 1 34 X hP rfl rfl hin_X1 0 (Nat.le_of_ble_eq_true rfl) (nw_c2 (w := Cond.fieldLinkNest "TillPairs" 261 "TillPairs$Host" "sorts" "[I" "TillPairs") 15 rfl rfl) rfl rfl d k
set_option maxRecDepth 20000 in
theorem gf_X9_269_34 (X : UC p s m args meth c cc nL RX9 R fr lo D ad cs sd A) (hP : va_P D clss (wld cs ad z) H) (d : decode cc pc = .ok (.getfield 269, 3)) (k : W p l e R s m args below meth c H locs cells slots Q (F0 m (pc + 3) ls (.ref (ad 37) :: rest))) : W p l e R s m args below meth c H locs cells slots Q (F0 m pc ls (.ref (ad 34) :: rest)) := u_getN (C := RX1) (T := TX1) (N := 6) 1 34 X hP rfl rfl hin_X1 2 (Nat.le_of_ble_eq_true rfl) (nw_c2 (w := Cond.fieldLinkNest "TillPairs" 269 "TillPairs$Host" "items" "[[I" "TillPairs") 19 rfl rfl) rfl rfl d k
set_option maxRecDepth 20000 in
theorem gf_X9_285_34 (X : UC p s m args meth c cc nL RX9 R fr lo D ad cs sd A) (hP : va_P D clss (wld cs ad z) H) (d : decode cc pc = .ok (.getfield 285, 3)) (k : W p l e R s m args below meth c H locs cells slots Q (F0 m (pc + 3) ls (.ref (ad 43) :: rest))) : W p l e R s m args below meth c H locs cells slots Q (F0 m pc ls (.ref (ad 34) :: rest)) := u_getN (C := RX1) (T := TX1) (N := 6) 1 34 X hP rfl rfl hin_X1 4 (Nat.le_of_ble_eq_true rfl) (nw_c2 (w := Cond.fieldLinkNest "TillPairs" 285 "TillPairs$Host" "heldSort" "[I" "TillPairs") 22 rfl rfl) rfl rfl d k
set_option maxRecDepth 20000 in
theorem gf_X9_288_34 (X : UC p s m args meth c cc nL RX9 R fr lo D ad cs sd A) (hP : va_P D clss (wld cs ad z) H) (d : decode cc pc = .ok (.getfield 288, 3)) (k : W p l e R s m args below meth c H locs cells slots Q (F0 m (pc + 3) ls (.ref (ad 44) :: rest))) : W p l e R s m args below meth c H locs cells slots Q (F0 m pc ls (.ref (ad 34) :: rest)) := u_getN (C := RX1) (T := TX1) (N := 6) 1 34 X hP rfl rfl hin_X1 5 (Nat.le_of_ble_eq_true rfl) (nw_c2 (w := Cond.fieldLinkNest "TillPairs" 288 "TillPairs$Host" "held" "[I" "TillPairs") 24 rfl rfl) rfl rfl d k
set_option maxRecDepth 20000 in
theorem gf_X9_28_0 (X : UC p s m args meth c cc nL RX9 R fr lo D ad cs sd A) (hP : va_P D clss (wld cs ad z) H) (d : decode cc pc = .ok (.getfield 28, 3)) (k : W p l e R s m args below meth c H locs cells slots Q (F0 m (pc + 3) ls (.ref (ad 17) :: rest))) : W p l e R s m args below meth c H locs cells slots Q (F0 m pc ls (.ref (ad 0) :: rest)) := u_get (C := RX9) (T := TX9) (N := 12) 9 0 X hP rfl rfl hin_X9 2 (Nat.le_of_ble_eq_true rfl) (tb_c2 (w := Cond.fieldLink "TillPairs" 28 "TillPairs" "mind" "LTillPairs$Judge;") 40 rfl rfl) rfl rfl d k
set_option maxRecDepth 20000 in
theorem gf_X9_304_32 (X : UC p s m args meth c cc nL RX9 R fr lo D ad cs sd A) (hP : va_P D clss (wld cs ad z) H) (d : decode cc pc = .ok (.getfield 304, 3)) (k : W p l e R s m args below meth c H locs cells slots Q (F0 m (pc + 3) ls (.int (gI z 32 1) :: rest))) : W p l e R s m args below meth c H locs cells slots Q (F0 m pc ls (.ref (ad 32) :: rest)) := u_getN (C := RX0) (T := TX0) (N := 6) 0 32 X hP rfl rfl hin_X0 1 (Nat.le_of_ble_eq_true rfl) (nw_c1 (w := Cond.fieldLinkNest "TillPairs" 304 "TillPairs$Acts" "bodies" "I" "TillPairs") 228 rfl rfl) rfl rfl d k
set_option maxRecDepth 20000 in
theorem gf_X9_307_32 (X : UC p s m args meth c cc nL RX9 R fr lo D ad cs sd A) (hP : va_P D clss (wld cs ad z) H) (d : decode cc pc = .ok (.getfield 307, 3)) (k : W p l e R s m args below meth c H locs cells slots Q (F0 m (pc + 3) ls (.ref (ad 33) :: rest))) : W p l e R s m args below meth c H locs cells slots Q (F0 m pc ls (.ref (ad 32) :: rest)) := u_getN (C := RX0) (T := TX0) (N := 6) 0 32 X hP rfl rfl hin_X0 0 (Nat.le_of_ble_eq_true rfl) (nw_c1 (w := Cond.fieldLinkNest "TillPairs" 307 "TillPairs$Acts" "noted" "[I" "TillPairs") 226 rfl rfl) rfl rfl d k
set_option maxRecDepth 20000 in
theorem gf_X9_310_34 (X : UC p s m args meth c cc nL RX9 R fr lo D ad cs sd A) (hP : va_P D clss (wld cs ad z) H) (d : decode cc pc = .ok (.getfield 310, 3)) (k : W p l e R s m args below meth c H locs cells slots Q (F0 m (pc + 3) ls (.ref (ad 36) :: rest))) : W p l e R s m args below meth c H locs cells slots Q (F0 m pc ls (.ref (ad 34) :: rest)) := u_getN (C := RX1) (T := TX1) (N := 6) 1 34 X hP rfl rfl hin_X1 1 (Nat.le_of_ble_eq_true rfl) (nw_c2 (w := Cond.fieldLinkNest "TillPairs" 310 "TillPairs$Host" "lengths" "[I" "TillPairs") 17 rfl rfl) rfl rfl d k
set_option maxRecDepth 20000 in
theorem gf_X9_321_30 (X : UC p s m args meth c cc nL RX9 R fr lo D ad cs sd A) (hP : va_P D clss (wld cs ad z) H) (d : decode cc pc = .ok (.getfield 321, 3)) (k : W p l e R s m args below meth c H locs cells slots Q (F0 m (pc + 3) ls (.int (gI z 30 3) :: rest))) : W p l e R s m args below meth c H locs cells slots Q (F0 m pc ls (.ref (ad 30) :: rest)) := u_getN (C := RX6) (T := TX6) (N := 4) 6 30 X hP rfl rfl hin_X6 3 (Nat.le_of_ble_eq_true rfl) (nw_c1 (w := Cond.fieldLinkNest "TillPairs" 321 "TillPairs$Rows" "count" "I" "TillPairs") 209 rfl rfl) rfl rfl d k
set_option maxRecDepth 20000 in
theorem gf_X9_37_0 (X : UC p s m args meth c cc nL RX9 R fr lo D ad cs sd A) (hP : va_P D clss (wld cs ad z) H) (d : decode cc pc = .ok (.getfield 37, 3)) (k : W p l e R s m args below meth c H locs cells slots Q (F0 m (pc + 3) ls (.ref (ad 18) :: rest))) : W p l e R s m args below meth c H locs cells slots Q (F0 m pc ls (.ref (ad 0) :: rest)) := u_get (C := RX9) (T := TX9) (N := 12) 9 0 X hP rfl rfl hin_X9 3 (Nat.le_of_ble_eq_true rfl) (tb_c2 (w := Cond.fieldLink "TillPairs" 37 "TillPairs" "odds" "LTillPairs$Odds;") 41 rfl rfl) rfl rfl d k
set_option maxRecDepth 20000 in
theorem gf_X9_44_0 (X : UC p s m args meth c cc nL RX9 R fr lo D ad cs sd A) (hP : va_P D clss (wld cs ad z) H) (d : decode cc pc = .ok (.getfield 44, 3)) (k : W p l e R s m args below meth c H locs cells slots Q (F0 m (pc + 3) ls (.ref (ad 19) :: rest))) : W p l e R s m args below meth c H locs cells slots Q (F0 m pc ls (.ref (ad 0) :: rest)) := u_get (C := RX9) (T := TX9) (N := 12) 9 0 X hP rfl rfl hin_X9 4 (Nat.le_of_ble_eq_true rfl) (tb_c2 (w := Cond.fieldLink "TillPairs" 44 "TillPairs" "ways" "LTillPairs$Ways;") 42 rfl rfl) rfl rfl d k
set_option maxRecDepth 20000 in
theorem gf_X9_51_0 (X : UC p s m args meth c cc nL RX9 R fr lo D ad cs sd A) (hP : va_P D clss (wld cs ad z) H) (d : decode cc pc = .ok (.getfield 51, 3)) (k : W p l e R s m args below meth c H locs cells slots Q (F0 m (pc + 3) ls (.ref (ad 26) :: rest))) : W p l e R s m args below meth c H locs cells slots Q (F0 m pc ls (.ref (ad 0) :: rest)) := u_get (C := RX9) (T := TX9) (N := 12) 9 0 X hP rfl rfl hin_X9 5 (Nat.le_of_ble_eq_true rfl) (tb_c2 (w := Cond.fieldLink "TillPairs" 51 "TillPairs" "plans" "LTillPairs$Plans;") 43 rfl rfl) rfl rfl d k
set_option maxRecDepth 20000 in
theorem gf_X9_58_0 (X : UC p s m args meth c cc nL RX9 R fr lo D ad cs sd A) (hP : va_P D clss (wld cs ad z) H) (d : decode cc pc = .ok (.getfield 58, 3)) (k : W p l e R s m args below meth c H locs cells slots Q (F0 m (pc + 3) ls (.ref (ad 30) :: rest))) : W p l e R s m args below meth c H locs cells slots Q (F0 m pc ls (.ref (ad 0) :: rest)) := u_get (C := RX9) (T := TX9) (N := 12) 9 0 X hP rfl rfl hin_X9 6 (Nat.le_of_ble_eq_true rfl) (tb_c2 (w := Cond.fieldLink "TillPairs" 58 "TillPairs" "rows" "LTillPairs$Rows;") 44 rfl rfl) rfl rfl d k
set_option maxRecDepth 20000 in
theorem gf_X9_65_0 (X : UC p s m args meth c cc nL RX9 R fr lo D ad cs sd A) (hP : va_P D clss (wld cs ad z) H) (d : decode cc pc = .ok (.getfield 65, 3)) (k : W p l e R s m args below meth c H locs cells slots Q (F0 m (pc + 3) ls (.ref (ad 32) :: rest))) : W p l e R s m args below meth c H locs cells slots Q (F0 m pc ls (.ref (ad 0) :: rest)) := u_get (C := RX9) (T := TX9) (N := 12) 9 0 X hP rfl rfl hin_X9 7 (Nat.le_of_ble_eq_true rfl) (tb_c2 (w := Cond.fieldLink "TillPairs" 65 "TillPairs" "acts" "LTillPairs$Acts;") 45 rfl rfl) rfl rfl d k
set_option maxRecDepth 20000 in
theorem gf_X9_72_0 (X : UC p s m args meth c cc nL RX9 R fr lo D ad cs sd A) (hP : va_P D clss (wld cs ad z) H) (d : decode cc pc = .ok (.getfield 72, 3)) (k : W p l e R s m args below meth c H locs cells slots Q (F0 m (pc + 3) ls (.ref (ad 34) :: rest))) : W p l e R s m args below meth c H locs cells slots Q (F0 m pc ls (.ref (ad 0) :: rest)) := u_get (C := RX9) (T := TX9) (N := 12) 9 0 X hP rfl rfl hin_X9 8 (Nat.le_of_ble_eq_true rfl) (tb_c2 (w := Cond.fieldLink "TillPairs" 72 "TillPairs" "host" "LTillPairs$Host;") 46 rfl rfl) rfl rfl d k
set_option maxRecDepth 20000 in
theorem gf_X9_76_0 (X : UC p s m args meth c cc nL RX9 R fr lo D ad cs sd A) (hP : va_P D clss (wld cs ad z) H) (d : decode cc pc = .ok (.getfield 76, 3)) (k : W p l e R s m args below meth c H locs cells slots Q (F0 m (pc + 3) ls (.ref (ad 45) :: rest))) : W p l e R s m args below meth c H locs cells slots Q (F0 m pc ls (.ref (ad 0) :: rest)) := u_get (C := RX9) (T := TX9) (N := 12) 9 0 X hP rfl rfl hin_X9 9 (Nat.le_of_ble_eq_true rfl) (tb_c2 (w := Cond.fieldLink "TillPairs" 76 "TillPairs" "keptHome" "LTillPairs$House;") 47 rfl rfl) rfl rfl d k
set_option maxRecDepth 20000 in
theorem gf_X9_79_0 (X : UC p s m args meth c cc nL RX9 R fr lo D ad cs sd A) (hP : va_P D clss (wld cs ad z) H) (d : decode cc pc = .ok (.getfield 79, 3)) (k : W p l e R s m args below meth c H locs cells slots Q (F0 m (pc + 3) ls (.ref (ad 52) :: rest))) : W p l e R s m args below meth c H locs cells slots Q (F0 m pc ls (.ref (ad 0) :: rest)) := u_get (C := RX9) (T := TX9) (N := 12) 9 0 X hP rfl rfl hin_X9 10 (Nat.le_of_ble_eq_true rfl) (tb_c2 (w := Cond.fieldLink "TillPairs" 79 "TillPairs" "keptPlans" "LTillPairs$Plans;") 48 rfl rfl) rfl rfl d k
set_option maxRecDepth 20000 in
theorem gf_X9_82_0 (X : UC p s m args meth c cc nL RX9 R fr lo D ad cs sd A) (hP : va_P D clss (wld cs ad z) H) (d : decode cc pc = .ok (.getfield 82, 3)) (k : W p l e R s m args below meth c H locs cells slots Q (F0 m (pc + 3) ls (.int (gI z 0 11) :: rest))) : W p l e R s m args below meth c H locs cells slots Q (F0 m pc ls (.ref (ad 0) :: rest)) := u_get (C := RX9) (T := TX9) (N := 12) 9 0 X hP rfl rfl hin_X9 11 (Nat.le_of_ble_eq_true rfl) (tb_c2 (w := Cond.fieldLink "TillPairs" 82 "TillPairs" "kept" "Z") 49 rfl rfl) rfl rfl d k
set_option maxRecDepth 20000 in
theorem gf_X9_86_8 (X : UC p s m args meth c cc nL RX9 R fr lo D ad cs sd A) (hP : va_P D clss (wld cs ad z) H) (d : decode cc pc = .ok (.getfield 86, 3)) (k : W p l e R s m args below meth c H locs cells slots Q (F0 m (pc + 3) ls (.int (gI z 8 2) :: rest))) : W p l e R s m args below meth c H locs cells slots Q (F0 m pc ls (.ref (ad 8) :: rest)) := u_getN (C := RX7) (T := TX7) (N := 5) 7 8 X hP rfl rfl hin_X7 2 (Nat.le_of_ble_eq_true rfl) (nw_c1 (w := Cond.fieldLinkNest "TillPairs" 86 "TillPairs$Tape" "length" "I" "TillPairs") 95 rfl rfl) rfl rfl d k
set_option maxRecDepth 20000 in
theorem pf_X0_15_32 {v : Int32} (X : UC p s m args meth c cc nL RX0 R fr lo D ad cs sd A) (hP : va_P D clss (wld cs ad z) H) (hS : va_S A s.heap H locs) (d : decode cc pc = .ok (.putfield 15, 3)) (k : ∀ (H : Heap) (locs : List Loc), va_P D clss (wld cs ad (pI z 32 1 v)) H → va_S A s.heap H locs → W p l e R s m args below meth c H locs cells slots Q (F0 m (pc + 3) ls rest)) : W p l e R s m args below meth c H locs cells slots Q (F0 m pc ls (.int v :: .ref (ad 32) :: rest)) := u_put (C := RX0) (T := TX0) (N := 6) (ty := .int) 0 32 (pI z 32 1 v) X hP hS rfl rfl hin_X0 tyX0 tyX0_ok nmX0 1 (Nat.le_of_ble_eq_true rfl) (tb_c1 (w := Cond.fieldLink "TillPairs$Acts" 15 "TillPairs$Acts" "bodies" "I") 227 rfl rfl) rfl rfl (by decide +kernel) rfl rfl (Nat.le_of_ble_eq_true rfl) rfl d k
set_option maxRecDepth 20000 in
theorem pf_X0_19_32 {v : Int32} (X : UC p s m args meth c cc nL RX0 R fr lo D ad cs sd A) (hP : va_P D clss (wld cs ad z) H) (hS : va_S A s.heap H locs) (d : decode cc pc = .ok (.putfield 19, 3)) (k : ∀ (H : Heap) (locs : List Loc), va_P D clss (wld cs ad (pI z 32 2 v)) H → va_S A s.heap H locs → W p l e R s m args below meth c H locs cells slots Q (F0 m (pc + 3) ls rest)) : W p l e R s m args below meth c H locs cells slots Q (F0 m pc ls (.int v :: .ref (ad 32) :: rest)) := u_put (C := RX0) (T := TX0) (N := 6) (ty := .int) 0 32 (pI z 32 2 v) X hP hS rfl rfl hin_X0 tyX0 tyX0_ok nmX0 2 (Nat.le_of_ble_eq_true rfl) (tb_c1 (w := Cond.fieldLink "TillPairs$Acts" 19 "TillPairs$Acts" "kind" "I") 229 rfl rfl) rfl rfl (by decide +kernel) rfl rfl (Nat.le_of_ble_eq_true rfl) rfl d k
set_option maxRecDepth 20000 in
theorem pf_X0_22_32 {v : Int32} (X : UC p s m args meth c cc nL RX0 R fr lo D ad cs sd A) (hP : va_P D clss (wld cs ad z) H) (hS : va_S A s.heap H locs) (d : decode cc pc = .ok (.putfield 22, 3)) (k : ∀ (H : Heap) (locs : List Loc), va_P D clss (wld cs ad (pI z 32 3 v)) H → va_S A s.heap H locs → W p l e R s m args below meth c H locs cells slots Q (F0 m (pc + 3) ls rest)) : W p l e R s m args below meth c H locs cells slots Q (F0 m pc ls (.int v :: .ref (ad 32) :: rest)) := u_put (C := RX0) (T := TX0) (N := 6) (ty := .int) 0 32 (pI z 32 3 v) X hP hS rfl rfl hin_X0 tyX0 tyX0_ok nmX0 3 (Nat.le_of_ble_eq_true rfl) (tb_c1 (w := Cond.fieldLink "TillPairs$Acts" 22 "TillPairs$Acts" "number" "I") 230 rfl rfl) rfl rfl (by decide +kernel) rfl rfl (Nat.le_of_ble_eq_true rfl) rfl d k
set_option maxRecDepth 20000 in
theorem pf_X0_25_32 {v : Int32} (X : UC p s m args meth c cc nL RX0 R fr lo D ad cs sd A) (hP : va_P D clss (wld cs ad z) H) (hS : va_S A s.heap H locs) (d : decode cc pc = .ok (.putfield 25, 3)) (k : ∀ (H : Heap) (locs : List Loc), va_P D clss (wld cs ad (pI z 32 4 v)) H → va_S A s.heap H locs → W p l e R s m args below meth c H locs cells slots Q (F0 m (pc + 3) ls rest)) : W p l e R s m args below meth c H locs cells slots Q (F0 m pc ls (.int v :: .ref (ad 32) :: rest)) := u_put (C := RX0) (T := TX0) (N := 6) (ty := .int) 0 32 (pI z 32 4 v) X hP hS rfl rfl hin_X0 tyX0 tyX0_ok nmX0 4 (Nat.le_of_ble_eq_true rfl) (tb_c1 (w := Cond.fieldLink "TillPairs$Acts" 25 "TillPairs$Acts" "a" "I") 231 rfl rfl) rfl rfl (by decide +kernel) rfl rfl (Nat.le_of_ble_eq_true rfl) rfl d k
set_option maxRecDepth 20000 in
theorem pf_X0_28_32 {v : Int32} (X : UC p s m args meth c cc nL RX0 R fr lo D ad cs sd A) (hP : va_P D clss (wld cs ad z) H) (hS : va_S A s.heap H locs) (hb : v = 0 ∨ v = 1) (d : decode cc pc = .ok (.putfield 28, 3)) (k : ∀ (H : Heap) (locs : List Loc), va_P D clss (wld cs ad (pI z 32 5 v)) H → va_S A s.heap H locs → W p l e R s m args below meth c H locs cells slots Q (F0 m (pc + 3) ls rest)) : W p l e R s m args below meth c H locs cells slots Q (F0 m pc ls (.int v :: .ref (ad 32) :: rest)) := u_put (C := RX0) (T := TX0) (N := 6) (ty := .boolean) 0 32 (pI z 32 5 v) X hP hS rfl rfl hin_X0 tyX0 tyX0_ok nmX0 5 (Nat.le_of_ble_eq_true rfl) (tb_c1 (w := Cond.fieldLink "TillPairs$Acts" 28 "TillPairs$Acts" "parted" "Z") 232 rfl rfl) rfl rfl (by decide +kernel) (by rcases hb with h | h <;> subst h <;> rfl) (by rcases hb with h | h <;> subst h <;> rfl) (Nat.le_of_ble_eq_true rfl) rfl d k
set_option maxRecDepth 20000 in
theorem pf_X10_102_56 {v : Int32} (X : UC p s m args meth c cc nL RX10 R fr lo D ad cs sd A) (hP : va_P D clss (wld cs ad z) H) (hS : va_S A s.heap H locs) (d : decode cc pc = .ok (.putfield 102, 3)) (k : ∀ (H : Heap) (locs : List Loc), va_P D clss (wld cs ad (pI z 56 0 v)) H → va_S A s.heap H locs → W p l e R s m args below meth c H locs cells slots Q (F0 m (pc + 3) ls rest)) : W p l e R s m args below meth c H locs cells slots Q (F0 m pc ls (.int v :: .ref (ad 56) :: rest)) := u_put (C := RX10) (T := TX10) (N := 51) (ty := .int) 10 56 (pI z 56 0 v) X hP hS rfl rfl hin_X10 tyX10 tyX10_ok nmX10 0 (Nat.le_of_ble_eq_true rfl) (tb_c5 (w := Cond.fieldLink "TillPairsModel" 102 "TillPairsModel" "people" "I") 79 rfl rfl) rfl rfl (by decide +kernel) rfl rfl (Nat.le_of_ble_eq_true rfl) rfl d k
set_option maxRecDepth 20000 in
theorem pf_X10_113_56 {v : Int32} (X : UC p s m args meth c cc nL RX10 R fr lo D ad cs sd A) (hP : va_P D clss (wld cs ad z) H) (hS : va_S A s.heap H locs) (d : decode cc pc = .ok (.putfield 113, 3)) (k : ∀ (H : Heap) (locs : List Loc), va_P D clss (wld cs ad (pI z 56 13 v)) H → va_S A s.heap H locs → W p l e R s m args below meth c H locs cells slots Q (F0 m (pc + 3) ls rest)) : W p l e R s m args below meth c H locs cells slots Q (F0 m pc ls (.int v :: .ref (ad 56) :: rest)) := u_put (C := RX10) (T := TX10) (N := 51) (ty := .int) 10 56 (pI z 56 13 v) X hP hS rfl rfl hin_X10 tyX10 tyX10_ok nmX10 13 (Nat.le_of_ble_eq_true rfl) (tb_c5 (w := Cond.fieldLink "TillPairsModel" 113 "TillPairsModel" "tapeMany" "I") 92 rfl rfl) rfl rfl (by decide +kernel) rfl rfl (Nat.le_of_ble_eq_true rfl) rfl d k
set_option maxRecDepth 20000 in
theorem pf_X10_118_56 {v : Int32} (X : UC p s m args meth c cc nL RX10 R fr lo D ad cs sd A) (hP : va_P D clss (wld cs ad z) H) (hS : va_S A s.heap H locs) (d : decode cc pc = .ok (.putfield 118, 3)) (k : ∀ (H : Heap) (locs : List Loc), va_P D clss (wld cs ad (pI z 56 16 v)) H → va_S A s.heap H locs → W p l e R s m args below meth c H locs cells slots Q (F0 m (pc + 3) ls rest)) : W p l e R s m args below meth c H locs cells slots Q (F0 m pc ls (.int v :: .ref (ad 56) :: rest)) := u_put (C := RX10) (T := TX10) (N := 51) (ty := .int) 10 56 (pI z 56 16 v) X hP hS rfl rfl hin_X10 tyX10 tyX10_ok nmX10 16 (Nat.le_of_ble_eq_true rfl) (tb_c5 (w := Cond.fieldLink "TillPairsModel" 118 "TillPairsModel" "tokenEnds" "I") 95 rfl rfl) rfl rfl (by decide +kernel) rfl rfl (Nat.le_of_ble_eq_true rfl) rfl d k
set_option maxRecDepth 20000 in
theorem pf_X10_121_56 {v : Int32} (X : UC p s m args meth c cc nL RX10 R fr lo D ad cs sd A) (hP : va_P D clss (wld cs ad z) H) (hS : va_S A s.heap H locs) (d : decode cc pc = .ok (.putfield 121, 3)) (k : ∀ (H : Heap) (locs : List Loc), va_P D clss (wld cs ad (pI z 56 15 v)) H → va_S A s.heap H locs → W p l e R s m args below meth c H locs cells slots Q (F0 m (pc + 3) ls rest)) : W p l e R s m args below meth c H locs cells slots Q (F0 m pc ls (.int v :: .ref (ad 56) :: rest)) := u_put (C := RX10) (T := TX10) (N := 51) (ty := .int) 10 56 (pI z 56 15 v) X hP hS rfl rfl hin_X10 tyX10 tyX10_ok nmX10 15 (Nat.le_of_ble_eq_true rfl) (tb_c5 (w := Cond.fieldLink "TillPairsModel" 121 "TillPairsModel" "begins" "I") 94 rfl rfl) rfl rfl (by decide +kernel) rfl rfl (Nat.le_of_ble_eq_true rfl) rfl d k
set_option maxRecDepth 20000 in
theorem pf_X10_134_56 {v : Int32} (X : UC p s m args meth c cc nL RX10 R fr lo D ad cs sd A) (hP : va_P D clss (wld cs ad z) H) (hS : va_S A s.heap H locs) (d : decode cc pc = .ok (.putfield 134, 3)) (k : ∀ (H : Heap) (locs : List Loc), va_P D clss (wld cs ad (pI z 56 14 v)) H → va_S A s.heap H locs → W p l e R s m args below meth c H locs cells slots Q (F0 m (pc + 3) ls rest)) : W p l e R s m args below meth c H locs cells slots Q (F0 m pc ls (.int v :: .ref (ad 56) :: rest)) := u_put (C := RX10) (T := TX10) (N := 51) (ty := .int) 10 56 (pI z 56 14 v) X hP hS rfl rfl hin_X10 tyX10 tyX10_ok nmX10 14 (Nat.le_of_ble_eq_true rfl) (tb_c5 (w := Cond.fieldLink "TillPairsModel" 134 "TillPairsModel" "sort" "I") 93 rfl rfl) rfl rfl (by decide +kernel) rfl rfl (Nat.le_of_ble_eq_true rfl) rfl d k
set_option maxRecDepth 20000 in
theorem pf_X10_137_56 {v : Int64} (X : UC p s m args meth c cc nL RX10 R fr lo D ad cs sd A) (hP : va_P D clss (wld cs ad z) H) (hS : va_S A s.heap H locs) (d : decode cc pc = .ok (.putfield 137, 3)) (k : ∀ (H : Heap) (locs : List Loc), va_P D clss (wld cs ad (pJ z 56 17 v)) H → va_S A s.heap H locs → W p l e R s m args below meth c H locs cells slots Q (F0 m (pc + 3) ls rest)) : W p l e R s m args below meth c H locs cells slots Q (F0 m pc ls (.long v :: .ref (ad 56) :: rest)) := u_put (C := RX10) (T := TX10) (N := 51) (ty := .long) 10 56 (pJ z 56 17 v) X hP hS rfl rfl hin_X10 tyX10 tyX10_ok nmX10 17 (Nat.le_of_ble_eq_true rfl) (tb_c5 (w := Cond.fieldLink "TillPairsModel" 137 "TillPairsModel" "word" "J") 96 rfl rfl) rfl rfl (by decide +kernel) rfl rfl (Nat.le_of_ble_eq_true rfl) rfl d k
set_option maxRecDepth 20000 in
theorem pf_X10_141_56 {v : Int32} (X : UC p s m args meth c cc nL RX10 R fr lo D ad cs sd A) (hP : va_P D clss (wld cs ad z) H) (hS : va_S A s.heap H locs) (d : decode cc pc = .ok (.putfield 141, 3)) (k : ∀ (H : Heap) (locs : List Loc), va_P D clss (wld cs ad (pI z 56 18 v)) H → va_S A s.heap H locs → W p l e R s m args below meth c H locs cells slots Q (F0 m (pc + 3) ls rest)) : W p l e R s m args below meth c H locs cells slots Q (F0 m pc ls (.int v :: .ref (ad 56) :: rest)) := u_put (C := RX10) (T := TX10) (N := 51) (ty := .int) 10 56 (pI z 56 18 v) X hP hS rfl rfl hin_X10 tyX10 tyX10_ok nmX10 18 (Nat.le_of_ble_eq_true rfl) (tb_c5 (w := Cond.fieldLink "TillPairsModel" 141 "TillPairsModel" "value" "I") 97 rfl rfl) rfl rfl (by decide +kernel) rfl rfl (Nat.le_of_ble_eq_true rfl) rfl d k
set_option maxRecDepth 20000 in
theorem pf_X10_170_56 {v : Int32} (X : UC p s m args meth c cc nL RX10 R fr lo D ad cs sd A) (hP : va_P D clss (wld cs ad z) H) (hS : va_S A s.heap H locs) (hb : v = 0 ∨ v = 1) (d : decode cc pc = .ok (.putfield 170, 3)) (k : ∀ (H : Heap) (locs : List Loc), va_P D clss (wld cs ad (pI z 56 19 v)) H → va_S A s.heap H locs → W p l e R s m args below meth c H locs cells slots Q (F0 m (pc + 3) ls rest)) : W p l e R s m args below meth c H locs cells slots Q (F0 m pc ls (.int v :: .ref (ad 56) :: rest)) := u_put (C := RX10) (T := TX10) (N := 51) (ty := .boolean) 10 56 (pI z 56 19 v) X hP hS rfl rfl hin_X10 tyX10 tyX10_ok nmX10 19 (Nat.le_of_ble_eq_true rfl) (tb_c5 (w := Cond.fieldLink "TillPairsModel" 170 "TillPairsModel" "good" "Z") 98 rfl rfl) rfl rfl (by decide +kernel) (by rcases hb with h | h <;> subst h <;> rfl) (by rcases hb with h | h <;> subst h <;> rfl) (Nat.le_of_ble_eq_true rfl) rfl d k
set_option maxRecDepth 20000 in
theorem pf_X10_180_56 {v : Int32} (X : UC p s m args meth c cc nL RX10 R fr lo D ad cs sd A) (hP : va_P D clss (wld cs ad z) H) (hS : va_S A s.heap H locs) (d : decode cc pc = .ok (.putfield 180, 3)) (k : ∀ (H : Heap) (locs : List Loc), va_P D clss (wld cs ad (pI z 56 20 v)) H → va_S A s.heap H locs → W p l e R s m args below meth c H locs cells slots Q (F0 m (pc + 3) ls rest)) : W p l e R s m args below meth c H locs cells slots Q (F0 m pc ls (.int v :: .ref (ad 56) :: rest)) := u_put (C := RX10) (T := TX10) (N := 51) (ty := .int) 10 56 (pI z 56 20 v) X hP hS rfl rfl hin_X10 tyX10 tyX10_ok nmX10 20 (Nat.le_of_ble_eq_true rfl) (tb_c5 (w := Cond.fieldLink "TillPairsModel" 180 "TillPairsModel" "freshPeople" "I") 99 rfl rfl) rfl rfl (by decide +kernel) rfl rfl (Nat.le_of_ble_eq_true rfl) rfl d k
set_option maxRecDepth 20000 in
theorem pf_X10_220_56 {v : Int32} (X : UC p s m args meth c cc nL RX10 R fr lo D ad cs sd A) (hP : va_P D clss (wld cs ad z) H) (hS : va_S A s.heap H locs) (d : decode cc pc = .ok (.putfield 220, 3)) (k : ∀ (H : Heap) (locs : List Loc), va_P D clss (wld cs ad (pI z 56 5 v)) H → va_S A s.heap H locs → W p l e R s m args below meth c H locs cells slots Q (F0 m (pc + 3) ls rest)) : W p l e R s m args below meth c H locs cells slots Q (F0 m pc ls (.int v :: .ref (ad 56) :: rest)) := u_put (C := RX10) (T := TX10) (N := 51) (ty := .int) 10 56 (pI z 56 5 v) X hP hS rfl rfl hin_X10 tyX10 tyX10_ok nmX10 5 (Nat.le_of_ble_eq_true rfl) (tb_c5 (w := Cond.fieldLink "TillPairsModel" 220 "TillPairsModel" "surprises" "I") 84 rfl rfl) rfl rfl (by decide +kernel) rfl rfl (Nat.le_of_ble_eq_true rfl) rfl d k
set_option maxRecDepth 20000 in
theorem pf_X10_223_56 {v : Int32} (X : UC p s m args meth c cc nL RX10 R fr lo D ad cs sd A) (hP : va_P D clss (wld cs ad z) H) (hS : va_S A s.heap H locs) (d : decode cc pc = .ok (.putfield 223, 3)) (k : ∀ (H : Heap) (locs : List Loc), va_P D clss (wld cs ad (pI z 56 34 v)) H → va_S A s.heap H locs → W p l e R s m args below meth c H locs cells slots Q (F0 m (pc + 3) ls rest)) : W p l e R s m args below meth c H locs cells slots Q (F0 m pc ls (.int v :: .ref (ad 56) :: rest)) := u_put (C := RX10) (T := TX10) (N := 51) (ty := .int) 10 56 (pI z 56 34 v) X hP hS rfl rfl hin_X10 tyX10 tyX10_ok nmX10 34 (Nat.le_of_ble_eq_true rfl) (tb_c5 (w := Cond.fieldLink "TillPairsModel" 223 "TillPairsModel" "rowMany" "I") 113 rfl rfl) rfl rfl (by decide +kernel) rfl rfl (Nat.le_of_ble_eq_true rfl) rfl d k
set_option maxRecDepth 20000 in
theorem pf_X10_275_56 {v : Int64} (X : UC p s m args meth c cc nL RX10 R fr lo D ad cs sd A) (hP : va_P D clss (wld cs ad z) H) (hS : va_S A s.heap H locs) (d : decode cc pc = .ok (.putfield 275, 3)) (k : ∀ (H : Heap) (locs : List Loc), va_P D clss (wld cs ad (pJ z 56 25 v)) H → va_S A s.heap H locs → W p l e R s m args below meth c H locs cells slots Q (F0 m (pc + 3) ls rest)) : W p l e R s m args below meth c H locs cells slots Q (F0 m pc ls (.long v :: .ref (ad 56) :: rest)) := u_put (C := RX10) (T := TX10) (N := 51) (ty := .long) 10 56 (pJ z 56 25 v) X hP hS rfl rfl hin_X10 tyX10 tyX10_ok nmX10 25 (Nat.le_of_ble_eq_true rfl) (tb_c5 (w := Cond.fieldLink "TillPairsModel" 275 "TillPairsModel" "above" "J") 104 rfl rfl) rfl rfl (by decide +kernel) rfl rfl (Nat.le_of_ble_eq_true rfl) rfl d k
set_option maxRecDepth 20000 in
theorem pf_X10_278_56 {v : Int64} (X : UC p s m args meth c cc nL RX10 R fr lo D ad cs sd A) (hP : va_P D clss (wld cs ad z) H) (hS : va_S A s.heap H locs) (d : decode cc pc = .ok (.putfield 278, 3)) (k : ∀ (H : Heap) (locs : List Loc), va_P D clss (wld cs ad (pJ z 56 26 v)) H → va_S A s.heap H locs → W p l e R s m args below meth c H locs cells slots Q (F0 m (pc + 3) ls rest)) : W p l e R s m args below meth c H locs cells slots Q (F0 m pc ls (.long v :: .ref (ad 56) :: rest)) := u_put (C := RX10) (T := TX10) (N := 51) (ty := .long) 10 56 (pJ z 56 26 v) X hP hS rfl rfl hin_X10 tyX10 tyX10_ok nmX10 26 (Nat.le_of_ble_eq_true rfl) (tb_c5 (w := Cond.fieldLink "TillPairsModel" 278 "TillPairsModel" "below" "J") 105 rfl rfl) rfl rfl (by decide +kernel) rfl rfl (Nat.le_of_ble_eq_true rfl) rfl d k
set_option maxRecDepth 20000 in
theorem pf_X10_315_56 {v : Int32} (X : UC p s m args meth c cc nL RX10 R fr lo D ad cs sd A) (hP : va_P D clss (wld cs ad z) H) (hS : va_S A s.heap H locs) (d : decode cc pc = .ok (.putfield 315, 3)) (k : ∀ (H : Heap) (locs : List Loc), va_P D clss (wld cs ad (pI z 56 9 v)) H → va_S A s.heap H locs → W p l e R s m args below meth c H locs cells slots Q (F0 m (pc + 3) ls rest)) : W p l e R s m args below meth c H locs cells slots Q (F0 m pc ls (.int v :: .ref (ad 56) :: rest)) := u_put (C := RX10) (T := TX10) (N := 51) (ty := .int) 10 56 (pI z 56 9 v) X hP hS rfl rfl hin_X10 tyX10 tyX10_ok nmX10 9 (Nat.le_of_ble_eq_true rfl) (tb_c5 (w := Cond.fieldLink "TillPairsModel" 315 "TillPairsModel" "plans" "I") 88 rfl rfl) rfl rfl (by decide +kernel) rfl rfl (Nat.le_of_ble_eq_true rfl) rfl d k
set_option maxRecDepth 20000 in
theorem pf_X10_34_56 {v : Int32} (X : UC p s m args meth c cc nL RX10 R fr lo D ad cs sd A) (hP : va_P D clss (wld cs ad z) H) (hS : va_S A s.heap H locs) (d : decode cc pc = .ok (.putfield 34, 3)) (k : ∀ (H : Heap) (locs : List Loc), va_P D clss (wld cs ad (pI z 56 11 v)) H → va_S A s.heap H locs → W p l e R s m args below meth c H locs cells slots Q (F0 m (pc + 3) ls rest)) : W p l e R s m args below meth c H locs cells slots Q (F0 m pc ls (.int v :: .ref (ad 56) :: rest)) := u_put (C := RX10) (T := TX10) (N := 51) (ty := .int) 10 56 (pI z 56 11 v) X hP hS rfl rfl hin_X10 tyX10 tyX10_ok nmX10 11 (Nat.le_of_ble_eq_true rfl) (tb_c5 (w := Cond.fieldLink "TillPairsModel" 34 "TillPairsModel" "z" "I") 90 rfl rfl) rfl rfl (by decide +kernel) rfl rfl (Nat.le_of_ble_eq_true rfl) rfl d k
set_option maxRecDepth 20000 in
theorem pf_X10_362_56 {v : Int32} (X : UC p s m args meth c cc nL RX10 R fr lo D ad cs sd A) (hP : va_P D clss (wld cs ad z) H) (hS : va_S A s.heap H locs) (d : decode cc pc = .ok (.putfield 362, 3)) (k : ∀ (H : Heap) (locs : List Loc), va_P D clss (wld cs ad (pI z 56 45 v)) H → va_S A s.heap H locs → W p l e R s m args below meth c H locs cells slots Q (F0 m (pc + 3) ls rest)) : W p l e R s m args below meth c H locs cells slots Q (F0 m pc ls (.int v :: .ref (ad 56) :: rest)) := u_put (C := RX10) (T := TX10) (N := 51) (ty := .int) 10 56 (pI z 56 45 v) X hP hS rfl rfl hin_X10 tyX10 tyX10_ok nmX10 45 (Nat.le_of_ble_eq_true rfl) (tb_c5 (w := Cond.fieldLink "TillPairsModel" 362 "TillPairsModel" "bodies" "I") 124 rfl rfl) rfl rfl (by decide +kernel) rfl rfl (Nat.le_of_ble_eq_true rfl) rfl d k
set_option maxRecDepth 20000 in
theorem pf_X10_368_56 {v : Int32} (X : UC p s m args meth c cc nL RX10 R fr lo D ad cs sd A) (hP : va_P D clss (wld cs ad z) H) (hS : va_S A s.heap H locs) (d : decode cc pc = .ok (.putfield 368, 3)) (k : ∀ (H : Heap) (locs : List Loc), va_P D clss (wld cs ad (pI z 56 42 v)) H → va_S A s.heap H locs → W p l e R s m args below meth c H locs cells slots Q (F0 m (pc + 3) ls rest)) : W p l e R s m args below meth c H locs cells slots Q (F0 m pc ls (.int v :: .ref (ad 56) :: rest)) := u_put (C := RX10) (T := TX10) (N := 51) (ty := .int) 10 56 (pI z 56 42 v) X hP hS rfl rfl hin_X10 tyX10 tyX10_ok nmX10 42 (Nat.le_of_ble_eq_true rfl) (tb_c5 (w := Cond.fieldLink "TillPairsModel" 368 "TillPairsModel" "number" "I") 121 rfl rfl) rfl rfl (by decide +kernel) rfl rfl (Nat.le_of_ble_eq_true rfl) rfl d k
set_option maxRecDepth 20000 in
theorem pf_X10_371_56 {v : Int32} (X : UC p s m args meth c cc nL RX10 R fr lo D ad cs sd A) (hP : va_P D clss (wld cs ad z) H) (hS : va_S A s.heap H locs) (d : decode cc pc = .ok (.putfield 371, 3)) (k : ∀ (H : Heap) (locs : List Loc), va_P D clss (wld cs ad (pI z 56 41 v)) H → va_S A s.heap H locs → W p l e R s m args below meth c H locs cells slots Q (F0 m (pc + 3) ls rest)) : W p l e R s m args below meth c H locs cells slots Q (F0 m pc ls (.int v :: .ref (ad 56) :: rest)) := u_put (C := RX10) (T := TX10) (N := 51) (ty := .int) 10 56 (pI z 56 41 v) X hP hS rfl rfl hin_X10 tyX10 tyX10_ok nmX10 41 (Nat.le_of_ble_eq_true rfl) (tb_c5 (w := Cond.fieldLink "TillPairsModel" 371 "TillPairsModel" "kind" "I") 120 rfl rfl) rfl rfl (by decide +kernel) rfl rfl (Nat.le_of_ble_eq_true rfl) rfl d k
set_option maxRecDepth 20000 in
theorem pf_X10_383_56 {v : Int32} (X : UC p s m args meth c cc nL RX10 R fr lo D ad cs sd A) (hP : va_P D clss (wld cs ad z) H) (hS : va_S A s.heap H locs) (d : decode cc pc = .ok (.putfield 383, 3)) (k : ∀ (H : Heap) (locs : List Loc), va_P D clss (wld cs ad (pI z 56 43 v)) H → va_S A s.heap H locs → W p l e R s m args below meth c H locs cells slots Q (F0 m (pc + 3) ls rest)) : W p l e R s m args below meth c H locs cells slots Q (F0 m pc ls (.int v :: .ref (ad 56) :: rest)) := u_put (C := RX10) (T := TX10) (N := 51) (ty := .int) 10 56 (pI z 56 43 v) X hP hS rfl rfl hin_X10 tyX10 tyX10_ok nmX10 43 (Nat.le_of_ble_eq_true rfl) (tb_c5 (w := Cond.fieldLink "TillPairsModel" 383 "TillPairsModel" "own" "I") 122 rfl rfl) rfl rfl (by decide +kernel) rfl rfl (Nat.le_of_ble_eq_true rfl) rfl d k
set_option maxRecDepth 20000 in
theorem pf_X10_389_56 {v : Int32} (X : UC p s m args meth c cc nL RX10 R fr lo D ad cs sd A) (hP : va_P D clss (wld cs ad z) H) (hS : va_S A s.heap H locs) (hb : v = 0 ∨ v = 1) (d : decode cc pc = .ok (.putfield 389, 3)) (k : ∀ (H : Heap) (locs : List Loc), va_P D clss (wld cs ad (pI z 56 46 v)) H → va_S A s.heap H locs → W p l e R s m args below meth c H locs cells slots Q (F0 m (pc + 3) ls rest)) : W p l e R s m args below meth c H locs cells slots Q (F0 m pc ls (.int v :: .ref (ad 56) :: rest)) := u_put (C := RX10) (T := TX10) (N := 51) (ty := .boolean) 10 56 (pI z 56 46 v) X hP hS rfl rfl hin_X10 tyX10 tyX10_ok nmX10 46 (Nat.le_of_ble_eq_true rfl) (tb_c5 (w := Cond.fieldLink "TillPairsModel" 389 "TillPairsModel" "isParted" "Z") 125 rfl rfl) rfl rfl (by decide +kernel) (by rcases hb with h | h <;> subst h <;> rfl) (by rcases hb with h | h <;> subst h <;> rfl) (Nat.le_of_ble_eq_true rfl) rfl d k
set_option maxRecDepth 20000 in
theorem pf_X10_407_56 {v : Int32} (X : UC p s m args meth c cc nL RX10 R fr lo D ad cs sd A) (hP : va_P D clss (wld cs ad z) H) (hS : va_S A s.heap H locs) (d : decode cc pc = .ok (.putfield 407, 3)) (k : ∀ (H : Heap) (locs : List Loc), va_P D clss (wld cs ad (pI z 56 49 v)) H → va_S A s.heap H locs → W p l e R s m args below meth c H locs cells slots Q (F0 m (pc + 3) ls rest)) : W p l e R s m args below meth c H locs cells slots Q (F0 m pc ls (.int v :: .ref (ad 56) :: rest)) := u_put (C := RX10) (T := TX10) (N := 51) (ty := .int) 10 56 (pI z 56 49 v) X hP hS rfl rfl hin_X10 tyX10 tyX10_ok nmX10 49 (Nat.le_of_ble_eq_true rfl) (tb_c5 (w := Cond.fieldLink "TillPairsModel" 407 "TillPairsModel" "movedTo" "I") 128 rfl rfl) rfl rfl (by decide +kernel) rfl rfl (Nat.le_of_ble_eq_true rfl) rfl d k
set_option maxRecDepth 20000 in
theorem pf_X10_417_56 {v : Int32} (X : UC p s m args meth c cc nL RX10 R fr lo D ad cs sd A) (hP : va_P D clss (wld cs ad z) H) (hS : va_S A s.heap H locs) (hb : v = 0 ∨ v = 1) (d : decode cc pc = .ok (.putfield 417, 3)) (k : ∀ (H : Heap) (locs : List Loc), va_P D clss (wld cs ad (pI z 56 47 v)) H → va_S A s.heap H locs → W p l e R s m args below meth c H locs cells slots Q (F0 m (pc + 3) ls rest)) : W p l e R s m args below meth c H locs cells slots Q (F0 m pc ls (.int v :: .ref (ad 56) :: rest)) := u_put (C := RX10) (T := TX10) (N := 51) (ty := .boolean) 10 56 (pI z 56 47 v) X hP hS rfl rfl hin_X10 tyX10 tyX10_ok nmX10 47 (Nat.le_of_ble_eq_true rfl) (tb_c5 (w := Cond.fieldLink "TillPairsModel" 417 "TillPairsModel" "isKept" "Z") 126 rfl rfl) rfl rfl (by decide +kernel) (by rcases hb with h | h <;> subst h <;> rfl) (by rcases hb with h | h <;> subst h <;> rfl) (Nat.le_of_ble_eq_true rfl) rfl d k
set_option maxRecDepth 20000 in
theorem pf_X2_15_1 {v : Int32} (X : UC p s m args meth c cc nL RX2 R fr lo D ad cs sd A) (hP : va_P D clss (wld cs ad z) H) (hS : va_S A s.heap H locs) (d : decode cc pc = .ok (.putfield 15, 3)) (k : ∀ (H : Heap) (locs : List Loc), va_P D clss (wld cs ad (pI z 1 1 v)) H → va_S A s.heap H locs → W p l e R s m args below meth c H locs cells slots Q (F0 m (pc + 3) ls rest)) : W p l e R s m args below meth c H locs cells slots Q (F0 m pc ls (.int v :: .ref (ad 1) :: rest)) := u_put (C := RX2) (T := TX2) (N := 8) (ty := .int) 2 1 (pI z 1 1 v) X hP hS rfl rfl hin_X2 tyX2 tyX2_ok nmX2 1 (Nat.le_of_ble_eq_true rfl) (tb_c1 (w := Cond.fieldLink "TillPairs$House" 15 "TillPairs$House" "surprises" "I") 48 rfl rfl) rfl rfl (by decide +kernel) rfl rfl (Nat.le_of_ble_eq_true rfl) rfl d k
set_option maxRecDepth 20000 in
theorem pf_X2_15_10 {v : Int32} (X : UC p s m args meth c cc nL RX2 R fr lo D ad cs sd A) (hP : va_P D clss (wld cs ad z) H) (hS : va_S A s.heap H locs) (d : decode cc pc = .ok (.putfield 15, 3)) (k : ∀ (H : Heap) (locs : List Loc), va_P D clss (wld cs ad (pI z 10 1 v)) H → va_S A s.heap H locs → W p l e R s m args below meth c H locs cells slots Q (F0 m (pc + 3) ls rest)) : W p l e R s m args below meth c H locs cells slots Q (F0 m pc ls (.int v :: .ref (ad 10) :: rest)) := u_put (C := RX2) (T := TX2) (N := 8) (ty := .int) 2 10 (pI z 10 1 v) X hP hS rfl rfl hin_X2 tyX2 tyX2_ok nmX2 1 (Nat.le_of_ble_eq_true rfl) (tb_c1 (w := Cond.fieldLink "TillPairs$House" 15 "TillPairs$House" "surprises" "I") 48 rfl rfl) rfl rfl (by decide +kernel) rfl rfl (Nat.le_of_ble_eq_true rfl) rfl d k
set_option maxRecDepth 20000 in
theorem pf_X2_15_45 {v : Int32} (X : UC p s m args meth c cc nL RX2 R fr lo D ad cs sd A) (hP : va_P D clss (wld cs ad z) H) (hS : va_S A s.heap H locs) (d : decode cc pc = .ok (.putfield 15, 3)) (k : ∀ (H : Heap) (locs : List Loc), va_P D clss (wld cs ad (pI z 45 1 v)) H → va_S A s.heap H locs → W p l e R s m args below meth c H locs cells slots Q (F0 m (pc + 3) ls rest)) : W p l e R s m args below meth c H locs cells slots Q (F0 m pc ls (.int v :: .ref (ad 45) :: rest)) := u_put (C := RX2) (T := TX2) (N := 8) (ty := .int) 2 45 (pI z 45 1 v) X hP hS rfl rfl hin_X2 tyX2 tyX2_ok nmX2 1 (Nat.le_of_ble_eq_true rfl) (tb_c1 (w := Cond.fieldLink "TillPairs$House" 15 "TillPairs$House" "surprises" "I") 48 rfl rfl) rfl rfl (by decide +kernel) rfl rfl (Nat.le_of_ble_eq_true rfl) rfl d k
set_option maxRecDepth 20000 in
theorem pf_X2_9_1 {v : Int32} (X : UC p s m args meth c cc nL RX2 R fr lo D ad cs sd A) (hP : va_P D clss (wld cs ad z) H) (hS : va_S A s.heap H locs) (d : decode cc pc = .ok (.putfield 9, 3)) (k : ∀ (H : Heap) (locs : List Loc), va_P D clss (wld cs ad (pI z 1 0 v)) H → va_S A s.heap H locs → W p l e R s m args below meth c H locs cells slots Q (F0 m (pc + 3) ls rest)) : W p l e R s m args below meth c H locs cells slots Q (F0 m pc ls (.int v :: .ref (ad 1) :: rest)) := u_put (C := RX2) (T := TX2) (N := 8) (ty := .int) 2 1 (pI z 1 0 v) X hP hS rfl rfl hin_X2 tyX2 tyX2_ok nmX2 0 (Nat.le_of_ble_eq_true rfl) (tb_c1 (w := Cond.fieldLink "TillPairs$House" 9 "TillPairs$House" "people" "I") 42 rfl rfl) rfl rfl (by decide +kernel) rfl rfl (Nat.le_of_ble_eq_true rfl) rfl d k
set_option maxRecDepth 20000 in
theorem pf_X2_9_10 {v : Int32} (X : UC p s m args meth c cc nL RX2 R fr lo D ad cs sd A) (hP : va_P D clss (wld cs ad z) H) (hS : va_S A s.heap H locs) (d : decode cc pc = .ok (.putfield 9, 3)) (k : ∀ (H : Heap) (locs : List Loc), va_P D clss (wld cs ad (pI z 10 0 v)) H → va_S A s.heap H locs → W p l e R s m args below meth c H locs cells slots Q (F0 m (pc + 3) ls rest)) : W p l e R s m args below meth c H locs cells slots Q (F0 m pc ls (.int v :: .ref (ad 10) :: rest)) := u_put (C := RX2) (T := TX2) (N := 8) (ty := .int) 2 10 (pI z 10 0 v) X hP hS rfl rfl hin_X2 tyX2 tyX2_ok nmX2 0 (Nat.le_of_ble_eq_true rfl) (tb_c1 (w := Cond.fieldLink "TillPairs$House" 9 "TillPairs$House" "people" "I") 42 rfl rfl) rfl rfl (by decide +kernel) rfl rfl (Nat.le_of_ble_eq_true rfl) rfl d k
set_option maxRecDepth 20000 in
theorem pf_X2_9_45 {v : Int32} (X : UC p s m args meth c cc nL RX2 R fr lo D ad cs sd A) (hP : va_P D clss (wld cs ad z) H) (hS : va_S A s.heap H locs) (d : decode cc pc = .ok (.putfield 9, 3)) (k : ∀ (H : Heap) (locs : List Loc), va_P D clss (wld cs ad (pI z 45 0 v)) H → va_S A s.heap H locs → W p l e R s m args below meth c H locs cells slots Q (F0 m (pc + 3) ls rest)) : W p l e R s m args below meth c H locs cells slots Q (F0 m pc ls (.int v :: .ref (ad 45) :: rest)) := u_put (C := RX2) (T := TX2) (N := 8) (ty := .int) 2 45 (pI z 45 0 v) X hP hS rfl rfl hin_X2 tyX2 tyX2_ok nmX2 0 (Nat.le_of_ble_eq_true rfl) (tb_c1 (w := Cond.fieldLink "TillPairs$House" 9 "TillPairs$House" "people" "I") 42 rfl rfl) rfl rfl (by decide +kernel) rfl rfl (Nat.le_of_ble_eq_true rfl) rfl d k
set_option maxRecDepth 20000 in
theorem pf_X4_19_18 {v : Int64} (X : UC p s m args meth c cc nL RX4 R fr lo D ad cs sd A) (hP : va_P D clss (wld cs ad z) H) (hS : va_S A s.heap H locs) (d : decode cc pc = .ok (.putfield 19, 3)) (k : ∀ (H : Heap) (locs : List Loc), va_P D clss (wld cs ad (pJ z 18 2 v)) H → va_S A s.heap H locs → W p l e R s m args below meth c H locs cells slots Q (F0 m (pc + 3) ls rest)) : W p l e R s m args below meth c H locs cells slots Q (F0 m pc ls (.long v :: .ref (ad 18) :: rest)) := u_put (C := RX4) (T := TX4) (N := 4) (ty := .long) 4 18 (pJ z 18 2 v) X hP hS rfl rfl hin_X4 tyX4 tyX4_ok nmX4 2 (Nat.le_of_ble_eq_true rfl) (tb_c1 (w := Cond.fieldLink "TillPairs$Odds" 19 "TillPairs$Odds" "above" "J") 127 rfl rfl) rfl rfl (by decide +kernel) rfl rfl (Nat.le_of_ble_eq_true rfl) rfl d k
set_option maxRecDepth 20000 in
theorem pf_X4_23_18 {v : Int64} (X : UC p s m args meth c cc nL RX4 R fr lo D ad cs sd A) (hP : va_P D clss (wld cs ad z) H) (hS : va_S A s.heap H locs) (d : decode cc pc = .ok (.putfield 23, 3)) (k : ∀ (H : Heap) (locs : List Loc), va_P D clss (wld cs ad (pJ z 18 3 v)) H → va_S A s.heap H locs → W p l e R s m args below meth c H locs cells slots Q (F0 m (pc + 3) ls rest)) : W p l e R s m args below meth c H locs cells slots Q (F0 m pc ls (.long v :: .ref (ad 18) :: rest)) := u_put (C := RX4) (T := TX4) (N := 4) (ty := .long) 4 18 (pJ z 18 3 v) X hP hS rfl rfl hin_X4 tyX4 tyX4_ok nmX4 3 (Nat.le_of_ble_eq_true rfl) (tb_c1 (w := Cond.fieldLink "TillPairs$Odds" 23 "TillPairs$Odds" "below" "J") 129 rfl rfl) rfl rfl (by decide +kernel) rfl rfl (Nat.le_of_ble_eq_true rfl) rfl d k
set_option maxRecDepth 20000 in
theorem pf_X5_21_26 {v : Int32} (X : UC p s m args meth c cc nL RX5 R fr lo D ad cs sd A) (hP : va_P D clss (wld cs ad z) H) (hS : va_S A s.heap H locs) (d : decode cc pc = .ok (.putfield 21, 3)) (k : ∀ (H : Heap) (locs : List Loc), va_P D clss (wld cs ad (pI z 26 3 v)) H → va_S A s.heap H locs → W p l e R s m args below meth c H locs cells slots Q (F0 m (pc + 3) ls rest)) : W p l e R s m args below meth c H locs cells slots Q (F0 m pc ls (.int v :: .ref (ad 26) :: rest)) := u_put (C := RX5) (T := TX5) (N := 5) (ty := .int) 5 26 (pI z 26 3 v) X hP hS rfl rfl hin_X5 tyX5 tyX5_ok nmX5 3 (Nat.le_of_ble_eq_true rfl) (tb_c1 (w := Cond.fieldLink "TillPairs$Plans" 21 "TillPairs$Plans" "count" "I") 183 rfl rfl) rfl rfl (by decide +kernel) rfl rfl (Nat.le_of_ble_eq_true rfl) rfl d k
set_option maxRecDepth 20000 in
theorem pf_X5_21_52 {v : Int32} (X : UC p s m args meth c cc nL RX5 R fr lo D ad cs sd A) (hP : va_P D clss (wld cs ad z) H) (hS : va_S A s.heap H locs) (d : decode cc pc = .ok (.putfield 21, 3)) (k : ∀ (H : Heap) (locs : List Loc), va_P D clss (wld cs ad (pI z 52 3 v)) H → va_S A s.heap H locs → W p l e R s m args below meth c H locs cells slots Q (F0 m (pc + 3) ls rest)) : W p l e R s m args below meth c H locs cells slots Q (F0 m pc ls (.int v :: .ref (ad 52) :: rest)) := u_put (C := RX5) (T := TX5) (N := 5) (ty := .int) 5 52 (pI z 52 3 v) X hP hS rfl rfl hin_X5 tyX5 tyX5_ok nmX5 3 (Nat.le_of_ble_eq_true rfl) (tb_c1 (w := Cond.fieldLink "TillPairs$Plans" 21 "TillPairs$Plans" "count" "I") 183 rfl rfl) rfl rfl (by decide +kernel) rfl rfl (Nat.le_of_ble_eq_true rfl) rfl d k
set_option maxRecDepth 20000 in
theorem pf_X5_25_26 {v : Int32} (X : UC p s m args meth c cc nL RX5 R fr lo D ad cs sd A) (hP : va_P D clss (wld cs ad z) H) (hS : va_S A s.heap H locs) (d : decode cc pc = .ok (.putfield 25, 3)) (k : ∀ (H : Heap) (locs : List Loc), va_P D clss (wld cs ad (pI z 26 4 v)) H → va_S A s.heap H locs → W p l e R s m args below meth c H locs cells slots Q (F0 m (pc + 3) ls rest)) : W p l e R s m args below meth c H locs cells slots Q (F0 m pc ls (.int v :: .ref (ad 26) :: rest)) := u_put (C := RX5) (T := TX5) (N := 5) (ty := .int) 5 26 (pI z 26 4 v) X hP hS rfl rfl hin_X5 tyX5 tyX5_ok nmX5 4 (Nat.le_of_ble_eq_true rfl) (tb_c1 (w := Cond.fieldLink "TillPairs$Plans" 25 "TillPairs$Plans" "z" "I") 185 rfl rfl) rfl rfl (by decide +kernel) rfl rfl (Nat.le_of_ble_eq_true rfl) rfl d k
set_option maxRecDepth 20000 in
theorem pf_X5_25_52 {v : Int32} (X : UC p s m args meth c cc nL RX5 R fr lo D ad cs sd A) (hP : va_P D clss (wld cs ad z) H) (hS : va_S A s.heap H locs) (d : decode cc pc = .ok (.putfield 25, 3)) (k : ∀ (H : Heap) (locs : List Loc), va_P D clss (wld cs ad (pI z 52 4 v)) H → va_S A s.heap H locs → W p l e R s m args below meth c H locs cells slots Q (F0 m (pc + 3) ls rest)) : W p l e R s m args below meth c H locs cells slots Q (F0 m pc ls (.int v :: .ref (ad 52) :: rest)) := u_put (C := RX5) (T := TX5) (N := 5) (ty := .int) 5 52 (pI z 52 4 v) X hP hS rfl rfl hin_X5 tyX5 tyX5_ok nmX5 4 (Nat.le_of_ble_eq_true rfl) (tb_c1 (w := Cond.fieldLink "TillPairs$Plans" 25 "TillPairs$Plans" "z" "I") 185 rfl rfl) rfl rfl (by decide +kernel) rfl rfl (Nat.le_of_ble_eq_true rfl) rfl d k
set_option maxRecDepth 20000 in
theorem pf_X6_23_30 {v : Int32} (X : UC p s m args meth c cc nL RX6 R fr lo D ad cs sd A) (hP : va_P D clss (wld cs ad z) H) (hS : va_S A s.heap H locs) (d : decode cc pc = .ok (.putfield 23, 3)) (k : ∀ (H : Heap) (locs : List Loc), va_P D clss (wld cs ad (pI z 30 3 v)) H → va_S A s.heap H locs → W p l e R s m args below meth c H locs cells slots Q (F0 m (pc + 3) ls rest)) : W p l e R s m args below meth c H locs cells slots Q (F0 m pc ls (.int v :: .ref (ad 30) :: rest)) := u_put (C := RX6) (T := TX6) (N := 4) (ty := .int) 6 30 (pI z 30 3 v) X hP hS rfl rfl hin_X6 tyX6 tyX6_ok nmX6 3 (Nat.le_of_ble_eq_true rfl) (tb_c1 (w := Cond.fieldLink "TillPairs$Rows" 23 "TillPairs$Rows" "count" "I") 208 rfl rfl) rfl rfl (by decide +kernel) rfl rfl (Nat.le_of_ble_eq_true rfl) rfl d k
set_option maxRecDepth 20000 in
theorem pf_X7_22_8 {v : Int32} (X : UC p s m args meth c cc nL RX7 R fr lo D ad cs sd A) (hP : va_P D clss (wld cs ad z) H) (hS : va_S A s.heap H locs) (d : decode cc pc = .ok (.putfield 22, 3)) (k : ∀ (H : Heap) (locs : List Loc), va_P D clss (wld cs ad (pI z 8 2 v)) H → va_S A s.heap H locs → W p l e R s m args below meth c H locs cells slots Q (F0 m (pc + 3) ls rest)) : W p l e R s m args below meth c H locs cells slots Q (F0 m pc ls (.int v :: .ref (ad 8) :: rest)) := u_put (C := RX7) (T := TX7) (N := 5) (ty := .int) 7 8 (pI z 8 2 v) X hP hS rfl rfl hin_X7 tyX7 tyX7_ok nmX7 2 (Nat.le_of_ble_eq_true rfl) (tb_c1 (w := Cond.fieldLink "TillPairs$Tape" 22 "TillPairs$Tape" "length" "I") 94 rfl rfl) rfl rfl (by decide +kernel) rfl rfl (Nat.le_of_ble_eq_true rfl) rfl d k
set_option maxRecDepth 20000 in
theorem pf_X7_26_8 {v : Int32} (X : UC p s m args meth c cc nL RX7 R fr lo D ad cs sd A) (hP : va_P D clss (wld cs ad z) H) (hS : va_S A s.heap H locs) (d : decode cc pc = .ok (.putfield 26, 3)) (k : ∀ (H : Heap) (locs : List Loc), va_P D clss (wld cs ad (pI z 8 3 v)) H → va_S A s.heap H locs → W p l e R s m args below meth c H locs cells slots Q (F0 m (pc + 3) ls rest)) : W p l e R s m args below meth c H locs cells slots Q (F0 m pc ls (.int v :: .ref (ad 8) :: rest)) := u_put (C := RX7) (T := TX7) (N := 5) (ty := .int) 7 8 (pI z 8 3 v) X hP hS rfl rfl hin_X7 tyX7 tyX7_ok nmX7 3 (Nat.le_of_ble_eq_true rfl) (tb_c1 (w := Cond.fieldLink "TillPairs$Tape" 26 "TillPairs$Tape" "at" "I") 96 rfl rfl) rfl rfl (by decide +kernel) rfl rfl (Nat.le_of_ble_eq_true rfl) rfl d k
set_option maxRecDepth 20000 in
theorem pf_X7_29_8 {v : Int32} (X : UC p s m args meth c cc nL RX7 R fr lo D ad cs sd A) (hP : va_P D clss (wld cs ad z) H) (hS : va_S A s.heap H locs) (d : decode cc pc = .ok (.putfield 29, 3)) (k : ∀ (H : Heap) (locs : List Loc), va_P D clss (wld cs ad (pI z 8 4 v)) H → va_S A s.heap H locs → W p l e R s m args below meth c H locs cells slots Q (F0 m (pc + 3) ls rest)) : W p l e R s m args below meth c H locs cells slots Q (F0 m pc ls (.int v :: .ref (ad 8) :: rest)) := u_put (C := RX7) (T := TX7) (N := 5) (ty := .int) 7 8 (pI z 8 4 v) X hP hS rfl rfl hin_X7 tyX7 tyX7_ok nmX7 4 (Nat.le_of_ble_eq_true rfl) (tb_c1 (w := Cond.fieldLink "TillPairs$Tape" 29 "TillPairs$Tape" "fault" "I") 97 rfl rfl) rfl rfl (by decide +kernel) rfl rfl (Nat.le_of_ble_eq_true rfl) rfl d k
set_option maxRecDepth 20000 in
theorem pf_X8_31_19 {v : Int32} (X : UC p s m args meth c cc nL RX8 R fr lo D ad cs sd A) (hP : va_P D clss (wld cs ad z) H) (hS : va_S A s.heap H locs) (d : decode cc pc = .ok (.putfield 31, 3)) (k : ∀ (H : Heap) (locs : List Loc), va_P D clss (wld cs ad (pI z 19 5 v)) H → va_S A s.heap H locs → W p l e R s m args below meth c H locs cells slots Q (F0 m (pc + 3) ls rest)) : W p l e R s m args below meth c H locs cells slots Q (F0 m pc ls (.int v :: .ref (ad 19) :: rest)) := u_put (C := RX8) (T := TX8) (N := 7) (ty := .int) 8 19 (pI z 19 5 v) X hP hS rfl rfl hin_X8 tyX8 tyX8_ok nmX8 5 (Nat.le_of_ble_eq_true rfl) (tb_c1 (w := Cond.fieldLink "TillPairs$Ways" 31 "TillPairs$Ways" "changes" "I") 153 rfl rfl) rfl rfl (by decide +kernel) rfl rfl (Nat.le_of_ble_eq_true rfl) rfl d k
set_option maxRecDepth 20000 in
theorem pf_X8_35_19 {v : Int32} (X : UC p s m args meth c cc nL RX8 R fr lo D ad cs sd A) (hP : va_P D clss (wld cs ad z) H) (hS : va_S A s.heap H locs) (d : decode cc pc = .ok (.putfield 35, 3)) (k : ∀ (H : Heap) (locs : List Loc), va_P D clss (wld cs ad (pI z 19 6 v)) H → va_S A s.heap H locs → W p l e R s m args below meth c H locs cells slots Q (F0 m (pc + 3) ls rest)) : W p l e R s m args below meth c H locs cells slots Q (F0 m pc ls (.int v :: .ref (ad 19) :: rest)) := u_put (C := RX8) (T := TX8) (N := 7) (ty := .int) 8 19 (pI z 19 6 v) X hP hS rfl rfl hin_X8 tyX8 tyX8_ok nmX8 6 (Nat.le_of_ble_eq_true rfl) (tb_c1 (w := Cond.fieldLink "TillPairs$Ways" 35 "TillPairs$Ways" "digits" "I") 155 rfl rfl) rfl rfl (by decide +kernel) rfl rfl (Nat.le_of_ble_eq_true rfl) rfl d k
set_option maxRecDepth 20000 in
theorem pf_X9_240_26 {v : Int32} (X : UC p s m args meth c cc nL RX9 R fr lo D ad cs sd A) (hP : va_P D clss (wld cs ad z) H) (hS : va_S A s.heap H locs) (d : decode cc pc = .ok (.putfield 240, 3)) (k : ∀ (H : Heap) (locs : List Loc), va_P D clss (wld cs ad (pI z 26 4 v)) H → va_S A s.heap H locs → W p l e R s m args below meth c H locs cells slots Q (F0 m (pc + 3) ls rest)) : W p l e R s m args below meth c H locs cells slots Q (F0 m pc ls (.int v :: .ref (ad 26) :: rest)) := u_putN (C := RX5) (T := TX5) (N := 5) (ty := .int) 5 26 (pI z 26 4 v) X hP hS rfl rfl hin_X5 tyX5 tyX5_ok nmX5 4 (Nat.le_of_ble_eq_true rfl) (nw_c1 (w := Cond.fieldLinkNest "TillPairs" 240 "TillPairs$Plans" "z" "I" "TillPairs") 186 rfl rfl) rfl rfl (by decide +kernel) rfl rfl (Nat.le_of_ble_eq_true rfl) rfl d k
set_option maxRecDepth 20000 in
theorem pf_X9_82_0 {v : Int32} (X : UC p s m args meth c cc nL RX9 R fr lo D ad cs sd A) (hP : va_P D clss (wld cs ad z) H) (hS : va_S A s.heap H locs) (hb : v = 0 ∨ v = 1) (d : decode cc pc = .ok (.putfield 82, 3)) (k : ∀ (H : Heap) (locs : List Loc), va_P D clss (wld cs ad (pI z 0 11 v)) H → va_S A s.heap H locs → W p l e R s m args below meth c H locs cells slots Q (F0 m (pc + 3) ls rest)) : W p l e R s m args below meth c H locs cells slots Q (F0 m pc ls (.int v :: .ref (ad 0) :: rest)) := u_put (C := RX9) (T := TX9) (N := 12) (ty := .boolean) 9 0 (pI z 0 11 v) X hP hS rfl rfl hin_X9 tyX9 tyX9_ok nmX9 11 (Nat.le_of_ble_eq_true rfl) (tb_c2 (w := Cond.fieldLink "TillPairs" 82 "TillPairs" "kept" "Z") 49 rfl rfl) rfl rfl (by decide +kernel) (by rcases hb with h | h <;> subst h <;> rfl) (by rcases hb with h | h <;> subst h <;> rfl) (Nat.le_of_ble_eq_true rfl) rfl d k
set_option maxRecDepth 20000 in
theorem gs_X0_32 (X : UC p s m args meth c cc nL RX0 R fr lo D ad cs sd A) (hS : va_S A s.heap H locs) (d : decode cc pc = .ok (.getstatic 32, 3)) (k : W p l e R s m args below meth c H locs cells slots Q (F0 m (pc + 3) ls (.ref (sd 2) :: rest))) : W p l e R s m args below meth c H locs cells slots Q (F0 m pc ls rest) := u_gets2 X hS d (tb_of 1063 (by decide +kernel) rfl) k
set_option maxRecDepth 20000 in
theorem gs_X0_43 (X : UC p s m args meth c cc nL RX0 R fr lo D ad cs sd A) (hS : va_S A s.heap H locs) (d : decode cc pc = .ok (.getstatic 43, 3)) (k : W p l e R s m args below meth c H locs cells slots Q (F0 m (pc + 3) ls (.ref (sd 3) :: rest))) : W p l e R s m args below meth c H locs cells slots Q (F0 m pc ls rest) := u_gets3 X hS d (tb_of 1080 (by decide +kernel) rfl) k
set_option maxRecDepth 20000 in
theorem gs_X7_135 (X : UC p s m args meth c cc nL RX7 R fr lo D ad cs sd A) (hS : va_S A s.heap H locs) (d : decode cc pc = .ok (.getstatic 135, 3)) (k : W p l e R s m args below meth c H locs cells slots Q (F0 m (pc + 3) ls (.ref (sd 1) :: rest))) : W p l e R s m args below meth c H locs cells slots Q (F0 m pc ls rest) := u_getsN1 (host := "TillPairs") X hS d (nw_of 473 (by decide +kernel) rfl) k
set_option maxRecDepth 20000 in
theorem gs_X9_134 (X : UC p s m args meth c cc nL RX9 R fr lo D ad cs sd A) (hS : va_S A s.heap H locs) (d : decode cc pc = .ok (.getstatic 134, 3)) (k : W p l e R s m args below meth c H locs cells slots Q (F0 m (pc + 3) ls (.ref (sd 1) :: rest))) : W p l e R s m args below meth c H locs cells slots Q (F0 m pc ls rest) := u_getsN1 (host := "TillPairs") X hS d (nw_of 524 (by decide +kernel) rfl) k
set_option maxRecDepth 20000 in
theorem cp_X2_40 {a0 a1 i0 i1 n0 n1 N : Nat} {f g : Nat → Int32} {n : Int32} {z : MS} (z1 : MS) {lv : List (Nat × Value)} (X : UC p s m args meth c cc nL RX2 R fr lo D ad cs sd A) (hP : va_P D clss (wld cs ad z) H) (hS : va_S A s.heap H locs) (hl : lv_has ls nL lv) (d : decode cc pc = .ok (.invokestatic 40, 3)) (he0 : (wld cs ad z)[i0]? = some (a0, .inl (cs 0, n0, .inl f))) (he1 : (wld cs ad z)[i1]? = some (a1, .inl (cs 0, n1, .inl g))) (hn : ¬ n < 0) (hN : n.toNatClampNeg = N) (h4 : Nat.ble N n0 = true) (h5 : Nat.ble N n1 = true) (hz : (wld cs ad z).set i1 (a1, .inl (cs 0, n1, .inl (va_cpy f g 0 0 N))) = wld cs ad z1) (hW : Nat.ble (rest.map fun v => v.category).sum 8 = true) (hR : Nat.ble 1 fr = true ∧ Nat.ble 26 lo = true) (k : ∀ (H : Heap) (locs : List Loc), va_P D clss (wld cs ad z1) H → va_S A s.heap H locs → W p l e R s m args below meth c H locs 0 0 Q (F0 m (pc + 3) ls rest)) : W p l e R s m args below meth c H locs 0 0 Q (F0 m pc ls (.int n :: .int 0 :: .ref a1 :: .int 0 :: .ref a0 :: rest)) := u_copy z1 X hP hS hl d (tb_c1 36 rfl rfl) (tb_c1 38 rfl rfl) (tb_c1 37 rfl rfl) (tb_c1 3 rfl rfl) he0 he1 hn hN h4 h5 hz hW hR k
set_option maxRecDepth 20000 in
theorem cp_X5_28 {a0 a1 i0 i1 n0 n1 N : Nat} {f g : Nat → Int32} {n : Int32} {z : MS} (z1 : MS) {lv : List (Nat × Value)} (X : UC p s m args meth c cc nL RX5 R fr lo D ad cs sd A) (hP : va_P D clss (wld cs ad z) H) (hS : va_S A s.heap H locs) (hl : lv_has ls nL lv) (d : decode cc pc = .ok (.invokestatic 28, 3)) (he0 : (wld cs ad z)[i0]? = some (a0, .inl (cs 0, n0, .inl f))) (he1 : (wld cs ad z)[i1]? = some (a1, .inl (cs 0, n1, .inl g))) (hn : ¬ n < 0) (hN : n.toNatClampNeg = N) (h4 : Nat.ble N n0 = true) (h5 : Nat.ble N n1 = true) (hz : (wld cs ad z).set i1 (a1, .inl (cs 0, n1, .inl (va_cpy f g 0 0 N))) = wld cs ad z1) (hW : Nat.ble (rest.map fun v => v.category).sum 8 = true) (hR : Nat.ble 1 fr = true ∧ Nat.ble 26 lo = true) (k : ∀ (H : Heap) (locs : List Loc), va_P D clss (wld cs ad z1) H → va_S A s.heap H locs → W p l e R s m args below meth c H locs 0 0 Q (F0 m (pc + 3) ls rest)) : W p l e R s m args below meth c H locs 0 0 Q (F0 m pc ls (.int n :: .int 0 :: .ref a1 :: .int 0 :: .ref a0 :: rest)) := u_copy z1 X hP hS hl d (tb_c5 68 rfl rfl) (tb_c1 38 rfl rfl) (tb_c1 37 rfl rfl) (tb_c1 3 rfl rfl) he0 he1 hn hN h4 h5 hz hW hR k
set_option maxRecDepth 20000 in
theorem mw_X3_29 {x y : Int32} {lv : List (Nat × Value)} (X : UC p s m args meth c cc nL RX3 R fr lo D ad cs sd A) (hl : lv_has ls nL lv) (d : decode cc pc = .ok (.invokestatic 29, 3)) (hW : Nat.ble (rest.map fun v => v.category).sum 8 = true) (hR : Nat.ble 1 fr = true ∧ Nat.ble 23 lo = true) (k : W p l e R s m args below meth c H locs 0 0 Q (F0 m (pc + 3) ls (.int (mnI x y) :: rest))) : W p l e R s m args below meth c H locs 0 0 Q (F0 m pc ls (.int y :: .int x :: rest)) := u_mmin X hl d (tb_c3 101 rfl rfl) (tb_c2 179 rfl rfl) (tb_c1 18 rfl rfl) (tb_c2 180 rfl rfl) hW hR k
set_option maxRecDepth 20000 in
theorem mw_X3_38 {x y : Int32} {lv : List (Nat × Value)} (X : UC p s m args meth c cc nL RX3 R fr lo D ad cs sd A) (hl : lv_has ls nL lv) (d : decode cc pc = .ok (.invokestatic 38, 3)) (hW : Nat.ble (rest.map fun v => v.category).sum 8 = true) (hR : Nat.ble 1 fr = true ∧ Nat.ble 23 lo = true) (k : W p l e R s m args below meth c H locs 0 0 Q (F0 m (pc + 3) ls (.int (mxI x y) :: rest))) : W p l e R s m args below meth c H locs 0 0 Q (F0 m pc ls (.int y :: .int x :: rest)) := u_mmax X hl d (tb_c3 102 rfl rfl) (tb_c3 103 rfl rfl) (tb_c1 18 rfl rfl) (tb_c3 104 rfl rfl) hW hR k
set_option maxRecDepth 20000 in
theorem mw_X4_47 {x y : Int64} {lv : List (Nat × Value)} (X : UC p s m args meth c cc nL RX4 R fr lo D ad cs sd A) (hl : lv_has ls nL lv) (d : decode cc pc = .ok (.invokestatic 47, 3)) (hW : Nat.ble (rest.map fun v => v.category).sum 8 = true) (hR : Nat.ble 1 fr = true ∧ Nat.ble 23 lo = true) (k : W p l e R s m args below meth c H locs 0 0 Q (F0 m (pc + 3) ls (.long (mxJ x y) :: rest))) : W p l e R s m args below meth c H locs 0 0 Q (F0 m pc ls (.long y :: .long x :: rest)) := u_mmaxl X hl d (tb_c3 170 rfl rfl) (tb_c3 171 rfl rfl) (tb_c1 18 rfl rfl) (tb_c3 172 rfl rfl) hW hR k
set_option maxRecDepth 20000 in
theorem mw_X7_142 {x y : Int32} {lv : List (Nat × Value)} (X : UC p s m args meth c cc nL RX7 R fr lo D ad cs sd A) (hl : lv_has ls nL lv) (d : decode cc pc = .ok (.invokestatic 142, 3)) (hW : Nat.ble (rest.map fun v => v.category).sum 8 = true) (hR : Nat.ble 1 fr = true ∧ Nat.ble 23 lo = true) (k : W p l e R s m args below meth c H locs 0 0 Q (F0 m (pc + 3) ls (.int (mnI x y) :: rest))) : W p l e R s m args below meth c H locs 0 0 Q (F0 m pc ls (.int y :: .int x :: rest)) := u_mmin X hl d (tb_c2 178 rfl rfl) (tb_c2 179 rfl rfl) (tb_c1 18 rfl rfl) (tb_c2 180 rfl rfl) hW hR k
set_option maxRecDepth 20000 in
theorem mw_X9_313 {x y : Int32} {lv : List (Nat × Value)} (X : UC p s m args meth c cc nL RX9 R fr lo D ad cs sd A) (hl : lv_has ls nL lv) (d : decode cc pc = .ok (.invokestatic 313, 3)) (hW : Nat.ble (rest.map fun v => v.category).sum 8 = true) (hR : Nat.ble 1 fr = true ∧ Nat.ble 23 lo = true) (k : W p l e R s m args below meth c H locs 0 0 Q (F0 m (pc + 3) ls (.int (mnI x y) :: rest))) : W p l e R s m args below meth c H locs 0 0 Q (F0 m pc ls (.int y :: .int x :: rest)) := u_mmin X hl d (tb_c5 53 rfl rfl) (tb_c2 179 rfl rfl) (tb_c1 18 rfl rfl) (tb_c2 180 rfl rfl) hW hR k
theorem en_dyn22 {j : Nat} (hj : j < 3) (cs : Nat → ClassId) (ad : Nat → Nat) (z : MS) : (wld cs ad z)[22 + j]? = some (ad (22 + j), .inl (cs 0, 64, .inl (gI z (22 + j)))) := by
  rcases (show j = 0 ∨ j = 1 ∨ j = 2 by omega) with rfl | rfl | rfl <;> rfl
theorem st_dyn22 {j : Nat} (hj : j < 3) (cs : Nat → ClassId) (ad : Nat → Nat) (z : MS) (F : Nat → Int32) : (wld cs ad z).set (22 + j) (ad (22 + j), .inl (cs 0, 64, .inl F)) = wld cs ad (wI z (22 + j) F) := by
  rcases (show j = 0 ∨ j = 1 ∨ j = 2 by omega) with rfl | rfl | rfl <;> rfl
theorem ax_dyn22 {j : Nat} (hj : j < 3) (cs : Nat → ClassId) (ad : Nat → Nat) (z : MS) (F : Nat → Int32) : (wld cs ad z).set (22 + j) (ad (22 + j), .inl (cs 0, 64, .inl F)) = wld cs ad (wI z (22 + j) F) := st_dyn22 hj cs ad z F
theorem en_dyn38 {j : Nat} (hj : j < 4) (cs : Nat → ClassId) (ad : Nat → Nat) (z : MS) : (wld cs ad z)[38 + j]? = some (ad (38 + j), .inl (cs 0, 40, .inl (gI z (38 + j)))) := by
  rcases (show j = 0 ∨ j = 1 ∨ j = 2 ∨ j = 3 by omega) with rfl | rfl | rfl | rfl <;> rfl
theorem st_dyn38 {j : Nat} (hj : j < 4) (cs : Nat → ClassId) (ad : Nat → Nat) (z : MS) (F : Nat → Int32) : (wld cs ad z).set (38 + j) (ad (38 + j), .inl (cs 0, 40, .inl F)) = wld cs ad (wI z (38 + j) F) := by
  rcases (show j = 0 ∨ j = 1 ∨ j = 2 ∨ j = 3 by omega) with rfl | rfl | rfl | rfl <;> rfl
theorem ax_dyn38 {j : Nat} (hj : j < 4) (cs : Nat → ClassId) (ad : Nat → Nat) (z : MS) (F : Nat → Int32) : (wld cs ad z).set (38 + j) (ad (38 + j), .inl (cs 0, 40, .inl F)) = wld cs ad (wI z (38 + j) F) := st_dyn38 hj cs ad z F
theorem ax_2 (cs : Nat → ClassId) (ad : Nat → Nat) (z : MS) (F : Nat → Int32) : (wld cs ad z).set 2 (ad 2, .inl (cs 0, 8, .inl F)) = wld cs ad (wI z 2 F) := rfl
theorem ax_3 (cs : Nat → ClassId) (ad : Nat → Nat) (z : MS) (F : Nat → Int32) : (wld cs ad z).set 3 (ad 3, .inl (cs 0, 8, .inl F)) = wld cs ad (wI z 3 F) := rfl
theorem ax_4 (cs : Nat → ClassId) (ad : Nat → Nat) (z : MS) (F : Nat → Int32) : (wld cs ad z).set 4 (ad 4, .inl (cs 0, 64, .inl F)) = wld cs ad (wI z 4 F) := rfl
theorem ax_5 (cs : Nat → ClassId) (ad : Nat → Nat) (z : MS) (F : Nat → Int32) : (wld cs ad z).set 5 (ad 5, .inl (cs 0, 8, .inl F)) = wld cs ad (wI z 5 F) := rfl
theorem ax_6 (cs : Nat → ClassId) (ad : Nat → Nat) (z : MS) (F : Nat → Int32) : (wld cs ad z).set 6 (ad 6, .inl (cs 0, 40, .inl F)) = wld cs ad (wI z 6 F) := rfl
theorem ax_7 (cs : Nat → ClassId) (ad : Nat → Nat) (z : MS) (F : Nat → Int32) : (wld cs ad z).set 7 (ad 7, .inl (cs 0, 10, .inl F)) = wld cs ad (wI z 7 F) := rfl
theorem ax_9 (cs : Nat → ClassId) (ad : Nat → Nat) (z : MS) (F : Nat → Int32) : (wld cs ad z).set 9 (ad 9, .inl (cs 0, 200, .inl F)) = wld cs ad (wI z 9 F) := rfl
theorem ax_11 (cs : Nat → ClassId) (ad : Nat → Nat) (z : MS) (F : Nat → Int32) : (wld cs ad z).set 11 (ad 11, .inl (cs 0, 8, .inl F)) = wld cs ad (wI z 11 F) := rfl
theorem ax_12 (cs : Nat → ClassId) (ad : Nat → Nat) (z : MS) (F : Nat → Int32) : (wld cs ad z).set 12 (ad 12, .inl (cs 0, 8, .inl F)) = wld cs ad (wI z 12 F) := rfl
theorem ax_13 (cs : Nat → ClassId) (ad : Nat → Nat) (z : MS) (F : Nat → Int32) : (wld cs ad z).set 13 (ad 13, .inl (cs 0, 64, .inl F)) = wld cs ad (wI z 13 F) := rfl
theorem ax_14 (cs : Nat → ClassId) (ad : Nat → Nat) (z : MS) (F : Nat → Int32) : (wld cs ad z).set 14 (ad 14, .inl (cs 0, 8, .inl F)) = wld cs ad (wI z 14 F) := rfl
theorem ax_15 (cs : Nat → ClassId) (ad : Nat → Nat) (z : MS) (F : Nat → Int32) : (wld cs ad z).set 15 (ad 15, .inl (cs 0, 40, .inl F)) = wld cs ad (wI z 15 F) := rfl
theorem ax_16 (cs : Nat → ClassId) (ad : Nat → Nat) (z : MS) (F : Nat → Int32) : (wld cs ad z).set 16 (ad 16, .inl (cs 0, 10, .inl F)) = wld cs ad (wI z 16 F) := rfl
theorem ax_20 (cs : Nat → ClassId) (ad : Nat → Nat) (z : MS) (F : Nat → Int32) : (wld cs ad z).set 20 (ad 20, .inl (cs 0, 64, .inl F)) = wld cs ad (wI z 20 F) := rfl
theorem ax_25 (cs : Nat → ClassId) (ad : Nat → Nat) (z : MS) (F : Nat → Int32) : (wld cs ad z).set 25 (ad 25, .inl (cs 0, 3, .inl F)) = wld cs ad (wI z 25 F) := rfl
theorem ax_27 (cs : Nat → ClassId) (ad : Nat → Nat) (z : MS) (F : Nat → Int32) : (wld cs ad z).set 27 (ad 27, .inl (cs 0, 4, .inl F)) = wld cs ad (wI z 27 F) := rfl
theorem ax_28 (cs : Nat → ClassId) (ad : Nat → Nat) (z : MS) (F : Nat → Int32) : (wld cs ad z).set 28 (ad 28, .inl (cs 0, 4, .inl F)) = wld cs ad (wI z 28 F) := rfl
theorem ax_29 (cs : Nat → ClassId) (ad : Nat → Nat) (z : MS) (F : Nat → Int32) : (wld cs ad z).set 29 (ad 29, .inl (cs 0, 4, .inl F)) = wld cs ad (wI z 29 F) := rfl
theorem ax_31 (cs : Nat → ClassId) (ad : Nat → Nat) (z : MS) (F : Nat → Int32) : (wld cs ad z).set 31 (ad 31, .inl (cs 0, 30, .inl F)) = wld cs ad (wI z 31 F) := rfl
theorem ax_33 (cs : Nat → ClassId) (ad : Nat → Nat) (z : MS) (F : Nat → Int32) : (wld cs ad z).set 33 (ad 33, .inl (cs 0, 30, .inl F)) = wld cs ad (wI z 33 F) := rfl
theorem ax_35 (cs : Nat → ClassId) (ad : Nat → Nat) (z : MS) (F : Nat → Int32) : (wld cs ad z).set 35 (ad 35, .inl (cs 0, 4, .inl F)) = wld cs ad (wI z 35 F) := rfl
theorem ax_36 (cs : Nat → ClassId) (ad : Nat → Nat) (z : MS) (F : Nat → Int32) : (wld cs ad z).set 36 (ad 36, .inl (cs 0, 4, .inl F)) = wld cs ad (wI z 36 F) := rfl
theorem ax_42 (cs : Nat → ClassId) (ad : Nat → Nat) (z : MS) (F : Nat → Int32) : (wld cs ad z).set 42 (ad 42, .inl (cs 0, 4, .inl F)) = wld cs ad (wI z 42 F) := rfl
theorem ax_43 (cs : Nat → ClassId) (ad : Nat → Nat) (z : MS) (F : Nat → Int32) : (wld cs ad z).set 43 (ad 43, .inl (cs 0, 4, .inl F)) = wld cs ad (wI z 43 F) := rfl
theorem ax_44 (cs : Nat → ClassId) (ad : Nat → Nat) (z : MS) (F : Nat → Int32) : (wld cs ad z).set 44 (ad 44, .inl (cs 0, 4, .inl F)) = wld cs ad (wI z 44 F) := rfl
theorem ax_46 (cs : Nat → ClassId) (ad : Nat → Nat) (z : MS) (F : Nat → Int32) : (wld cs ad z).set 46 (ad 46, .inl (cs 0, 8, .inl F)) = wld cs ad (wI z 46 F) := rfl
theorem ax_47 (cs : Nat → ClassId) (ad : Nat → Nat) (z : MS) (F : Nat → Int32) : (wld cs ad z).set 47 (ad 47, .inl (cs 0, 8, .inl F)) = wld cs ad (wI z 47 F) := rfl
theorem ax_48 (cs : Nat → ClassId) (ad : Nat → Nat) (z : MS) (F : Nat → Int32) : (wld cs ad z).set 48 (ad 48, .inl (cs 0, 64, .inl F)) = wld cs ad (wI z 48 F) := rfl
theorem ax_49 (cs : Nat → ClassId) (ad : Nat → Nat) (z : MS) (F : Nat → Int32) : (wld cs ad z).set 49 (ad 49, .inl (cs 0, 8, .inl F)) = wld cs ad (wI z 49 F) := rfl
theorem ax_50 (cs : Nat → ClassId) (ad : Nat → Nat) (z : MS) (F : Nat → Int32) : (wld cs ad z).set 50 (ad 50, .inl (cs 0, 40, .inl F)) = wld cs ad (wI z 50 F) := rfl
theorem ax_51 (cs : Nat → ClassId) (ad : Nat → Nat) (z : MS) (F : Nat → Int32) : (wld cs ad z).set 51 (ad 51, .inl (cs 0, 10, .inl F)) = wld cs ad (wI z 51 F) := rfl
theorem ax_53 (cs : Nat → ClassId) (ad : Nat → Nat) (z : MS) (F : Nat → Int32) : (wld cs ad z).set 53 (ad 53, .inl (cs 0, 4, .inl F)) = wld cs ad (wI z 53 F) := rfl
theorem ax_54 (cs : Nat → ClassId) (ad : Nat → Nat) (z : MS) (F : Nat → Int32) : (wld cs ad z).set 54 (ad 54, .inl (cs 0, 4, .inl F)) = wld cs ad (wI z 54 F) := rfl
theorem ax_57 (cs : Nat → ClassId) (ad : Nat → Nat) (z : MS) (F : Nat → Int32) : (wld cs ad z).set 57 (ad 57, .inl (cs 0, 8, .inl F)) = wld cs ad (wI z 57 F) := rfl
theorem ax_58 (cs : Nat → ClassId) (ad : Nat → Nat) (z : MS) (F : Nat → Int32) : (wld cs ad z).set 58 (ad 58, .inl (cs 0, 8, .inl F)) = wld cs ad (wI z 58 F) := rfl
theorem ax_59 (cs : Nat → ClassId) (ad : Nat → Nat) (z : MS) (F : Nat → Int32) : (wld cs ad z).set 59 (ad 59, .inl (cs 0, 64, .inl F)) = wld cs ad (wI z 59 F) := rfl
theorem ax_60 (cs : Nat → ClassId) (ad : Nat → Nat) (z : MS) (F : Nat → Int32) : (wld cs ad z).set 60 (ad 60, .inl (cs 0, 40, .inl F)) = wld cs ad (wI z 60 F) := rfl
theorem ax_61 (cs : Nat → ClassId) (ad : Nat → Nat) (z : MS) (F : Nat → Int32) : (wld cs ad z).set 61 (ad 61, .inl (cs 0, 10, .inl F)) = wld cs ad (wI z 61 F) := rfl
theorem ax_62 (cs : Nat → ClassId) (ad : Nat → Nat) (z : MS) (F : Nat → Int32) : (wld cs ad z).set 62 (ad 62, .inl (cs 0, 8, .inl F)) = wld cs ad (wI z 62 F) := rfl
theorem ax_63 (cs : Nat → ClassId) (ad : Nat → Nat) (z : MS) (F : Nat → Int32) : (wld cs ad z).set 63 (ad 63, .inl (cs 0, 8, .inl F)) = wld cs ad (wI z 63 F) := rfl
theorem ax_64 (cs : Nat → ClassId) (ad : Nat → Nat) (z : MS) (F : Nat → Int32) : (wld cs ad z).set 64 (ad 64, .inl (cs 0, 8, .inl F)) = wld cs ad (wI z 64 F) := rfl
theorem ax_65 (cs : Nat → ClassId) (ad : Nat → Nat) (z : MS) (F : Nat → Int32) : (wld cs ad z).set 65 (ad 65, .inl (cs 0, 200, .inl F)) = wld cs ad (wI z 65 F) := rfl
theorem ax_66 (cs : Nat → ClassId) (ad : Nat → Nat) (z : MS) (F : Nat → Int32) : (wld cs ad z).set 66 (ad 66, .inl (cs 0, 8, .inl F)) = wld cs ad (wI z 66 F) := rfl
theorem ax_67 (cs : Nat → ClassId) (ad : Nat → Nat) (z : MS) (F : Nat → Int32) : (wld cs ad z).set 67 (ad 67, .inl (cs 0, 8, .inl F)) = wld cs ad (wI z 67 F) := rfl
theorem ax_68 (cs : Nat → ClassId) (ad : Nat → Nat) (z : MS) (F : Nat → Int32) : (wld cs ad z).set 68 (ad 68, .inl (cs 0, 64, .inl F)) = wld cs ad (wI z 68 F) := rfl
theorem ax_69 (cs : Nat → ClassId) (ad : Nat → Nat) (z : MS) (F : Nat → Int32) : (wld cs ad z).set 69 (ad 69, .inl (cs 0, 8, .inl F)) = wld cs ad (wI z 69 F) := rfl
theorem ax_70 (cs : Nat → ClassId) (ad : Nat → Nat) (z : MS) (F : Nat → Int32) : (wld cs ad z).set 70 (ad 70, .inl (cs 0, 12, .inl F)) = wld cs ad (wI z 70 F) := rfl
theorem ax_71 (cs : Nat → ClassId) (ad : Nat → Nat) (z : MS) (F : Nat → Int32) : (wld cs ad z).set 71 (ad 71, .inl (cs 0, 4, .inl F)) = wld cs ad (wI z 71 F) := rfl
theorem ax_72 (cs : Nat → ClassId) (ad : Nat → Nat) (z : MS) (F : Nat → Int32) : (wld cs ad z).set 72 (ad 72, .inl (cs 0, 3, .inl F)) = wld cs ad (wI z 72 F) := rfl
theorem ax_73 (cs : Nat → ClassId) (ad : Nat → Nat) (z : MS) (F : Nat → Int64) : (wld cs ad z).set 73 (ad 73, .inl (cs 1, 11, .inr (.inl F))) = wld cs ad (wJ z 73 F) := rfl
theorem ax_74 (cs : Nat → ClassId) (ad : Nat → Nat) (z : MS) (F : Nat → Int32) : (wld cs ad z).set 74 (ad 74, .inl (cs 0, 4, .inl F)) = wld cs ad (wI z 74 F) := rfl
theorem ax_75 (cs : Nat → ClassId) (ad : Nat → Nat) (z : MS) (F : Nat → Int32) : (wld cs ad z).set 75 (ad 75, .inl (cs 0, 30, .inl F)) = wld cs ad (wI z 75 F) := rfl
theorem ax_76 (cs : Nat → ClassId) (ad : Nat → Nat) (z : MS) (F : Nat → Int32) : (wld cs ad z).set 76 (ad 76, .inl (cs 0, 30, .inl F)) = wld cs ad (wI z 76 F) := rfl
theorem ax_77 (cs : Nat → ClassId) (ad : Nat → Nat) (z : MS) (F : Nat → Int32) : (wld cs ad z).set 77 (ad 77, .inl (cs 0, 4, .inl F)) = wld cs ad (wI z 77 F) := rfl
theorem ax_78 (cs : Nat → ClassId) (ad : Nat → Nat) (z : MS) (F : Nat → Int32) : (wld cs ad z).set 78 (ad 78, .inl (cs 0, 4, .inl F)) = wld cs ad (wI z 78 F) := rfl
theorem ax_79 (cs : Nat → ClassId) (ad : Nat → Nat) (z : MS) (F : Nat → Int64) : (wld cs ad z).set 79 (ad 79, .inl (cs 1, 160, .inr (.inl F))) = wld cs ad (wJ z 79 F) := rfl
theorem ax_80 (cs : Nat → ClassId) (ad : Nat → Nat) (z : MS) (F : Nat → Int32) : (wld cs ad z).set 80 (ad 80, .inl (cs 0, 4, .inl F)) = wld cs ad (wI z 80 F) := rfl
theorem ax_81 (cs : Nat → ClassId) (ad : Nat → Nat) (z : MS) (F : Nat → Int32) : (wld cs ad z).set 81 (ad 81, .inl (cs 0, 4, .inl F)) = wld cs ad (wI z 81 F) := rfl
theorem ax_82 (cs : Nat → ClassId) (ad : Nat → Nat) (z : MS) (F : Nat → Int32) : (wld cs ad z).set 82 (ad 82, .inl (cs 0, 4, .inl F)) = wld cs ad (wI z 82 F) := rfl
theorem ax_83 (cs : Nat → ClassId) (ad : Nat → Nat) (z : MS) (F : Nat → Int32) : (wld cs ad z).set 83 (ad 83, .inl (cs 0, 30, .inl F)) = wld cs ad (wI z 83 F) := rfl
theorem ax_84 (cs : Nat → ClassId) (ad : Nat → Nat) (z : MS) (F : Nat → Int32) : (wld cs ad z).set 84 (ad 84, .inl (cs 0, 200, .inl F)) = wld cs ad (wI z 84 F) := rfl
theorem ax_85 (cs : Nat → ClassId) (ad : Nat → Nat) (z : MS) (F : Nat → Int32) : (wld cs ad z).set 85 (ad 85, .inl (cs 0, 4, .inl F)) = wld cs ad (wI z 85 F) := rfl
theorem ld_11 {i : Int32} {w : Nat} (X : UC p s m args meth c cc nL own R fr lo D ad cs sd A) (hP : va_P D clss (wld cs ad z) H) (hw : i.toNatClampNeg = w) (hin : ¬ (i < 0 ∨ 8 ≤ i.toNatClampNeg)) (d : decode cc pc = .ok (.iaload, 1)) (k : W p l e R s m args below meth c H locs cells slots Q (F0 m (pc + 1) ls (.int (gI z 11 w) :: rest))) : W p l e R s m args below meth c H locs cells slots Q (F0 m pc ls (.int i :: .ref (ad 11) :: rest)) := by
  subst hw
  exact u_iald (i0 := 11) X hP rfl hin d k
theorem ld_12 {i : Int32} {w : Nat} (X : UC p s m args meth c cc nL own R fr lo D ad cs sd A) (hP : va_P D clss (wld cs ad z) H) (hw : i.toNatClampNeg = w) (hin : ¬ (i < 0 ∨ 8 ≤ i.toNatClampNeg)) (d : decode cc pc = .ok (.iaload, 1)) (k : W p l e R s m args below meth c H locs cells slots Q (F0 m (pc + 1) ls (.int (gI z 12 w) :: rest))) : W p l e R s m args below meth c H locs cells slots Q (F0 m pc ls (.int i :: .ref (ad 12) :: rest)) := by
  subst hw
  exact u_iald (i0 := 12) X hP rfl hin d k
theorem ld_2 {i : Int32} {w : Nat} (X : UC p s m args meth c cc nL own R fr lo D ad cs sd A) (hP : va_P D clss (wld cs ad z) H) (hw : i.toNatClampNeg = w) (hin : ¬ (i < 0 ∨ 8 ≤ i.toNatClampNeg)) (d : decode cc pc = .ok (.iaload, 1)) (k : W p l e R s m args below meth c H locs cells slots Q (F0 m (pc + 1) ls (.int (gI z 2 w) :: rest))) : W p l e R s m args below meth c H locs cells slots Q (F0 m pc ls (.int i :: .ref (ad 2) :: rest)) := by
  subst hw
  exact u_iald (i0 := 2) X hP rfl hin d k
theorem ld_20 {i : Int32} {w : Nat} (X : UC p s m args meth c cc nL own R fr lo D ad cs sd A) (hP : va_P D clss (wld cs ad z) H) (hw : i.toNatClampNeg = w) (hin : ¬ (i < 0 ∨ 64 ≤ i.toNatClampNeg)) (d : decode cc pc = .ok (.iaload, 1)) (k : W p l e R s m args below meth c H locs cells slots Q (F0 m (pc + 1) ls (.int (gI z 20 w) :: rest))) : W p l e R s m args below meth c H locs cells slots Q (F0 m pc ls (.int i :: .ref (ad 20) :: rest)) := by
  subst hw
  exact u_iald (i0 := 20) X hP rfl hin d k
theorem ld_25 {i : Int32} {w : Nat} (X : UC p s m args meth c cc nL own R fr lo D ad cs sd A) (hP : va_P D clss (wld cs ad z) H) (hw : i.toNatClampNeg = w) (hin : ¬ (i < 0 ∨ 3 ≤ i.toNatClampNeg)) (d : decode cc pc = .ok (.iaload, 1)) (k : W p l e R s m args below meth c H locs cells slots Q (F0 m (pc + 1) ls (.int (gI z 25 w) :: rest))) : W p l e R s m args below meth c H locs cells slots Q (F0 m pc ls (.int i :: .ref (ad 25) :: rest)) := by
  subst hw
  exact u_iald (i0 := 25) X hP rfl hin d k
theorem ld_27 {i : Int32} {w : Nat} (X : UC p s m args meth c cc nL own R fr lo D ad cs sd A) (hP : va_P D clss (wld cs ad z) H) (hw : i.toNatClampNeg = w) (hin : ¬ (i < 0 ∨ 4 ≤ i.toNatClampNeg)) (d : decode cc pc = .ok (.iaload, 1)) (k : W p l e R s m args below meth c H locs cells slots Q (F0 m (pc + 1) ls (.int (gI z 27 w) :: rest))) : W p l e R s m args below meth c H locs cells slots Q (F0 m pc ls (.int i :: .ref (ad 27) :: rest)) := by
  subst hw
  exact u_iald (i0 := 27) X hP rfl hin d k
theorem ld_28 {i : Int32} {w : Nat} (X : UC p s m args meth c cc nL own R fr lo D ad cs sd A) (hP : va_P D clss (wld cs ad z) H) (hw : i.toNatClampNeg = w) (hin : ¬ (i < 0 ∨ 4 ≤ i.toNatClampNeg)) (d : decode cc pc = .ok (.iaload, 1)) (k : W p l e R s m args below meth c H locs cells slots Q (F0 m (pc + 1) ls (.int (gI z 28 w) :: rest))) : W p l e R s m args below meth c H locs cells slots Q (F0 m pc ls (.int i :: .ref (ad 28) :: rest)) := by
  subst hw
  exact u_iald (i0 := 28) X hP rfl hin d k
theorem ld_29 {i : Int32} {w : Nat} (X : UC p s m args meth c cc nL own R fr lo D ad cs sd A) (hP : va_P D clss (wld cs ad z) H) (hw : i.toNatClampNeg = w) (hin : ¬ (i < 0 ∨ 4 ≤ i.toNatClampNeg)) (d : decode cc pc = .ok (.iaload, 1)) (k : W p l e R s m args below meth c H locs cells slots Q (F0 m (pc + 1) ls (.int (gI z 29 w) :: rest))) : W p l e R s m args below meth c H locs cells slots Q (F0 m pc ls (.int i :: .ref (ad 29) :: rest)) := by
  subst hw
  exact u_iald (i0 := 29) X hP rfl hin d k
theorem ld_3 {i : Int32} {w : Nat} (X : UC p s m args meth c cc nL own R fr lo D ad cs sd A) (hP : va_P D clss (wld cs ad z) H) (hw : i.toNatClampNeg = w) (hin : ¬ (i < 0 ∨ 8 ≤ i.toNatClampNeg)) (d : decode cc pc = .ok (.iaload, 1)) (k : W p l e R s m args below meth c H locs cells slots Q (F0 m (pc + 1) ls (.int (gI z 3 w) :: rest))) : W p l e R s m args below meth c H locs cells slots Q (F0 m pc ls (.int i :: .ref (ad 3) :: rest)) := by
  subst hw
  exact u_iald (i0 := 3) X hP rfl hin d k
theorem ld_31 {i : Int32} {w : Nat} (X : UC p s m args meth c cc nL own R fr lo D ad cs sd A) (hP : va_P D clss (wld cs ad z) H) (hw : i.toNatClampNeg = w) (hin : ¬ (i < 0 ∨ 30 ≤ i.toNatClampNeg)) (d : decode cc pc = .ok (.iaload, 1)) (k : W p l e R s m args below meth c H locs cells slots Q (F0 m (pc + 1) ls (.int (gI z 31 w) :: rest))) : W p l e R s m args below meth c H locs cells slots Q (F0 m pc ls (.int i :: .ref (ad 31) :: rest)) := by
  subst hw
  exact u_iald (i0 := 31) X hP rfl hin d k
theorem ld_33 {i : Int32} {w : Nat} (X : UC p s m args meth c cc nL own R fr lo D ad cs sd A) (hP : va_P D clss (wld cs ad z) H) (hw : i.toNatClampNeg = w) (hin : ¬ (i < 0 ∨ 30 ≤ i.toNatClampNeg)) (d : decode cc pc = .ok (.iaload, 1)) (k : W p l e R s m args below meth c H locs cells slots Q (F0 m (pc + 1) ls (.int (gI z 33 w) :: rest))) : W p l e R s m args below meth c H locs cells slots Q (F0 m pc ls (.int i :: .ref (ad 33) :: rest)) := by
  subst hw
  exact u_iald (i0 := 33) X hP rfl hin d k
theorem ld_35 {i : Int32} {w : Nat} (X : UC p s m args meth c cc nL own R fr lo D ad cs sd A) (hP : va_P D clss (wld cs ad z) H) (hw : i.toNatClampNeg = w) (hin : ¬ (i < 0 ∨ 4 ≤ i.toNatClampNeg)) (d : decode cc pc = .ok (.iaload, 1)) (k : W p l e R s m args below meth c H locs cells slots Q (F0 m (pc + 1) ls (.int (gI z 35 w) :: rest))) : W p l e R s m args below meth c H locs cells slots Q (F0 m pc ls (.int i :: .ref (ad 35) :: rest)) := by
  subst hw
  exact u_iald (i0 := 35) X hP rfl hin d k
theorem ld_36 {i : Int32} {w : Nat} (X : UC p s m args meth c cc nL own R fr lo D ad cs sd A) (hP : va_P D clss (wld cs ad z) H) (hw : i.toNatClampNeg = w) (hin : ¬ (i < 0 ∨ 4 ≤ i.toNatClampNeg)) (d : decode cc pc = .ok (.iaload, 1)) (k : W p l e R s m args below meth c H locs cells slots Q (F0 m (pc + 1) ls (.int (gI z 36 w) :: rest))) : W p l e R s m args below meth c H locs cells slots Q (F0 m pc ls (.int i :: .ref (ad 36) :: rest)) := by
  subst hw
  exact u_iald (i0 := 36) X hP rfl hin d k
theorem ld_4 {i : Int32} {w : Nat} (X : UC p s m args meth c cc nL own R fr lo D ad cs sd A) (hP : va_P D clss (wld cs ad z) H) (hw : i.toNatClampNeg = w) (hin : ¬ (i < 0 ∨ 64 ≤ i.toNatClampNeg)) (d : decode cc pc = .ok (.iaload, 1)) (k : W p l e R s m args below meth c H locs cells slots Q (F0 m (pc + 1) ls (.int (gI z 4 w) :: rest))) : W p l e R s m args below meth c H locs cells slots Q (F0 m pc ls (.int i :: .ref (ad 4) :: rest)) := by
  subst hw
  exact u_iald (i0 := 4) X hP rfl hin d k
theorem ld_42 {i : Int32} {w : Nat} (X : UC p s m args meth c cc nL own R fr lo D ad cs sd A) (hP : va_P D clss (wld cs ad z) H) (hw : i.toNatClampNeg = w) (hin : ¬ (i < 0 ∨ 4 ≤ i.toNatClampNeg)) (d : decode cc pc = .ok (.iaload, 1)) (k : W p l e R s m args below meth c H locs cells slots Q (F0 m (pc + 1) ls (.int (gI z 42 w) :: rest))) : W p l e R s m args below meth c H locs cells slots Q (F0 m pc ls (.int i :: .ref (ad 42) :: rest)) := by
  subst hw
  exact u_iald (i0 := 42) X hP rfl hin d k
theorem ld_43 {i : Int32} {w : Nat} (X : UC p s m args meth c cc nL own R fr lo D ad cs sd A) (hP : va_P D clss (wld cs ad z) H) (hw : i.toNatClampNeg = w) (hin : ¬ (i < 0 ∨ 4 ≤ i.toNatClampNeg)) (d : decode cc pc = .ok (.iaload, 1)) (k : W p l e R s m args below meth c H locs cells slots Q (F0 m (pc + 1) ls (.int (gI z 43 w) :: rest))) : W p l e R s m args below meth c H locs cells slots Q (F0 m pc ls (.int i :: .ref (ad 43) :: rest)) := by
  subst hw
  exact u_iald (i0 := 43) X hP rfl hin d k
theorem ld_44 {i : Int32} {w : Nat} (X : UC p s m args meth c cc nL own R fr lo D ad cs sd A) (hP : va_P D clss (wld cs ad z) H) (hw : i.toNatClampNeg = w) (hin : ¬ (i < 0 ∨ 4 ≤ i.toNatClampNeg)) (d : decode cc pc = .ok (.iaload, 1)) (k : W p l e R s m args below meth c H locs cells slots Q (F0 m (pc + 1) ls (.int (gI z 44 w) :: rest))) : W p l e R s m args below meth c H locs cells slots Q (F0 m pc ls (.int i :: .ref (ad 44) :: rest)) := by
  subst hw
  exact u_iald (i0 := 44) X hP rfl hin d k
theorem ld_5 {i : Int32} {w : Nat} (X : UC p s m args meth c cc nL own R fr lo D ad cs sd A) (hP : va_P D clss (wld cs ad z) H) (hw : i.toNatClampNeg = w) (hin : ¬ (i < 0 ∨ 8 ≤ i.toNatClampNeg)) (d : decode cc pc = .ok (.iaload, 1)) (k : W p l e R s m args below meth c H locs cells slots Q (F0 m (pc + 1) ls (.int (gI z 5 w) :: rest))) : W p l e R s m args below meth c H locs cells slots Q (F0 m pc ls (.int i :: .ref (ad 5) :: rest)) := by
  subst hw
  exact u_iald (i0 := 5) X hP rfl hin d k
theorem ld_57 {i : Int32} {w : Nat} (X : UC p s m args meth c cc nL own R fr lo D ad cs sd A) (hP : va_P D clss (wld cs ad z) H) (hw : i.toNatClampNeg = w) (hin : ¬ (i < 0 ∨ 8 ≤ i.toNatClampNeg)) (d : decode cc pc = .ok (.iaload, 1)) (k : W p l e R s m args below meth c H locs cells slots Q (F0 m (pc + 1) ls (.int (gI z 57 w) :: rest))) : W p l e R s m args below meth c H locs cells slots Q (F0 m pc ls (.int i :: .ref (ad 57) :: rest)) := by
  subst hw
  exact u_iald (i0 := 57) X hP rfl hin d k
theorem ld_58 {i : Int32} {w : Nat} (X : UC p s m args meth c cc nL own R fr lo D ad cs sd A) (hP : va_P D clss (wld cs ad z) H) (hw : i.toNatClampNeg = w) (hin : ¬ (i < 0 ∨ 8 ≤ i.toNatClampNeg)) (d : decode cc pc = .ok (.iaload, 1)) (k : W p l e R s m args below meth c H locs cells slots Q (F0 m (pc + 1) ls (.int (gI z 58 w) :: rest))) : W p l e R s m args below meth c H locs cells slots Q (F0 m pc ls (.int i :: .ref (ad 58) :: rest)) := by
  subst hw
  exact u_iald (i0 := 58) X hP rfl hin d k
theorem ld_59 {i : Int32} {w : Nat} (X : UC p s m args meth c cc nL own R fr lo D ad cs sd A) (hP : va_P D clss (wld cs ad z) H) (hw : i.toNatClampNeg = w) (hin : ¬ (i < 0 ∨ 64 ≤ i.toNatClampNeg)) (d : decode cc pc = .ok (.iaload, 1)) (k : W p l e R s m args below meth c H locs cells slots Q (F0 m (pc + 1) ls (.int (gI z 59 w) :: rest))) : W p l e R s m args below meth c H locs cells slots Q (F0 m pc ls (.int i :: .ref (ad 59) :: rest)) := by
  subst hw
  exact u_iald (i0 := 59) X hP rfl hin d k
theorem ld_6 {i : Int32} {w : Nat} (X : UC p s m args meth c cc nL own R fr lo D ad cs sd A) (hP : va_P D clss (wld cs ad z) H) (hw : i.toNatClampNeg = w) (hin : ¬ (i < 0 ∨ 40 ≤ i.toNatClampNeg)) (d : decode cc pc = .ok (.iaload, 1)) (k : W p l e R s m args below meth c H locs cells slots Q (F0 m (pc + 1) ls (.int (gI z 6 w) :: rest))) : W p l e R s m args below meth c H locs cells slots Q (F0 m pc ls (.int i :: .ref (ad 6) :: rest)) := by
  subst hw
  exact u_iald (i0 := 6) X hP rfl hin d k
theorem ld_60 {i : Int32} {w : Nat} (X : UC p s m args meth c cc nL own R fr lo D ad cs sd A) (hP : va_P D clss (wld cs ad z) H) (hw : i.toNatClampNeg = w) (hin : ¬ (i < 0 ∨ 40 ≤ i.toNatClampNeg)) (d : decode cc pc = .ok (.iaload, 1)) (k : W p l e R s m args below meth c H locs cells slots Q (F0 m (pc + 1) ls (.int (gI z 60 w) :: rest))) : W p l e R s m args below meth c H locs cells slots Q (F0 m pc ls (.int i :: .ref (ad 60) :: rest)) := by
  subst hw
  exact u_iald (i0 := 60) X hP rfl hin d k
theorem ld_61 {i : Int32} {w : Nat} (X : UC p s m args meth c cc nL own R fr lo D ad cs sd A) (hP : va_P D clss (wld cs ad z) H) (hw : i.toNatClampNeg = w) (hin : ¬ (i < 0 ∨ 10 ≤ i.toNatClampNeg)) (d : decode cc pc = .ok (.iaload, 1)) (k : W p l e R s m args below meth c H locs cells slots Q (F0 m (pc + 1) ls (.int (gI z 61 w) :: rest))) : W p l e R s m args below meth c H locs cells slots Q (F0 m pc ls (.int i :: .ref (ad 61) :: rest)) := by
  subst hw
  exact u_iald (i0 := 61) X hP rfl hin d k
theorem ld_62 {i : Int32} {w : Nat} (X : UC p s m args meth c cc nL own R fr lo D ad cs sd A) (hP : va_P D clss (wld cs ad z) H) (hw : i.toNatClampNeg = w) (hin : ¬ (i < 0 ∨ 8 ≤ i.toNatClampNeg)) (d : decode cc pc = .ok (.iaload, 1)) (k : W p l e R s m args below meth c H locs cells slots Q (F0 m (pc + 1) ls (.int (gI z 62 w) :: rest))) : W p l e R s m args below meth c H locs cells slots Q (F0 m pc ls (.int i :: .ref (ad 62) :: rest)) := by
  subst hw
  exact u_iald (i0 := 62) X hP rfl hin d k
theorem ld_63 {i : Int32} {w : Nat} (X : UC p s m args meth c cc nL own R fr lo D ad cs sd A) (hP : va_P D clss (wld cs ad z) H) (hw : i.toNatClampNeg = w) (hin : ¬ (i < 0 ∨ 8 ≤ i.toNatClampNeg)) (d : decode cc pc = .ok (.iaload, 1)) (k : W p l e R s m args below meth c H locs cells slots Q (F0 m (pc + 1) ls (.int (gI z 63 w) :: rest))) : W p l e R s m args below meth c H locs cells slots Q (F0 m pc ls (.int i :: .ref (ad 63) :: rest)) := by
  subst hw
  exact u_iald (i0 := 63) X hP rfl hin d k
theorem ld_64 {i : Int32} {w : Nat} (X : UC p s m args meth c cc nL own R fr lo D ad cs sd A) (hP : va_P D clss (wld cs ad z) H) (hw : i.toNatClampNeg = w) (hin : ¬ (i < 0 ∨ 8 ≤ i.toNatClampNeg)) (d : decode cc pc = .ok (.iaload, 1)) (k : W p l e R s m args below meth c H locs cells slots Q (F0 m (pc + 1) ls (.int (gI z 64 w) :: rest))) : W p l e R s m args below meth c H locs cells slots Q (F0 m pc ls (.int i :: .ref (ad 64) :: rest)) := by
  subst hw
  exact u_iald (i0 := 64) X hP rfl hin d k
theorem ld_65 {i : Int32} {w : Nat} (X : UC p s m args meth c cc nL own R fr lo D ad cs sd A) (hP : va_P D clss (wld cs ad z) H) (hw : i.toNatClampNeg = w) (hin : ¬ (i < 0 ∨ 200 ≤ i.toNatClampNeg)) (d : decode cc pc = .ok (.iaload, 1)) (k : W p l e R s m args below meth c H locs cells slots Q (F0 m (pc + 1) ls (.int (gI z 65 w) :: rest))) : W p l e R s m args below meth c H locs cells slots Q (F0 m pc ls (.int i :: .ref (ad 65) :: rest)) := by
  subst hw
  exact u_iald (i0 := 65) X hP rfl hin d k
theorem ld_66 {i : Int32} {w : Nat} (X : UC p s m args meth c cc nL own R fr lo D ad cs sd A) (hP : va_P D clss (wld cs ad z) H) (hw : i.toNatClampNeg = w) (hin : ¬ (i < 0 ∨ 8 ≤ i.toNatClampNeg)) (d : decode cc pc = .ok (.iaload, 1)) (k : W p l e R s m args below meth c H locs cells slots Q (F0 m (pc + 1) ls (.int (gI z 66 w) :: rest))) : W p l e R s m args below meth c H locs cells slots Q (F0 m pc ls (.int i :: .ref (ad 66) :: rest)) := by
  subst hw
  exact u_iald (i0 := 66) X hP rfl hin d k
theorem ld_67 {i : Int32} {w : Nat} (X : UC p s m args meth c cc nL own R fr lo D ad cs sd A) (hP : va_P D clss (wld cs ad z) H) (hw : i.toNatClampNeg = w) (hin : ¬ (i < 0 ∨ 8 ≤ i.toNatClampNeg)) (d : decode cc pc = .ok (.iaload, 1)) (k : W p l e R s m args below meth c H locs cells slots Q (F0 m (pc + 1) ls (.int (gI z 67 w) :: rest))) : W p l e R s m args below meth c H locs cells slots Q (F0 m pc ls (.int i :: .ref (ad 67) :: rest)) := by
  subst hw
  exact u_iald (i0 := 67) X hP rfl hin d k
theorem ld_68 {i : Int32} {w : Nat} (X : UC p s m args meth c cc nL own R fr lo D ad cs sd A) (hP : va_P D clss (wld cs ad z) H) (hw : i.toNatClampNeg = w) (hin : ¬ (i < 0 ∨ 64 ≤ i.toNatClampNeg)) (d : decode cc pc = .ok (.iaload, 1)) (k : W p l e R s m args below meth c H locs cells slots Q (F0 m (pc + 1) ls (.int (gI z 68 w) :: rest))) : W p l e R s m args below meth c H locs cells slots Q (F0 m pc ls (.int i :: .ref (ad 68) :: rest)) := by
  subst hw
  exact u_iald (i0 := 68) X hP rfl hin d k
theorem ld_69 {i : Int32} {w : Nat} (X : UC p s m args meth c cc nL own R fr lo D ad cs sd A) (hP : va_P D clss (wld cs ad z) H) (hw : i.toNatClampNeg = w) (hin : ¬ (i < 0 ∨ 8 ≤ i.toNatClampNeg)) (d : decode cc pc = .ok (.iaload, 1)) (k : W p l e R s m args below meth c H locs cells slots Q (F0 m (pc + 1) ls (.int (gI z 69 w) :: rest))) : W p l e R s m args below meth c H locs cells slots Q (F0 m pc ls (.int i :: .ref (ad 69) :: rest)) := by
  subst hw
  exact u_iald (i0 := 69) X hP rfl hin d k
theorem ld_7 {i : Int32} {w : Nat} (X : UC p s m args meth c cc nL own R fr lo D ad cs sd A) (hP : va_P D clss (wld cs ad z) H) (hw : i.toNatClampNeg = w) (hin : ¬ (i < 0 ∨ 10 ≤ i.toNatClampNeg)) (d : decode cc pc = .ok (.iaload, 1)) (k : W p l e R s m args below meth c H locs cells slots Q (F0 m (pc + 1) ls (.int (gI z 7 w) :: rest))) : W p l e R s m args below meth c H locs cells slots Q (F0 m pc ls (.int i :: .ref (ad 7) :: rest)) := by
  subst hw
  exact u_iald (i0 := 7) X hP rfl hin d k
theorem ld_70 {i : Int32} {w : Nat} (X : UC p s m args meth c cc nL own R fr lo D ad cs sd A) (hP : va_P D clss (wld cs ad z) H) (hw : i.toNatClampNeg = w) (hin : ¬ (i < 0 ∨ 12 ≤ i.toNatClampNeg)) (d : decode cc pc = .ok (.iaload, 1)) (k : W p l e R s m args below meth c H locs cells slots Q (F0 m (pc + 1) ls (.int (gI z 70 w) :: rest))) : W p l e R s m args below meth c H locs cells slots Q (F0 m pc ls (.int i :: .ref (ad 70) :: rest)) := by
  subst hw
  exact u_iald (i0 := 70) X hP rfl hin d k
theorem ld_71 {i : Int32} {w : Nat} (X : UC p s m args meth c cc nL own R fr lo D ad cs sd A) (hP : va_P D clss (wld cs ad z) H) (hw : i.toNatClampNeg = w) (hin : ¬ (i < 0 ∨ 4 ≤ i.toNatClampNeg)) (d : decode cc pc = .ok (.iaload, 1)) (k : W p l e R s m args below meth c H locs cells slots Q (F0 m (pc + 1) ls (.int (gI z 71 w) :: rest))) : W p l e R s m args below meth c H locs cells slots Q (F0 m pc ls (.int i :: .ref (ad 71) :: rest)) := by
  subst hw
  exact u_iald (i0 := 71) X hP rfl hin d k
theorem ld_72 {i : Int32} {w : Nat} (X : UC p s m args meth c cc nL own R fr lo D ad cs sd A) (hP : va_P D clss (wld cs ad z) H) (hw : i.toNatClampNeg = w) (hin : ¬ (i < 0 ∨ 3 ≤ i.toNatClampNeg)) (d : decode cc pc = .ok (.iaload, 1)) (k : W p l e R s m args below meth c H locs cells slots Q (F0 m (pc + 1) ls (.int (gI z 72 w) :: rest))) : W p l e R s m args below meth c H locs cells slots Q (F0 m pc ls (.int i :: .ref (ad 72) :: rest)) := by
  subst hw
  exact u_iald (i0 := 72) X hP rfl hin d k
theorem ld_73 {i : Int32} {w : Nat} (X : UC p s m args meth c cc nL own R fr lo D ad cs sd A) (hP : va_P D clss (wld cs ad z) H) (hw : i.toNatClampNeg = w) (hin : ¬ (i < 0 ∨ 11 ≤ i.toNatClampNeg)) (d : decode cc pc = .ok (.laload, 1)) (k : W p l e R s m args below meth c H locs cells slots Q (F0 m (pc + 1) ls (.long (gJ z 73 w) :: rest))) : W p l e R s m args below meth c H locs cells slots Q (F0 m pc ls (.int i :: .ref (ad 73) :: rest)) := by
  subst hw
  exact u_lald (i0 := 73) X hP rfl hin d k
theorem ld_74 {i : Int32} {w : Nat} (X : UC p s m args meth c cc nL own R fr lo D ad cs sd A) (hP : va_P D clss (wld cs ad z) H) (hw : i.toNatClampNeg = w) (hin : ¬ (i < 0 ∨ 4 ≤ i.toNatClampNeg)) (d : decode cc pc = .ok (.iaload, 1)) (k : W p l e R s m args below meth c H locs cells slots Q (F0 m (pc + 1) ls (.int (gI z 74 w) :: rest))) : W p l e R s m args below meth c H locs cells slots Q (F0 m pc ls (.int i :: .ref (ad 74) :: rest)) := by
  subst hw
  exact u_iald (i0 := 74) X hP rfl hin d k
theorem ld_75 {i : Int32} {w : Nat} (X : UC p s m args meth c cc nL own R fr lo D ad cs sd A) (hP : va_P D clss (wld cs ad z) H) (hw : i.toNatClampNeg = w) (hin : ¬ (i < 0 ∨ 30 ≤ i.toNatClampNeg)) (d : decode cc pc = .ok (.iaload, 1)) (k : W p l e R s m args below meth c H locs cells slots Q (F0 m (pc + 1) ls (.int (gI z 75 w) :: rest))) : W p l e R s m args below meth c H locs cells slots Q (F0 m pc ls (.int i :: .ref (ad 75) :: rest)) := by
  subst hw
  exact u_iald (i0 := 75) X hP rfl hin d k
theorem ld_76 {i : Int32} {w : Nat} (X : UC p s m args meth c cc nL own R fr lo D ad cs sd A) (hP : va_P D clss (wld cs ad z) H) (hw : i.toNatClampNeg = w) (hin : ¬ (i < 0 ∨ 30 ≤ i.toNatClampNeg)) (d : decode cc pc = .ok (.iaload, 1)) (k : W p l e R s m args below meth c H locs cells slots Q (F0 m (pc + 1) ls (.int (gI z 76 w) :: rest))) : W p l e R s m args below meth c H locs cells slots Q (F0 m pc ls (.int i :: .ref (ad 76) :: rest)) := by
  subst hw
  exact u_iald (i0 := 76) X hP rfl hin d k
theorem ld_77 {i : Int32} {w : Nat} (X : UC p s m args meth c cc nL own R fr lo D ad cs sd A) (hP : va_P D clss (wld cs ad z) H) (hw : i.toNatClampNeg = w) (hin : ¬ (i < 0 ∨ 4 ≤ i.toNatClampNeg)) (d : decode cc pc = .ok (.iaload, 1)) (k : W p l e R s m args below meth c H locs cells slots Q (F0 m (pc + 1) ls (.int (gI z 77 w) :: rest))) : W p l e R s m args below meth c H locs cells slots Q (F0 m pc ls (.int i :: .ref (ad 77) :: rest)) := by
  subst hw
  exact u_iald (i0 := 77) X hP rfl hin d k
theorem ld_78 {i : Int32} {w : Nat} (X : UC p s m args meth c cc nL own R fr lo D ad cs sd A) (hP : va_P D clss (wld cs ad z) H) (hw : i.toNatClampNeg = w) (hin : ¬ (i < 0 ∨ 4 ≤ i.toNatClampNeg)) (d : decode cc pc = .ok (.iaload, 1)) (k : W p l e R s m args below meth c H locs cells slots Q (F0 m (pc + 1) ls (.int (gI z 78 w) :: rest))) : W p l e R s m args below meth c H locs cells slots Q (F0 m pc ls (.int i :: .ref (ad 78) :: rest)) := by
  subst hw
  exact u_iald (i0 := 78) X hP rfl hin d k
theorem ld_79 {i : Int32} {w : Nat} (X : UC p s m args meth c cc nL own R fr lo D ad cs sd A) (hP : va_P D clss (wld cs ad z) H) (hw : i.toNatClampNeg = w) (hin : ¬ (i < 0 ∨ 160 ≤ i.toNatClampNeg)) (d : decode cc pc = .ok (.laload, 1)) (k : W p l e R s m args below meth c H locs cells slots Q (F0 m (pc + 1) ls (.long (gJ z 79 w) :: rest))) : W p l e R s m args below meth c H locs cells slots Q (F0 m pc ls (.int i :: .ref (ad 79) :: rest)) := by
  subst hw
  exact u_lald (i0 := 79) X hP rfl hin d k
theorem ld_80 {i : Int32} {w : Nat} (X : UC p s m args meth c cc nL own R fr lo D ad cs sd A) (hP : va_P D clss (wld cs ad z) H) (hw : i.toNatClampNeg = w) (hin : ¬ (i < 0 ∨ 4 ≤ i.toNatClampNeg)) (d : decode cc pc = .ok (.iaload, 1)) (k : W p l e R s m args below meth c H locs cells slots Q (F0 m (pc + 1) ls (.int (gI z 80 w) :: rest))) : W p l e R s m args below meth c H locs cells slots Q (F0 m pc ls (.int i :: .ref (ad 80) :: rest)) := by
  subst hw
  exact u_iald (i0 := 80) X hP rfl hin d k
theorem ld_81 {i : Int32} {w : Nat} (X : UC p s m args meth c cc nL own R fr lo D ad cs sd A) (hP : va_P D clss (wld cs ad z) H) (hw : i.toNatClampNeg = w) (hin : ¬ (i < 0 ∨ 4 ≤ i.toNatClampNeg)) (d : decode cc pc = .ok (.iaload, 1)) (k : W p l e R s m args below meth c H locs cells slots Q (F0 m (pc + 1) ls (.int (gI z 81 w) :: rest))) : W p l e R s m args below meth c H locs cells slots Q (F0 m pc ls (.int i :: .ref (ad 81) :: rest)) := by
  subst hw
  exact u_iald (i0 := 81) X hP rfl hin d k
theorem ld_82 {i : Int32} {w : Nat} (X : UC p s m args meth c cc nL own R fr lo D ad cs sd A) (hP : va_P D clss (wld cs ad z) H) (hw : i.toNatClampNeg = w) (hin : ¬ (i < 0 ∨ 4 ≤ i.toNatClampNeg)) (d : decode cc pc = .ok (.iaload, 1)) (k : W p l e R s m args below meth c H locs cells slots Q (F0 m (pc + 1) ls (.int (gI z 82 w) :: rest))) : W p l e R s m args below meth c H locs cells slots Q (F0 m pc ls (.int i :: .ref (ad 82) :: rest)) := by
  subst hw
  exact u_iald (i0 := 82) X hP rfl hin d k
theorem ld_83 {i : Int32} {w : Nat} (X : UC p s m args meth c cc nL own R fr lo D ad cs sd A) (hP : va_P D clss (wld cs ad z) H) (hw : i.toNatClampNeg = w) (hin : ¬ (i < 0 ∨ 30 ≤ i.toNatClampNeg)) (d : decode cc pc = .ok (.iaload, 1)) (k : W p l e R s m args below meth c H locs cells slots Q (F0 m (pc + 1) ls (.int (gI z 83 w) :: rest))) : W p l e R s m args below meth c H locs cells slots Q (F0 m pc ls (.int i :: .ref (ad 83) :: rest)) := by
  subst hw
  exact u_iald (i0 := 83) X hP rfl hin d k
theorem ld_84 {i : Int32} {w : Nat} (X : UC p s m args meth c cc nL own R fr lo D ad cs sd A) (hP : va_P D clss (wld cs ad z) H) (hw : i.toNatClampNeg = w) (hin : ¬ (i < 0 ∨ 200 ≤ i.toNatClampNeg)) (d : decode cc pc = .ok (.iaload, 1)) (k : W p l e R s m args below meth c H locs cells slots Q (F0 m (pc + 1) ls (.int (gI z 84 w) :: rest))) : W p l e R s m args below meth c H locs cells slots Q (F0 m pc ls (.int i :: .ref (ad 84) :: rest)) := by
  subst hw
  exact u_iald (i0 := 84) X hP rfl hin d k
theorem ld_85 {i : Int32} {w : Nat} (X : UC p s m args meth c cc nL own R fr lo D ad cs sd A) (hP : va_P D clss (wld cs ad z) H) (hw : i.toNatClampNeg = w) (hin : ¬ (i < 0 ∨ 4 ≤ i.toNatClampNeg)) (d : decode cc pc = .ok (.iaload, 1)) (k : W p l e R s m args below meth c H locs cells slots Q (F0 m (pc + 1) ls (.int (gI z 85 w) :: rest))) : W p l e R s m args below meth c H locs cells slots Q (F0 m pc ls (.int i :: .ref (ad 85) :: rest)) := by
  subst hw
  exact u_iald (i0 := 85) X hP rfl hin d k
theorem ld_9 {i : Int32} {w : Nat} (X : UC p s m args meth c cc nL own R fr lo D ad cs sd A) (hP : va_P D clss (wld cs ad z) H) (hw : i.toNatClampNeg = w) (hin : ¬ (i < 0 ∨ 200 ≤ i.toNatClampNeg)) (d : decode cc pc = .ok (.iaload, 1)) (k : W p l e R s m args below meth c H locs cells slots Q (F0 m (pc + 1) ls (.int (gI z 9 w) :: rest))) : W p l e R s m args below meth c H locs cells slots Q (F0 m pc ls (.int i :: .ref (ad 9) :: rest)) := by
  subst hw
  exact u_iald (i0 := 9) X hP rfl hin d k
theorem ld_dyn22 {j : Nat} (hj : j < 3) {i : Int32} {w : Nat} (X : UC p s m args meth c cc nL own R fr lo D ad cs sd A) (hP : va_P D clss (wld cs ad z) H) (hw : i.toNatClampNeg = w) (hin : ¬ (i < 0 ∨ 64 ≤ i.toNatClampNeg)) (d : decode cc pc = .ok (.iaload, 1)) (k : W p l e R s m args below meth c H locs cells slots Q (F0 m (pc + 1) ls (.int (gI z (22 + j) w) :: rest))) : W p l e R s m args below meth c H locs cells slots Q (F0 m pc ls (.int i :: .ref (ad (22 + j)) :: rest)) := by
  subst hw
  exact u_iald (i0 := (22 + j)) X hP (en_dyn22 hj cs ad z) hin d k
theorem ld_dyn38 {j : Nat} (hj : j < 4) {i : Int32} {w : Nat} (X : UC p s m args meth c cc nL own R fr lo D ad cs sd A) (hP : va_P D clss (wld cs ad z) H) (hw : i.toNatClampNeg = w) (hin : ¬ (i < 0 ∨ 40 ≤ i.toNatClampNeg)) (d : decode cc pc = .ok (.iaload, 1)) (k : W p l e R s m args below meth c H locs cells slots Q (F0 m (pc + 1) ls (.int (gI z (38 + j) w) :: rest))) : W p l e R s m args below meth c H locs cells slots Q (F0 m pc ls (.int i :: .ref (ad (38 + j)) :: rest)) := by
  subst hw
  exact u_iald (i0 := (38 + j)) X hP (en_dyn38 hj cs ad z) hin d k
theorem as_11 {i : Int32} {v : Int32} {w : Nat} (X : UC p s m args meth c cc nL own R fr lo D ad cs sd A) (hP : va_P D clss (wld cs ad z) H) (hS : va_S A s.heap H locs) (hw : i.toNatClampNeg = w) (hin : ¬ (i < 0 ∨ 8 ≤ i.toNatClampNeg)) (d : decode cc pc = .ok (.iastore, 1)) (k : ∀ (H : Heap) (locs : List Loc), va_P D clss (wld cs ad (pI z 11 w v)) H → va_S A s.heap H locs → W p l e R s m args below meth c H locs cells slots Q (F0 m (pc + 1) ls rest)) : W p l e R s m args below meth c H locs cells slots Q (F0 m pc ls (.int v :: .int i :: .ref (ad 11) :: rest)) := by
  subst hw
  exact u_iast 11 (pI z 11 i.toNatClampNeg v) X hP hS rfl (ax_11 cs ad z _) hin d k
theorem as_12 {i : Int32} {v : Int32} {w : Nat} (X : UC p s m args meth c cc nL own R fr lo D ad cs sd A) (hP : va_P D clss (wld cs ad z) H) (hS : va_S A s.heap H locs) (hw : i.toNatClampNeg = w) (hin : ¬ (i < 0 ∨ 8 ≤ i.toNatClampNeg)) (d : decode cc pc = .ok (.iastore, 1)) (k : ∀ (H : Heap) (locs : List Loc), va_P D clss (wld cs ad (pI z 12 w v)) H → va_S A s.heap H locs → W p l e R s m args below meth c H locs cells slots Q (F0 m (pc + 1) ls rest)) : W p l e R s m args below meth c H locs cells slots Q (F0 m pc ls (.int v :: .int i :: .ref (ad 12) :: rest)) := by
  subst hw
  exact u_iast 12 (pI z 12 i.toNatClampNeg v) X hP hS rfl (ax_12 cs ad z _) hin d k
theorem as_13 {i : Int32} {v : Int32} {w : Nat} (X : UC p s m args meth c cc nL own R fr lo D ad cs sd A) (hP : va_P D clss (wld cs ad z) H) (hS : va_S A s.heap H locs) (hw : i.toNatClampNeg = w) (hin : ¬ (i < 0 ∨ 64 ≤ i.toNatClampNeg)) (d : decode cc pc = .ok (.iastore, 1)) (k : ∀ (H : Heap) (locs : List Loc), va_P D clss (wld cs ad (pI z 13 w v)) H → va_S A s.heap H locs → W p l e R s m args below meth c H locs cells slots Q (F0 m (pc + 1) ls rest)) : W p l e R s m args below meth c H locs cells slots Q (F0 m pc ls (.int v :: .int i :: .ref (ad 13) :: rest)) := by
  subst hw
  exact u_iast 13 (pI z 13 i.toNatClampNeg v) X hP hS rfl (ax_13 cs ad z _) hin d k
theorem as_14 {i : Int32} {v : Int32} {w : Nat} (X : UC p s m args meth c cc nL own R fr lo D ad cs sd A) (hP : va_P D clss (wld cs ad z) H) (hS : va_S A s.heap H locs) (hw : i.toNatClampNeg = w) (hin : ¬ (i < 0 ∨ 8 ≤ i.toNatClampNeg)) (d : decode cc pc = .ok (.iastore, 1)) (k : ∀ (H : Heap) (locs : List Loc), va_P D clss (wld cs ad (pI z 14 w v)) H → va_S A s.heap H locs → W p l e R s m args below meth c H locs cells slots Q (F0 m (pc + 1) ls rest)) : W p l e R s m args below meth c H locs cells slots Q (F0 m pc ls (.int v :: .int i :: .ref (ad 14) :: rest)) := by
  subst hw
  exact u_iast 14 (pI z 14 i.toNatClampNeg v) X hP hS rfl (ax_14 cs ad z _) hin d k
theorem as_2 {i : Int32} {v : Int32} {w : Nat} (X : UC p s m args meth c cc nL own R fr lo D ad cs sd A) (hP : va_P D clss (wld cs ad z) H) (hS : va_S A s.heap H locs) (hw : i.toNatClampNeg = w) (hin : ¬ (i < 0 ∨ 8 ≤ i.toNatClampNeg)) (d : decode cc pc = .ok (.iastore, 1)) (k : ∀ (H : Heap) (locs : List Loc), va_P D clss (wld cs ad (pI z 2 w v)) H → va_S A s.heap H locs → W p l e R s m args below meth c H locs cells slots Q (F0 m (pc + 1) ls rest)) : W p l e R s m args below meth c H locs cells slots Q (F0 m pc ls (.int v :: .int i :: .ref (ad 2) :: rest)) := by
  subst hw
  exact u_iast 2 (pI z 2 i.toNatClampNeg v) X hP hS rfl (ax_2 cs ad z _) hin d k
theorem as_20 {i : Int32} {v : Int32} {w : Nat} (X : UC p s m args meth c cc nL own R fr lo D ad cs sd A) (hP : va_P D clss (wld cs ad z) H) (hS : va_S A s.heap H locs) (hw : i.toNatClampNeg = w) (hin : ¬ (i < 0 ∨ 64 ≤ i.toNatClampNeg)) (d : decode cc pc = .ok (.iastore, 1)) (k : ∀ (H : Heap) (locs : List Loc), va_P D clss (wld cs ad (pI z 20 w v)) H → va_S A s.heap H locs → W p l e R s m args below meth c H locs cells slots Q (F0 m (pc + 1) ls rest)) : W p l e R s m args below meth c H locs cells slots Q (F0 m pc ls (.int v :: .int i :: .ref (ad 20) :: rest)) := by
  subst hw
  exact u_iast 20 (pI z 20 i.toNatClampNeg v) X hP hS rfl (ax_20 cs ad z _) hin d k
theorem as_25 {i : Int32} {v : Int32} {w : Nat} (X : UC p s m args meth c cc nL own R fr lo D ad cs sd A) (hP : va_P D clss (wld cs ad z) H) (hS : va_S A s.heap H locs) (hw : i.toNatClampNeg = w) (hin : ¬ (i < 0 ∨ 3 ≤ i.toNatClampNeg)) (d : decode cc pc = .ok (.iastore, 1)) (k : ∀ (H : Heap) (locs : List Loc), va_P D clss (wld cs ad (pI z 25 w v)) H → va_S A s.heap H locs → W p l e R s m args below meth c H locs cells slots Q (F0 m (pc + 1) ls rest)) : W p l e R s m args below meth c H locs cells slots Q (F0 m pc ls (.int v :: .int i :: .ref (ad 25) :: rest)) := by
  subst hw
  exact u_iast 25 (pI z 25 i.toNatClampNeg v) X hP hS rfl (ax_25 cs ad z _) hin d k
theorem as_27 {i : Int32} {v : Int32} {w : Nat} (X : UC p s m args meth c cc nL own R fr lo D ad cs sd A) (hP : va_P D clss (wld cs ad z) H) (hS : va_S A s.heap H locs) (hw : i.toNatClampNeg = w) (hin : ¬ (i < 0 ∨ 4 ≤ i.toNatClampNeg)) (d : decode cc pc = .ok (.iastore, 1)) (k : ∀ (H : Heap) (locs : List Loc), va_P D clss (wld cs ad (pI z 27 w v)) H → va_S A s.heap H locs → W p l e R s m args below meth c H locs cells slots Q (F0 m (pc + 1) ls rest)) : W p l e R s m args below meth c H locs cells slots Q (F0 m pc ls (.int v :: .int i :: .ref (ad 27) :: rest)) := by
  subst hw
  exact u_iast 27 (pI z 27 i.toNatClampNeg v) X hP hS rfl (ax_27 cs ad z _) hin d k
theorem as_28 {i : Int32} {v : Int32} {w : Nat} (X : UC p s m args meth c cc nL own R fr lo D ad cs sd A) (hP : va_P D clss (wld cs ad z) H) (hS : va_S A s.heap H locs) (hw : i.toNatClampNeg = w) (hin : ¬ (i < 0 ∨ 4 ≤ i.toNatClampNeg)) (d : decode cc pc = .ok (.iastore, 1)) (k : ∀ (H : Heap) (locs : List Loc), va_P D clss (wld cs ad (pI z 28 w v)) H → va_S A s.heap H locs → W p l e R s m args below meth c H locs cells slots Q (F0 m (pc + 1) ls rest)) : W p l e R s m args below meth c H locs cells slots Q (F0 m pc ls (.int v :: .int i :: .ref (ad 28) :: rest)) := by
  subst hw
  exact u_iast 28 (pI z 28 i.toNatClampNeg v) X hP hS rfl (ax_28 cs ad z _) hin d k
theorem as_29 {i : Int32} {v : Int32} {w : Nat} (X : UC p s m args meth c cc nL own R fr lo D ad cs sd A) (hP : va_P D clss (wld cs ad z) H) (hS : va_S A s.heap H locs) (hw : i.toNatClampNeg = w) (hin : ¬ (i < 0 ∨ 4 ≤ i.toNatClampNeg)) (d : decode cc pc = .ok (.iastore, 1)) (k : ∀ (H : Heap) (locs : List Loc), va_P D clss (wld cs ad (pI z 29 w v)) H → va_S A s.heap H locs → W p l e R s m args below meth c H locs cells slots Q (F0 m (pc + 1) ls rest)) : W p l e R s m args below meth c H locs cells slots Q (F0 m pc ls (.int v :: .int i :: .ref (ad 29) :: rest)) := by
  subst hw
  exact u_iast 29 (pI z 29 i.toNatClampNeg v) X hP hS rfl (ax_29 cs ad z _) hin d k
theorem as_3 {i : Int32} {v : Int32} {w : Nat} (X : UC p s m args meth c cc nL own R fr lo D ad cs sd A) (hP : va_P D clss (wld cs ad z) H) (hS : va_S A s.heap H locs) (hw : i.toNatClampNeg = w) (hin : ¬ (i < 0 ∨ 8 ≤ i.toNatClampNeg)) (d : decode cc pc = .ok (.iastore, 1)) (k : ∀ (H : Heap) (locs : List Loc), va_P D clss (wld cs ad (pI z 3 w v)) H → va_S A s.heap H locs → W p l e R s m args below meth c H locs cells slots Q (F0 m (pc + 1) ls rest)) : W p l e R s m args below meth c H locs cells slots Q (F0 m pc ls (.int v :: .int i :: .ref (ad 3) :: rest)) := by
  subst hw
  exact u_iast 3 (pI z 3 i.toNatClampNeg v) X hP hS rfl (ax_3 cs ad z _) hin d k
theorem as_31 {i : Int32} {v : Int32} {w : Nat} (X : UC p s m args meth c cc nL own R fr lo D ad cs sd A) (hP : va_P D clss (wld cs ad z) H) (hS : va_S A s.heap H locs) (hw : i.toNatClampNeg = w) (hin : ¬ (i < 0 ∨ 30 ≤ i.toNatClampNeg)) (d : decode cc pc = .ok (.iastore, 1)) (k : ∀ (H : Heap) (locs : List Loc), va_P D clss (wld cs ad (pI z 31 w v)) H → va_S A s.heap H locs → W p l e R s m args below meth c H locs cells slots Q (F0 m (pc + 1) ls rest)) : W p l e R s m args below meth c H locs cells slots Q (F0 m pc ls (.int v :: .int i :: .ref (ad 31) :: rest)) := by
  subst hw
  exact u_iast 31 (pI z 31 i.toNatClampNeg v) X hP hS rfl (ax_31 cs ad z _) hin d k
theorem as_33 {i : Int32} {v : Int32} {w : Nat} (X : UC p s m args meth c cc nL own R fr lo D ad cs sd A) (hP : va_P D clss (wld cs ad z) H) (hS : va_S A s.heap H locs) (hw : i.toNatClampNeg = w) (hin : ¬ (i < 0 ∨ 30 ≤ i.toNatClampNeg)) (d : decode cc pc = .ok (.iastore, 1)) (k : ∀ (H : Heap) (locs : List Loc), va_P D clss (wld cs ad (pI z 33 w v)) H → va_S A s.heap H locs → W p l e R s m args below meth c H locs cells slots Q (F0 m (pc + 1) ls rest)) : W p l e R s m args below meth c H locs cells slots Q (F0 m pc ls (.int v :: .int i :: .ref (ad 33) :: rest)) := by
  subst hw
  exact u_iast 33 (pI z 33 i.toNatClampNeg v) X hP hS rfl (ax_33 cs ad z _) hin d k
theorem as_35 {i : Int32} {v : Int32} {w : Nat} (X : UC p s m args meth c cc nL own R fr lo D ad cs sd A) (hP : va_P D clss (wld cs ad z) H) (hS : va_S A s.heap H locs) (hw : i.toNatClampNeg = w) (hin : ¬ (i < 0 ∨ 4 ≤ i.toNatClampNeg)) (d : decode cc pc = .ok (.iastore, 1)) (k : ∀ (H : Heap) (locs : List Loc), va_P D clss (wld cs ad (pI z 35 w v)) H → va_S A s.heap H locs → W p l e R s m args below meth c H locs cells slots Q (F0 m (pc + 1) ls rest)) : W p l e R s m args below meth c H locs cells slots Q (F0 m pc ls (.int v :: .int i :: .ref (ad 35) :: rest)) := by
  subst hw
  exact u_iast 35 (pI z 35 i.toNatClampNeg v) X hP hS rfl (ax_35 cs ad z _) hin d k
theorem as_36 {i : Int32} {v : Int32} {w : Nat} (X : UC p s m args meth c cc nL own R fr lo D ad cs sd A) (hP : va_P D clss (wld cs ad z) H) (hS : va_S A s.heap H locs) (hw : i.toNatClampNeg = w) (hin : ¬ (i < 0 ∨ 4 ≤ i.toNatClampNeg)) (d : decode cc pc = .ok (.iastore, 1)) (k : ∀ (H : Heap) (locs : List Loc), va_P D clss (wld cs ad (pI z 36 w v)) H → va_S A s.heap H locs → W p l e R s m args below meth c H locs cells slots Q (F0 m (pc + 1) ls rest)) : W p l e R s m args below meth c H locs cells slots Q (F0 m pc ls (.int v :: .int i :: .ref (ad 36) :: rest)) := by
  subst hw
  exact u_iast 36 (pI z 36 i.toNatClampNeg v) X hP hS rfl (ax_36 cs ad z _) hin d k
theorem as_4 {i : Int32} {v : Int32} {w : Nat} (X : UC p s m args meth c cc nL own R fr lo D ad cs sd A) (hP : va_P D clss (wld cs ad z) H) (hS : va_S A s.heap H locs) (hw : i.toNatClampNeg = w) (hin : ¬ (i < 0 ∨ 64 ≤ i.toNatClampNeg)) (d : decode cc pc = .ok (.iastore, 1)) (k : ∀ (H : Heap) (locs : List Loc), va_P D clss (wld cs ad (pI z 4 w v)) H → va_S A s.heap H locs → W p l e R s m args below meth c H locs cells slots Q (F0 m (pc + 1) ls rest)) : W p l e R s m args below meth c H locs cells slots Q (F0 m pc ls (.int v :: .int i :: .ref (ad 4) :: rest)) := by
  subst hw
  exact u_iast 4 (pI z 4 i.toNatClampNeg v) X hP hS rfl (ax_4 cs ad z _) hin d k
theorem as_42 {i : Int32} {v : Int32} {w : Nat} (X : UC p s m args meth c cc nL own R fr lo D ad cs sd A) (hP : va_P D clss (wld cs ad z) H) (hS : va_S A s.heap H locs) (hw : i.toNatClampNeg = w) (hin : ¬ (i < 0 ∨ 4 ≤ i.toNatClampNeg)) (d : decode cc pc = .ok (.iastore, 1)) (k : ∀ (H : Heap) (locs : List Loc), va_P D clss (wld cs ad (pI z 42 w v)) H → va_S A s.heap H locs → W p l e R s m args below meth c H locs cells slots Q (F0 m (pc + 1) ls rest)) : W p l e R s m args below meth c H locs cells slots Q (F0 m pc ls (.int v :: .int i :: .ref (ad 42) :: rest)) := by
  subst hw
  exact u_iast 42 (pI z 42 i.toNatClampNeg v) X hP hS rfl (ax_42 cs ad z _) hin d k
theorem as_43 {i : Int32} {v : Int32} {w : Nat} (X : UC p s m args meth c cc nL own R fr lo D ad cs sd A) (hP : va_P D clss (wld cs ad z) H) (hS : va_S A s.heap H locs) (hw : i.toNatClampNeg = w) (hin : ¬ (i < 0 ∨ 4 ≤ i.toNatClampNeg)) (d : decode cc pc = .ok (.iastore, 1)) (k : ∀ (H : Heap) (locs : List Loc), va_P D clss (wld cs ad (pI z 43 w v)) H → va_S A s.heap H locs → W p l e R s m args below meth c H locs cells slots Q (F0 m (pc + 1) ls rest)) : W p l e R s m args below meth c H locs cells slots Q (F0 m pc ls (.int v :: .int i :: .ref (ad 43) :: rest)) := by
  subst hw
  exact u_iast 43 (pI z 43 i.toNatClampNeg v) X hP hS rfl (ax_43 cs ad z _) hin d k
theorem as_44 {i : Int32} {v : Int32} {w : Nat} (X : UC p s m args meth c cc nL own R fr lo D ad cs sd A) (hP : va_P D clss (wld cs ad z) H) (hS : va_S A s.heap H locs) (hw : i.toNatClampNeg = w) (hin : ¬ (i < 0 ∨ 4 ≤ i.toNatClampNeg)) (d : decode cc pc = .ok (.iastore, 1)) (k : ∀ (H : Heap) (locs : List Loc), va_P D clss (wld cs ad (pI z 44 w v)) H → va_S A s.heap H locs → W p l e R s m args below meth c H locs cells slots Q (F0 m (pc + 1) ls rest)) : W p l e R s m args below meth c H locs cells slots Q (F0 m pc ls (.int v :: .int i :: .ref (ad 44) :: rest)) := by
  subst hw
  exact u_iast 44 (pI z 44 i.toNatClampNeg v) X hP hS rfl (ax_44 cs ad z _) hin d k
theorem as_5 {i : Int32} {v : Int32} {w : Nat} (X : UC p s m args meth c cc nL own R fr lo D ad cs sd A) (hP : va_P D clss (wld cs ad z) H) (hS : va_S A s.heap H locs) (hw : i.toNatClampNeg = w) (hin : ¬ (i < 0 ∨ 8 ≤ i.toNatClampNeg)) (d : decode cc pc = .ok (.iastore, 1)) (k : ∀ (H : Heap) (locs : List Loc), va_P D clss (wld cs ad (pI z 5 w v)) H → va_S A s.heap H locs → W p l e R s m args below meth c H locs cells slots Q (F0 m (pc + 1) ls rest)) : W p l e R s m args below meth c H locs cells slots Q (F0 m pc ls (.int v :: .int i :: .ref (ad 5) :: rest)) := by
  subst hw
  exact u_iast 5 (pI z 5 i.toNatClampNeg v) X hP hS rfl (ax_5 cs ad z _) hin d k
theorem as_57 {i : Int32} {v : Int32} {w : Nat} (X : UC p s m args meth c cc nL own R fr lo D ad cs sd A) (hP : va_P D clss (wld cs ad z) H) (hS : va_S A s.heap H locs) (hw : i.toNatClampNeg = w) (hin : ¬ (i < 0 ∨ 8 ≤ i.toNatClampNeg)) (d : decode cc pc = .ok (.iastore, 1)) (k : ∀ (H : Heap) (locs : List Loc), va_P D clss (wld cs ad (pI z 57 w v)) H → va_S A s.heap H locs → W p l e R s m args below meth c H locs cells slots Q (F0 m (pc + 1) ls rest)) : W p l e R s m args below meth c H locs cells slots Q (F0 m pc ls (.int v :: .int i :: .ref (ad 57) :: rest)) := by
  subst hw
  exact u_iast 57 (pI z 57 i.toNatClampNeg v) X hP hS rfl (ax_57 cs ad z _) hin d k
theorem as_58 {i : Int32} {v : Int32} {w : Nat} (X : UC p s m args meth c cc nL own R fr lo D ad cs sd A) (hP : va_P D clss (wld cs ad z) H) (hS : va_S A s.heap H locs) (hw : i.toNatClampNeg = w) (hin : ¬ (i < 0 ∨ 8 ≤ i.toNatClampNeg)) (d : decode cc pc = .ok (.iastore, 1)) (k : ∀ (H : Heap) (locs : List Loc), va_P D clss (wld cs ad (pI z 58 w v)) H → va_S A s.heap H locs → W p l e R s m args below meth c H locs cells slots Q (F0 m (pc + 1) ls rest)) : W p l e R s m args below meth c H locs cells slots Q (F0 m pc ls (.int v :: .int i :: .ref (ad 58) :: rest)) := by
  subst hw
  exact u_iast 58 (pI z 58 i.toNatClampNeg v) X hP hS rfl (ax_58 cs ad z _) hin d k
theorem as_59 {i : Int32} {v : Int32} {w : Nat} (X : UC p s m args meth c cc nL own R fr lo D ad cs sd A) (hP : va_P D clss (wld cs ad z) H) (hS : va_S A s.heap H locs) (hw : i.toNatClampNeg = w) (hin : ¬ (i < 0 ∨ 64 ≤ i.toNatClampNeg)) (d : decode cc pc = .ok (.iastore, 1)) (k : ∀ (H : Heap) (locs : List Loc), va_P D clss (wld cs ad (pI z 59 w v)) H → va_S A s.heap H locs → W p l e R s m args below meth c H locs cells slots Q (F0 m (pc + 1) ls rest)) : W p l e R s m args below meth c H locs cells slots Q (F0 m pc ls (.int v :: .int i :: .ref (ad 59) :: rest)) := by
  subst hw
  exact u_iast 59 (pI z 59 i.toNatClampNeg v) X hP hS rfl (ax_59 cs ad z _) hin d k
theorem as_6 {i : Int32} {v : Int32} {w : Nat} (X : UC p s m args meth c cc nL own R fr lo D ad cs sd A) (hP : va_P D clss (wld cs ad z) H) (hS : va_S A s.heap H locs) (hw : i.toNatClampNeg = w) (hin : ¬ (i < 0 ∨ 40 ≤ i.toNatClampNeg)) (d : decode cc pc = .ok (.iastore, 1)) (k : ∀ (H : Heap) (locs : List Loc), va_P D clss (wld cs ad (pI z 6 w v)) H → va_S A s.heap H locs → W p l e R s m args below meth c H locs cells slots Q (F0 m (pc + 1) ls rest)) : W p l e R s m args below meth c H locs cells slots Q (F0 m pc ls (.int v :: .int i :: .ref (ad 6) :: rest)) := by
  subst hw
  exact u_iast 6 (pI z 6 i.toNatClampNeg v) X hP hS rfl (ax_6 cs ad z _) hin d k
theorem as_60 {i : Int32} {v : Int32} {w : Nat} (X : UC p s m args meth c cc nL own R fr lo D ad cs sd A) (hP : va_P D clss (wld cs ad z) H) (hS : va_S A s.heap H locs) (hw : i.toNatClampNeg = w) (hin : ¬ (i < 0 ∨ 40 ≤ i.toNatClampNeg)) (d : decode cc pc = .ok (.iastore, 1)) (k : ∀ (H : Heap) (locs : List Loc), va_P D clss (wld cs ad (pI z 60 w v)) H → va_S A s.heap H locs → W p l e R s m args below meth c H locs cells slots Q (F0 m (pc + 1) ls rest)) : W p l e R s m args below meth c H locs cells slots Q (F0 m pc ls (.int v :: .int i :: .ref (ad 60) :: rest)) := by
  subst hw
  exact u_iast 60 (pI z 60 i.toNatClampNeg v) X hP hS rfl (ax_60 cs ad z _) hin d k
theorem as_61 {i : Int32} {v : Int32} {w : Nat} (X : UC p s m args meth c cc nL own R fr lo D ad cs sd A) (hP : va_P D clss (wld cs ad z) H) (hS : va_S A s.heap H locs) (hw : i.toNatClampNeg = w) (hin : ¬ (i < 0 ∨ 10 ≤ i.toNatClampNeg)) (d : decode cc pc = .ok (.iastore, 1)) (k : ∀ (H : Heap) (locs : List Loc), va_P D clss (wld cs ad (pI z 61 w v)) H → va_S A s.heap H locs → W p l e R s m args below meth c H locs cells slots Q (F0 m (pc + 1) ls rest)) : W p l e R s m args below meth c H locs cells slots Q (F0 m pc ls (.int v :: .int i :: .ref (ad 61) :: rest)) := by
  subst hw
  exact u_iast 61 (pI z 61 i.toNatClampNeg v) X hP hS rfl (ax_61 cs ad z _) hin d k
theorem as_62 {i : Int32} {v : Int32} {w : Nat} (X : UC p s m args meth c cc nL own R fr lo D ad cs sd A) (hP : va_P D clss (wld cs ad z) H) (hS : va_S A s.heap H locs) (hw : i.toNatClampNeg = w) (hin : ¬ (i < 0 ∨ 8 ≤ i.toNatClampNeg)) (d : decode cc pc = .ok (.iastore, 1)) (k : ∀ (H : Heap) (locs : List Loc), va_P D clss (wld cs ad (pI z 62 w v)) H → va_S A s.heap H locs → W p l e R s m args below meth c H locs cells slots Q (F0 m (pc + 1) ls rest)) : W p l e R s m args below meth c H locs cells slots Q (F0 m pc ls (.int v :: .int i :: .ref (ad 62) :: rest)) := by
  subst hw
  exact u_iast 62 (pI z 62 i.toNatClampNeg v) X hP hS rfl (ax_62 cs ad z _) hin d k
theorem as_64 {i : Int32} {v : Int32} {w : Nat} (X : UC p s m args meth c cc nL own R fr lo D ad cs sd A) (hP : va_P D clss (wld cs ad z) H) (hS : va_S A s.heap H locs) (hw : i.toNatClampNeg = w) (hin : ¬ (i < 0 ∨ 8 ≤ i.toNatClampNeg)) (d : decode cc pc = .ok (.iastore, 1)) (k : ∀ (H : Heap) (locs : List Loc), va_P D clss (wld cs ad (pI z 64 w v)) H → va_S A s.heap H locs → W p l e R s m args below meth c H locs cells slots Q (F0 m (pc + 1) ls rest)) : W p l e R s m args below meth c H locs cells slots Q (F0 m pc ls (.int v :: .int i :: .ref (ad 64) :: rest)) := by
  subst hw
  exact u_iast 64 (pI z 64 i.toNatClampNeg v) X hP hS rfl (ax_64 cs ad z _) hin d k
theorem as_65 {i : Int32} {v : Int32} {w : Nat} (X : UC p s m args meth c cc nL own R fr lo D ad cs sd A) (hP : va_P D clss (wld cs ad z) H) (hS : va_S A s.heap H locs) (hw : i.toNatClampNeg = w) (hin : ¬ (i < 0 ∨ 200 ≤ i.toNatClampNeg)) (d : decode cc pc = .ok (.iastore, 1)) (k : ∀ (H : Heap) (locs : List Loc), va_P D clss (wld cs ad (pI z 65 w v)) H → va_S A s.heap H locs → W p l e R s m args below meth c H locs cells slots Q (F0 m (pc + 1) ls rest)) : W p l e R s m args below meth c H locs cells slots Q (F0 m pc ls (.int v :: .int i :: .ref (ad 65) :: rest)) := by
  subst hw
  exact u_iast 65 (pI z 65 i.toNatClampNeg v) X hP hS rfl (ax_65 cs ad z _) hin d k
theorem as_66 {i : Int32} {v : Int32} {w : Nat} (X : UC p s m args meth c cc nL own R fr lo D ad cs sd A) (hP : va_P D clss (wld cs ad z) H) (hS : va_S A s.heap H locs) (hw : i.toNatClampNeg = w) (hin : ¬ (i < 0 ∨ 8 ≤ i.toNatClampNeg)) (d : decode cc pc = .ok (.iastore, 1)) (k : ∀ (H : Heap) (locs : List Loc), va_P D clss (wld cs ad (pI z 66 w v)) H → va_S A s.heap H locs → W p l e R s m args below meth c H locs cells slots Q (F0 m (pc + 1) ls rest)) : W p l e R s m args below meth c H locs cells slots Q (F0 m pc ls (.int v :: .int i :: .ref (ad 66) :: rest)) := by
  subst hw
  exact u_iast 66 (pI z 66 i.toNatClampNeg v) X hP hS rfl (ax_66 cs ad z _) hin d k
theorem as_67 {i : Int32} {v : Int32} {w : Nat} (X : UC p s m args meth c cc nL own R fr lo D ad cs sd A) (hP : va_P D clss (wld cs ad z) H) (hS : va_S A s.heap H locs) (hw : i.toNatClampNeg = w) (hin : ¬ (i < 0 ∨ 8 ≤ i.toNatClampNeg)) (d : decode cc pc = .ok (.iastore, 1)) (k : ∀ (H : Heap) (locs : List Loc), va_P D clss (wld cs ad (pI z 67 w v)) H → va_S A s.heap H locs → W p l e R s m args below meth c H locs cells slots Q (F0 m (pc + 1) ls rest)) : W p l e R s m args below meth c H locs cells slots Q (F0 m pc ls (.int v :: .int i :: .ref (ad 67) :: rest)) := by
  subst hw
  exact u_iast 67 (pI z 67 i.toNatClampNeg v) X hP hS rfl (ax_67 cs ad z _) hin d k
theorem as_68 {i : Int32} {v : Int32} {w : Nat} (X : UC p s m args meth c cc nL own R fr lo D ad cs sd A) (hP : va_P D clss (wld cs ad z) H) (hS : va_S A s.heap H locs) (hw : i.toNatClampNeg = w) (hin : ¬ (i < 0 ∨ 64 ≤ i.toNatClampNeg)) (d : decode cc pc = .ok (.iastore, 1)) (k : ∀ (H : Heap) (locs : List Loc), va_P D clss (wld cs ad (pI z 68 w v)) H → va_S A s.heap H locs → W p l e R s m args below meth c H locs cells slots Q (F0 m (pc + 1) ls rest)) : W p l e R s m args below meth c H locs cells slots Q (F0 m pc ls (.int v :: .int i :: .ref (ad 68) :: rest)) := by
  subst hw
  exact u_iast 68 (pI z 68 i.toNatClampNeg v) X hP hS rfl (ax_68 cs ad z _) hin d k
theorem as_69 {i : Int32} {v : Int32} {w : Nat} (X : UC p s m args meth c cc nL own R fr lo D ad cs sd A) (hP : va_P D clss (wld cs ad z) H) (hS : va_S A s.heap H locs) (hw : i.toNatClampNeg = w) (hin : ¬ (i < 0 ∨ 8 ≤ i.toNatClampNeg)) (d : decode cc pc = .ok (.iastore, 1)) (k : ∀ (H : Heap) (locs : List Loc), va_P D clss (wld cs ad (pI z 69 w v)) H → va_S A s.heap H locs → W p l e R s m args below meth c H locs cells slots Q (F0 m (pc + 1) ls rest)) : W p l e R s m args below meth c H locs cells slots Q (F0 m pc ls (.int v :: .int i :: .ref (ad 69) :: rest)) := by
  subst hw
  exact u_iast 69 (pI z 69 i.toNatClampNeg v) X hP hS rfl (ax_69 cs ad z _) hin d k
theorem as_7 {i : Int32} {v : Int32} {w : Nat} (X : UC p s m args meth c cc nL own R fr lo D ad cs sd A) (hP : va_P D clss (wld cs ad z) H) (hS : va_S A s.heap H locs) (hw : i.toNatClampNeg = w) (hin : ¬ (i < 0 ∨ 10 ≤ i.toNatClampNeg)) (d : decode cc pc = .ok (.iastore, 1)) (k : ∀ (H : Heap) (locs : List Loc), va_P D clss (wld cs ad (pI z 7 w v)) H → va_S A s.heap H locs → W p l e R s m args below meth c H locs cells slots Q (F0 m (pc + 1) ls rest)) : W p l e R s m args below meth c H locs cells slots Q (F0 m pc ls (.int v :: .int i :: .ref (ad 7) :: rest)) := by
  subst hw
  exact u_iast 7 (pI z 7 i.toNatClampNeg v) X hP hS rfl (ax_7 cs ad z _) hin d k
theorem as_70 {i : Int32} {v : Int32} {w : Nat} (X : UC p s m args meth c cc nL own R fr lo D ad cs sd A) (hP : va_P D clss (wld cs ad z) H) (hS : va_S A s.heap H locs) (hw : i.toNatClampNeg = w) (hin : ¬ (i < 0 ∨ 12 ≤ i.toNatClampNeg)) (d : decode cc pc = .ok (.iastore, 1)) (k : ∀ (H : Heap) (locs : List Loc), va_P D clss (wld cs ad (pI z 70 w v)) H → va_S A s.heap H locs → W p l e R s m args below meth c H locs cells slots Q (F0 m (pc + 1) ls rest)) : W p l e R s m args below meth c H locs cells slots Q (F0 m pc ls (.int v :: .int i :: .ref (ad 70) :: rest)) := by
  subst hw
  exact u_iast 70 (pI z 70 i.toNatClampNeg v) X hP hS rfl (ax_70 cs ad z _) hin d k
theorem as_71 {i : Int32} {v : Int32} {w : Nat} (X : UC p s m args meth c cc nL own R fr lo D ad cs sd A) (hP : va_P D clss (wld cs ad z) H) (hS : va_S A s.heap H locs) (hw : i.toNatClampNeg = w) (hin : ¬ (i < 0 ∨ 4 ≤ i.toNatClampNeg)) (d : decode cc pc = .ok (.iastore, 1)) (k : ∀ (H : Heap) (locs : List Loc), va_P D clss (wld cs ad (pI z 71 w v)) H → va_S A s.heap H locs → W p l e R s m args below meth c H locs cells slots Q (F0 m (pc + 1) ls rest)) : W p l e R s m args below meth c H locs cells slots Q (F0 m pc ls (.int v :: .int i :: .ref (ad 71) :: rest)) := by
  subst hw
  exact u_iast 71 (pI z 71 i.toNatClampNeg v) X hP hS rfl (ax_71 cs ad z _) hin d k
theorem as_72 {i : Int32} {v : Int32} {w : Nat} (X : UC p s m args meth c cc nL own R fr lo D ad cs sd A) (hP : va_P D clss (wld cs ad z) H) (hS : va_S A s.heap H locs) (hw : i.toNatClampNeg = w) (hin : ¬ (i < 0 ∨ 3 ≤ i.toNatClampNeg)) (d : decode cc pc = .ok (.iastore, 1)) (k : ∀ (H : Heap) (locs : List Loc), va_P D clss (wld cs ad (pI z 72 w v)) H → va_S A s.heap H locs → W p l e R s m args below meth c H locs cells slots Q (F0 m (pc + 1) ls rest)) : W p l e R s m args below meth c H locs cells slots Q (F0 m pc ls (.int v :: .int i :: .ref (ad 72) :: rest)) := by
  subst hw
  exact u_iast 72 (pI z 72 i.toNatClampNeg v) X hP hS rfl (ax_72 cs ad z _) hin d k
theorem as_73 {i : Int32} {v : Int64} {w : Nat} (X : UC p s m args meth c cc nL own R fr lo D ad cs sd A) (hP : va_P D clss (wld cs ad z) H) (hS : va_S A s.heap H locs) (hw : i.toNatClampNeg = w) (hin : ¬ (i < 0 ∨ 11 ≤ i.toNatClampNeg)) (d : decode cc pc = .ok (.lastore, 1)) (k : ∀ (H : Heap) (locs : List Loc), va_P D clss (wld cs ad (pJ z 73 w v)) H → va_S A s.heap H locs → W p l e R s m args below meth c H locs cells slots Q (F0 m (pc + 1) ls rest)) : W p l e R s m args below meth c H locs cells slots Q (F0 m pc ls (.long v :: .int i :: .ref (ad 73) :: rest)) := by
  subst hw
  exact u_last 73 (pJ z 73 i.toNatClampNeg v) X hP hS rfl (ax_73 cs ad z _) hin d k
theorem as_74 {i : Int32} {v : Int32} {w : Nat} (X : UC p s m args meth c cc nL own R fr lo D ad cs sd A) (hP : va_P D clss (wld cs ad z) H) (hS : va_S A s.heap H locs) (hw : i.toNatClampNeg = w) (hin : ¬ (i < 0 ∨ 4 ≤ i.toNatClampNeg)) (d : decode cc pc = .ok (.iastore, 1)) (k : ∀ (H : Heap) (locs : List Loc), va_P D clss (wld cs ad (pI z 74 w v)) H → va_S A s.heap H locs → W p l e R s m args below meth c H locs cells slots Q (F0 m (pc + 1) ls rest)) : W p l e R s m args below meth c H locs cells slots Q (F0 m pc ls (.int v :: .int i :: .ref (ad 74) :: rest)) := by
  subst hw
  exact u_iast 74 (pI z 74 i.toNatClampNeg v) X hP hS rfl (ax_74 cs ad z _) hin d k
theorem as_75 {i : Int32} {v : Int32} {w : Nat} (X : UC p s m args meth c cc nL own R fr lo D ad cs sd A) (hP : va_P D clss (wld cs ad z) H) (hS : va_S A s.heap H locs) (hw : i.toNatClampNeg = w) (hin : ¬ (i < 0 ∨ 30 ≤ i.toNatClampNeg)) (d : decode cc pc = .ok (.iastore, 1)) (k : ∀ (H : Heap) (locs : List Loc), va_P D clss (wld cs ad (pI z 75 w v)) H → va_S A s.heap H locs → W p l e R s m args below meth c H locs cells slots Q (F0 m (pc + 1) ls rest)) : W p l e R s m args below meth c H locs cells slots Q (F0 m pc ls (.int v :: .int i :: .ref (ad 75) :: rest)) := by
  subst hw
  exact u_iast 75 (pI z 75 i.toNatClampNeg v) X hP hS rfl (ax_75 cs ad z _) hin d k
theorem as_76 {i : Int32} {v : Int32} {w : Nat} (X : UC p s m args meth c cc nL own R fr lo D ad cs sd A) (hP : va_P D clss (wld cs ad z) H) (hS : va_S A s.heap H locs) (hw : i.toNatClampNeg = w) (hin : ¬ (i < 0 ∨ 30 ≤ i.toNatClampNeg)) (d : decode cc pc = .ok (.iastore, 1)) (k : ∀ (H : Heap) (locs : List Loc), va_P D clss (wld cs ad (pI z 76 w v)) H → va_S A s.heap H locs → W p l e R s m args below meth c H locs cells slots Q (F0 m (pc + 1) ls rest)) : W p l e R s m args below meth c H locs cells slots Q (F0 m pc ls (.int v :: .int i :: .ref (ad 76) :: rest)) := by
  subst hw
  exact u_iast 76 (pI z 76 i.toNatClampNeg v) X hP hS rfl (ax_76 cs ad z _) hin d k
theorem as_77 {i : Int32} {v : Int32} {w : Nat} (X : UC p s m args meth c cc nL own R fr lo D ad cs sd A) (hP : va_P D clss (wld cs ad z) H) (hS : va_S A s.heap H locs) (hw : i.toNatClampNeg = w) (hin : ¬ (i < 0 ∨ 4 ≤ i.toNatClampNeg)) (d : decode cc pc = .ok (.iastore, 1)) (k : ∀ (H : Heap) (locs : List Loc), va_P D clss (wld cs ad (pI z 77 w v)) H → va_S A s.heap H locs → W p l e R s m args below meth c H locs cells slots Q (F0 m (pc + 1) ls rest)) : W p l e R s m args below meth c H locs cells slots Q (F0 m pc ls (.int v :: .int i :: .ref (ad 77) :: rest)) := by
  subst hw
  exact u_iast 77 (pI z 77 i.toNatClampNeg v) X hP hS rfl (ax_77 cs ad z _) hin d k
theorem as_78 {i : Int32} {v : Int32} {w : Nat} (X : UC p s m args meth c cc nL own R fr lo D ad cs sd A) (hP : va_P D clss (wld cs ad z) H) (hS : va_S A s.heap H locs) (hw : i.toNatClampNeg = w) (hin : ¬ (i < 0 ∨ 4 ≤ i.toNatClampNeg)) (d : decode cc pc = .ok (.iastore, 1)) (k : ∀ (H : Heap) (locs : List Loc), va_P D clss (wld cs ad (pI z 78 w v)) H → va_S A s.heap H locs → W p l e R s m args below meth c H locs cells slots Q (F0 m (pc + 1) ls rest)) : W p l e R s m args below meth c H locs cells slots Q (F0 m pc ls (.int v :: .int i :: .ref (ad 78) :: rest)) := by
  subst hw
  exact u_iast 78 (pI z 78 i.toNatClampNeg v) X hP hS rfl (ax_78 cs ad z _) hin d k
theorem as_79 {i : Int32} {v : Int64} {w : Nat} (X : UC p s m args meth c cc nL own R fr lo D ad cs sd A) (hP : va_P D clss (wld cs ad z) H) (hS : va_S A s.heap H locs) (hw : i.toNatClampNeg = w) (hin : ¬ (i < 0 ∨ 160 ≤ i.toNatClampNeg)) (d : decode cc pc = .ok (.lastore, 1)) (k : ∀ (H : Heap) (locs : List Loc), va_P D clss (wld cs ad (pJ z 79 w v)) H → va_S A s.heap H locs → W p l e R s m args below meth c H locs cells slots Q (F0 m (pc + 1) ls rest)) : W p l e R s m args below meth c H locs cells slots Q (F0 m pc ls (.long v :: .int i :: .ref (ad 79) :: rest)) := by
  subst hw
  exact u_last 79 (pJ z 79 i.toNatClampNeg v) X hP hS rfl (ax_79 cs ad z _) hin d k
theorem as_80 {i : Int32} {v : Int32} {w : Nat} (X : UC p s m args meth c cc nL own R fr lo D ad cs sd A) (hP : va_P D clss (wld cs ad z) H) (hS : va_S A s.heap H locs) (hw : i.toNatClampNeg = w) (hin : ¬ (i < 0 ∨ 4 ≤ i.toNatClampNeg)) (d : decode cc pc = .ok (.iastore, 1)) (k : ∀ (H : Heap) (locs : List Loc), va_P D clss (wld cs ad (pI z 80 w v)) H → va_S A s.heap H locs → W p l e R s m args below meth c H locs cells slots Q (F0 m (pc + 1) ls rest)) : W p l e R s m args below meth c H locs cells slots Q (F0 m pc ls (.int v :: .int i :: .ref (ad 80) :: rest)) := by
  subst hw
  exact u_iast 80 (pI z 80 i.toNatClampNeg v) X hP hS rfl (ax_80 cs ad z _) hin d k
theorem as_81 {i : Int32} {v : Int32} {w : Nat} (X : UC p s m args meth c cc nL own R fr lo D ad cs sd A) (hP : va_P D clss (wld cs ad z) H) (hS : va_S A s.heap H locs) (hw : i.toNatClampNeg = w) (hin : ¬ (i < 0 ∨ 4 ≤ i.toNatClampNeg)) (d : decode cc pc = .ok (.iastore, 1)) (k : ∀ (H : Heap) (locs : List Loc), va_P D clss (wld cs ad (pI z 81 w v)) H → va_S A s.heap H locs → W p l e R s m args below meth c H locs cells slots Q (F0 m (pc + 1) ls rest)) : W p l e R s m args below meth c H locs cells slots Q (F0 m pc ls (.int v :: .int i :: .ref (ad 81) :: rest)) := by
  subst hw
  exact u_iast 81 (pI z 81 i.toNatClampNeg v) X hP hS rfl (ax_81 cs ad z _) hin d k
theorem as_82 {i : Int32} {v : Int32} {w : Nat} (X : UC p s m args meth c cc nL own R fr lo D ad cs sd A) (hP : va_P D clss (wld cs ad z) H) (hS : va_S A s.heap H locs) (hw : i.toNatClampNeg = w) (hin : ¬ (i < 0 ∨ 4 ≤ i.toNatClampNeg)) (d : decode cc pc = .ok (.iastore, 1)) (k : ∀ (H : Heap) (locs : List Loc), va_P D clss (wld cs ad (pI z 82 w v)) H → va_S A s.heap H locs → W p l e R s m args below meth c H locs cells slots Q (F0 m (pc + 1) ls rest)) : W p l e R s m args below meth c H locs cells slots Q (F0 m pc ls (.int v :: .int i :: .ref (ad 82) :: rest)) := by
  subst hw
  exact u_iast 82 (pI z 82 i.toNatClampNeg v) X hP hS rfl (ax_82 cs ad z _) hin d k
theorem as_83 {i : Int32} {v : Int32} {w : Nat} (X : UC p s m args meth c cc nL own R fr lo D ad cs sd A) (hP : va_P D clss (wld cs ad z) H) (hS : va_S A s.heap H locs) (hw : i.toNatClampNeg = w) (hin : ¬ (i < 0 ∨ 30 ≤ i.toNatClampNeg)) (d : decode cc pc = .ok (.iastore, 1)) (k : ∀ (H : Heap) (locs : List Loc), va_P D clss (wld cs ad (pI z 83 w v)) H → va_S A s.heap H locs → W p l e R s m args below meth c H locs cells slots Q (F0 m (pc + 1) ls rest)) : W p l e R s m args below meth c H locs cells slots Q (F0 m pc ls (.int v :: .int i :: .ref (ad 83) :: rest)) := by
  subst hw
  exact u_iast 83 (pI z 83 i.toNatClampNeg v) X hP hS rfl (ax_83 cs ad z _) hin d k
theorem as_84 {i : Int32} {v : Int32} {w : Nat} (X : UC p s m args meth c cc nL own R fr lo D ad cs sd A) (hP : va_P D clss (wld cs ad z) H) (hS : va_S A s.heap H locs) (hw : i.toNatClampNeg = w) (hin : ¬ (i < 0 ∨ 200 ≤ i.toNatClampNeg)) (d : decode cc pc = .ok (.iastore, 1)) (k : ∀ (H : Heap) (locs : List Loc), va_P D clss (wld cs ad (pI z 84 w v)) H → va_S A s.heap H locs → W p l e R s m args below meth c H locs cells slots Q (F0 m (pc + 1) ls rest)) : W p l e R s m args below meth c H locs cells slots Q (F0 m pc ls (.int v :: .int i :: .ref (ad 84) :: rest)) := by
  subst hw
  exact u_iast 84 (pI z 84 i.toNatClampNeg v) X hP hS rfl (ax_84 cs ad z _) hin d k
theorem as_85 {i : Int32} {v : Int32} {w : Nat} (X : UC p s m args meth c cc nL own R fr lo D ad cs sd A) (hP : va_P D clss (wld cs ad z) H) (hS : va_S A s.heap H locs) (hw : i.toNatClampNeg = w) (hin : ¬ (i < 0 ∨ 4 ≤ i.toNatClampNeg)) (d : decode cc pc = .ok (.iastore, 1)) (k : ∀ (H : Heap) (locs : List Loc), va_P D clss (wld cs ad (pI z 85 w v)) H → va_S A s.heap H locs → W p l e R s m args below meth c H locs cells slots Q (F0 m (pc + 1) ls rest)) : W p l e R s m args below meth c H locs cells slots Q (F0 m pc ls (.int v :: .int i :: .ref (ad 85) :: rest)) := by
  subst hw
  exact u_iast 85 (pI z 85 i.toNatClampNeg v) X hP hS rfl (ax_85 cs ad z _) hin d k
theorem as_9 {i : Int32} {v : Int32} {w : Nat} (X : UC p s m args meth c cc nL own R fr lo D ad cs sd A) (hP : va_P D clss (wld cs ad z) H) (hS : va_S A s.heap H locs) (hw : i.toNatClampNeg = w) (hin : ¬ (i < 0 ∨ 200 ≤ i.toNatClampNeg)) (d : decode cc pc = .ok (.iastore, 1)) (k : ∀ (H : Heap) (locs : List Loc), va_P D clss (wld cs ad (pI z 9 w v)) H → va_S A s.heap H locs → W p l e R s m args below meth c H locs cells slots Q (F0 m (pc + 1) ls rest)) : W p l e R s m args below meth c H locs cells slots Q (F0 m pc ls (.int v :: .int i :: .ref (ad 9) :: rest)) := by
  subst hw
  exact u_iast 9 (pI z 9 i.toNatClampNeg v) X hP hS rfl (ax_9 cs ad z _) hin d k
theorem as_dyn22 {j : Nat} (hj : j < 3) {i : Int32} {v : Int32} {w : Nat} (X : UC p s m args meth c cc nL own R fr lo D ad cs sd A) (hP : va_P D clss (wld cs ad z) H) (hS : va_S A s.heap H locs) (hw : i.toNatClampNeg = w) (hin : ¬ (i < 0 ∨ 64 ≤ i.toNatClampNeg)) (d : decode cc pc = .ok (.iastore, 1)) (k : ∀ (H : Heap) (locs : List Loc), va_P D clss (wld cs ad (pI z (22 + j) w v)) H → va_S A s.heap H locs → W p l e R s m args below meth c H locs cells slots Q (F0 m (pc + 1) ls rest)) : W p l e R s m args below meth c H locs cells slots Q (F0 m pc ls (.int v :: .int i :: .ref (ad (22 + j)) :: rest)) := by
  subst hw
  exact u_iast (22 + j) (pI z (22 + j) i.toNatClampNeg v) X hP hS (en_dyn22 hj cs ad z) (st_dyn22 hj cs ad z _) hin d k
theorem as_dyn38 {j : Nat} (hj : j < 4) {i : Int32} {v : Int32} {w : Nat} (X : UC p s m args meth c cc nL own R fr lo D ad cs sd A) (hP : va_P D clss (wld cs ad z) H) (hS : va_S A s.heap H locs) (hw : i.toNatClampNeg = w) (hin : ¬ (i < 0 ∨ 40 ≤ i.toNatClampNeg)) (d : decode cc pc = .ok (.iastore, 1)) (k : ∀ (H : Heap) (locs : List Loc), va_P D clss (wld cs ad (pI z (38 + j) w v)) H → va_S A s.heap H locs → W p l e R s m args below meth c H locs cells slots Q (F0 m (pc + 1) ls rest)) : W p l e R s m args below meth c H locs cells slots Q (F0 m pc ls (.int v :: .int i :: .ref (ad (38 + j)) :: rest)) := by
  subst hw
  exact u_iast (38 + j) (pI z (38 + j) i.toNatClampNeg v) X hP hS (en_dyn38 hj cs ad z) (st_dyn38 hj cs ad z _) hin d k
theorem la_21 {i : Int32} (X : UC p s m args meth c cc nL own R fr lo D ad cs sd A) (hP : va_P D clss (wld cs ad z) H) (hin : ¬ (i < 0 ∨ 3 ≤ i.toNatClampNeg)) (d : decode cc pc = .ok (.aaload, 1)) (k : W p l e R s m args below meth c H locs cells slots Q (F0 m (pc + 1) ls (.ref (ad (22 + i.toNatClampNeg)) :: rest))) : W p l e R s m args below meth c H locs cells slots Q (F0 m pc ls (.int i :: .ref (ad 21) :: rest)) := u_aald (i0 := 21) X hP rfl hin d (if_pos (vp_lt hin)) k
theorem la_37 {i : Int32} (X : UC p s m args meth c cc nL own R fr lo D ad cs sd A) (hP : va_P D clss (wld cs ad z) H) (hin : ¬ (i < 0 ∨ 4 ≤ i.toNatClampNeg)) (d : decode cc pc = .ok (.aaload, 1)) (k : W p l e R s m args below meth c H locs cells slots Q (F0 m (pc + 1) ls (.ref (ad (38 + i.toNatClampNeg)) :: rest))) : W p l e R s m args below meth c H locs cells slots Q (F0 m pc ls (.int i :: .ref (ad 37) :: rest)) := u_aald (i0 := 37) X hP rfl hin d (if_pos (vp_lt hin)) k
end UFLD
