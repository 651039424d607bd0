/-! The environment of every contract: links to nest mates, the String constants, two statics; then the common shape of a contract and of a call. -/
abbrev zG : Type := va_G × ClassId × (Nat → Nat) × (Nat → Nat)
def nwL : List Cond := [.fieldLinkNest RX5 55 "EnginesOnList$Letters" "size" "I" "EnginesOnList", .fieldLinkNest RX5 72 "EnginesOnList$Fleet" "kinds" "[I" "EnginesOnList", .fieldLinkNest RX5 75 "EnginesOnList$Fleet" "figures" "[I" "EnginesOnList", .fieldLinkNest RX5 78 "EnginesOnList$Fleet" "joined" "[I" "EnginesOnList", .fieldLinkNest RX4 56 "EnginesOnList$Fleet" "size" "I" "EnginesOnList", .fieldLinkNest RX5 163 "EnginesOnList$Fleet" "size" "I" "EnginesOnList", .fieldLinkNest RX5 81 "EnginesOnList$Fleet" "underlined" "I" "EnginesOnList", .fieldLinkNest RX5 84 "EnginesOnList$Fleet" "friends" "I" "EnginesOnList", .fieldLinkNest RX4 76 "EnginesOnList$Book" "days" "[I" "EnginesOnList", .fieldLinkNest RX4 73 "EnginesOnList$Book" "places" "[I" "EnginesOnList", .fieldLinkNest RX4 69 "EnginesOnList$Book" "numbers" "[I" "EnginesOnList", .fieldLinkNest RX4 85 "EnginesOnList$Book" "size" "I" "EnginesOnList", .fieldLinkNest RX5 144 "EnginesOnList$Book" "size" "I" "EnginesOnList", .fieldLinkNest RX3 34 "EnginesOnList$World" "fleet" "LEnginesOnList$Fleet;" "EnginesOnList", .fieldLinkNest RX5 63 "EnginesOnList$World" "fleet" "LEnginesOnList$Fleet;" "EnginesOnList", .fieldLinkNest RX5 135 "EnginesOnList$World" "book" "LEnginesOnList$Book;" "EnginesOnList", .fieldLinkNest RX3 21 "EnginesOnList$World" "today" "I" "EnginesOnList", .fieldLinkNest RX5 104 "EnginesOnList$World" "today" "I" "EnginesOnList", .fieldLinkNest RX5 123 "EnginesOnList$Planner" "best" "[I" "EnginesOnList", .fieldLinkNest RX5 120 "EnginesOnList$Planner" "bestWorth" "I" "EnginesOnList", .methodLinkNest RX5 9 yX2_init "EnginesOnList", .methodLinkNest RX5 18 yX4_init "EnginesOnList", .methodLinkNest RX4 11 yX1_init "EnginesOnList", .methodLinkNest RX4 20 yX0_init "EnginesOnList", .methodLinkNest RX5 28 yX1_init "EnginesOnList", .methodLinkNest RX5 35 yX3_init "EnginesOnList", .methodLinkNest RX5 51 yX2_add "EnginesOnList", .methodLinkNest RX5 191 yX2_stuckPlace "EnginesOnList", .methodLinkNest RX5 194 yX1_copyFrom "EnginesOnList", .methodLinkNest RX5 197 yX2_sign "EnginesOnList", .methodLinkNest RX5 200 yX1_takes "EnginesOnList", .methodLinkNest RX1 54 yX2_number "EnginesOnList", .methodLinkNest RX1 60 yX2_sign "EnginesOnList", .methodLinkNest RX1 74 yX2_digit "EnginesOnList", .methodLinkNest RX1 77 yX5_isPlace "EnginesOnList", .methodLinkNest RX1 80 yX2_kind "EnginesOnList", .methodLinkNest RX5 66 yX1_knows "EnginesOnList", .methodLinkNest RX5 69 yX1_number "EnginesOnList", .methodLinkNest RX5 87 yX1_isOn "EnginesOnList", .methodLinkNest RX5 91 yX1_turnOf "EnginesOnList", .methodLinkNest RX5 95 yX1_placeOn "EnginesOnList", .methodLinkNest RX5 101 yX1_passing "EnginesOnList", .methodLinkNest RX5 107 yX1_newOf "EnginesOnList", .methodLinkNest RX5 110 yX1_worth "EnginesOnList", .methodLinkNest RX5 113 yX4_freshWorth "EnginesOnList", .methodLinkNest RX4 36 yX1_passing "EnginesOnList", .methodLinkNest RX4 40 yX1_newOf "EnginesOnList", .methodLinkNest RX4 47 yX1_worth "EnginesOnList", .methodLinkNest RX5 116 yX3_search "EnginesOnList", .methodLinkNest RX3 27 yX4_newAt "EnginesOnList", .methodLinkNest RX3 38 yX1_worth "EnginesOnList", .methodLinkNest RX5 126 yX4_daysUntil "EnginesOnList", .methodLinkNest RX4 53 yX1_placeOn "EnginesOnList", .methodLinkNest RX5 129 yX4_everWorth "EnginesOnList", .methodLinkNest RX4 62 yX1_bit "EnginesOnList", .methodLinkNest RX5 132 yX1_worthOfAllNew "EnginesOnList", .methodLinkNest RX5 139 yX0_add "EnginesOnList", .methodLinkNest RX5 145 yX4_fittingOnes "EnginesOnList", .methodLinkNest RX4 65 yX0_holds "EnginesOnList", .methodLinkNest RX4 79 yX1_number "EnginesOnList", .methodLinkNest RX5 149 yX4_madeUpOnes "EnginesOnList", .methodLinkNest RX5 152 yX0_readBy "EnginesOnList", .methodLinkNest RX5 160 yX0_cannotBothBe "EnginesOnList", .methodLinkNest RX5 164 yX4_goTogether "EnginesOnList", .methodLinkNest RX5 168 yX0_unlikeNumbers "EnginesOnList", .methodLinkNest RX5 171 yX0_greatestNumber "EnginesOnList", .methodLinkNest RX5 174 yX1_worthBeyondFriend "EnginesOnList", .methodLinkNest RX5 177 yX4_drawnWorth "EnginesOnList", .methodLinkNest RX5 183 yX4_copyFrom "EnginesOnList", .methodLinkNest RX4 25 yX1_copyFrom "EnginesOnList", .methodLinkNest RX4 29 yX0_copyFrom "EnginesOnList"]
theorem nw_0 : (Cond.fieldLinkNest RX5 55 "EnginesOnList$Letters" "size" "I" "EnginesOnList") ∈ nwL := List.mem_of_getElem? (i := 0) rfl
theorem nw_1 : (Cond.fieldLinkNest RX5 72 "EnginesOnList$Fleet" "kinds" "[I" "EnginesOnList") ∈ nwL := List.mem_of_getElem? (i := 1) rfl
theorem nw_2 : (Cond.fieldLinkNest RX5 75 "EnginesOnList$Fleet" "figures" "[I" "EnginesOnList") ∈ nwL := List.mem_of_getElem? (i := 2) rfl
theorem nw_3 : (Cond.fieldLinkNest RX5 78 "EnginesOnList$Fleet" "joined" "[I" "EnginesOnList") ∈ nwL := List.mem_of_getElem? (i := 3) rfl
theorem nw_4 : (Cond.fieldLinkNest RX4 56 "EnginesOnList$Fleet" "size" "I" "EnginesOnList") ∈ nwL := List.mem_of_getElem? (i := 4) rfl
theorem nw_5 : (Cond.fieldLinkNest RX5 163 "EnginesOnList$Fleet" "size" "I" "EnginesOnList") ∈ nwL := List.mem_of_getElem? (i := 5) rfl
theorem nw_6 : (Cond.fieldLinkNest RX5 81 "EnginesOnList$Fleet" "underlined" "I" "EnginesOnList") ∈ nwL := List.mem_of_getElem? (i := 6) rfl
theorem nw_7 : (Cond.fieldLinkNest RX5 84 "EnginesOnList$Fleet" "friends" "I" "EnginesOnList") ∈ nwL := List.mem_of_getElem? (i := 7) rfl
theorem nw_8 : (Cond.fieldLinkNest RX4 76 "EnginesOnList$Book" "days" "[I" "EnginesOnList") ∈ nwL := List.mem_of_getElem? (i := 8) rfl
theorem nw_9 : (Cond.fieldLinkNest RX4 73 "EnginesOnList$Book" "places" "[I" "EnginesOnList") ∈ nwL := List.mem_of_getElem? (i := 9) rfl
theorem nw_10 : (Cond.fieldLinkNest RX4 69 "EnginesOnList$Book" "numbers" "[I" "EnginesOnList") ∈ nwL := List.mem_of_getElem? (i := 10) rfl
theorem nw_11 : (Cond.fieldLinkNest RX4 85 "EnginesOnList$Book" "size" "I" "EnginesOnList") ∈ nwL := List.mem_of_getElem? (i := 11) rfl
theorem nw_12 : (Cond.fieldLinkNest RX5 144 "EnginesOnList$Book" "size" "I" "EnginesOnList") ∈ nwL := List.mem_of_getElem? (i := 12) rfl
theorem nw_13 : (Cond.fieldLinkNest RX3 34 "EnginesOnList$World" "fleet" "LEnginesOnList$Fleet;" "EnginesOnList") ∈ nwL := List.mem_of_getElem? (i := 13) rfl
theorem nw_14 : (Cond.fieldLinkNest RX5 63 "EnginesOnList$World" "fleet" "LEnginesOnList$Fleet;" "EnginesOnList") ∈ nwL := List.mem_of_getElem? (i := 14) rfl
theorem nw_15 : (Cond.fieldLinkNest RX5 135 "EnginesOnList$World" "book" "LEnginesOnList$Book;" "EnginesOnList") ∈ nwL := List.mem_of_getElem? (i := 15) rfl
theorem nw_16 : (Cond.fieldLinkNest RX3 21 "EnginesOnList$World" "today" "I" "EnginesOnList") ∈ nwL := List.mem_of_getElem? (i := 16) rfl
theorem nw_17 : (Cond.fieldLinkNest RX5 104 "EnginesOnList$World" "today" "I" "EnginesOnList") ∈ nwL := List.mem_of_getElem? (i := 17) rfl
theorem nw_18 : (Cond.fieldLinkNest RX5 123 "EnginesOnList$Planner" "best" "[I" "EnginesOnList") ∈ nwL := List.mem_of_getElem? (i := 18) rfl
theorem nw_19 : (Cond.fieldLinkNest RX5 120 "EnginesOnList$Planner" "bestWorth" "I" "EnginesOnList") ∈ nwL := List.mem_of_getElem? (i := 19) rfl
theorem nw_20 : (Cond.methodLinkNest RX5 9 yX2_init "EnginesOnList") ∈ nwL := List.mem_of_getElem? (i := 20) rfl
theorem nw_21 : (Cond.methodLinkNest RX5 18 yX4_init "EnginesOnList") ∈ nwL := List.mem_of_getElem? (i := 21) rfl
theorem nw_22 : (Cond.methodLinkNest RX4 11 yX1_init "EnginesOnList") ∈ nwL := List.mem_of_getElem? (i := 22) rfl
theorem nw_23 : (Cond.methodLinkNest RX4 20 yX0_init "EnginesOnList") ∈ nwL := List.mem_of_getElem? (i := 23) rfl
theorem nw_24 : (Cond.methodLinkNest RX5 28 yX1_init "EnginesOnList") ∈ nwL := List.mem_of_getElem? (i := 24) rfl
theorem nw_25 : (Cond.methodLinkNest RX5 35 yX3_init "EnginesOnList") ∈ nwL := List.mem_of_getElem? (i := 25) rfl
theorem nw_26 : (Cond.methodLinkNest RX5 51 yX2_add "EnginesOnList") ∈ nwL := List.mem_of_getElem? (i := 26) rfl
theorem nw_27 : (Cond.methodLinkNest RX5 191 yX2_stuckPlace "EnginesOnList") ∈ nwL := List.mem_of_getElem? (i := 27) rfl
theorem nw_28 : (Cond.methodLinkNest RX5 194 yX1_copyFrom "EnginesOnList") ∈ nwL := List.mem_of_getElem? (i := 28) rfl
theorem nw_29 : (Cond.methodLinkNest RX5 197 yX2_sign "EnginesOnList") ∈ nwL := List.mem_of_getElem? (i := 29) rfl
theorem nw_30 : (Cond.methodLinkNest RX5 200 yX1_takes "EnginesOnList") ∈ nwL := List.mem_of_getElem? (i := 30) rfl
theorem nw_31 : (Cond.methodLinkNest RX1 54 yX2_number "EnginesOnList") ∈ nwL := List.mem_of_getElem? (i := 31) rfl
theorem nw_32 : (Cond.methodLinkNest RX1 60 yX2_sign "EnginesOnList") ∈ nwL := List.mem_of_getElem? (i := 32) rfl
theorem nw_33 : (Cond.methodLinkNest RX1 74 yX2_digit "EnginesOnList") ∈ nwL := List.mem_of_getElem? (i := 33) rfl
theorem nw_34 : (Cond.methodLinkNest RX1 77 yX5_isPlace "EnginesOnList") ∈ nwL := List.mem_of_getElem? (i := 34) rfl
theorem nw_35 : (Cond.methodLinkNest RX1 80 yX2_kind "EnginesOnList") ∈ nwL := List.mem_of_getElem? (i := 35) rfl
theorem nw_36 : (Cond.methodLinkNest RX5 66 yX1_knows "EnginesOnList") ∈ nwL := List.mem_of_getElem? (i := 36) rfl
theorem nw_37 : (Cond.methodLinkNest RX5 69 yX1_number "EnginesOnList") ∈ nwL := List.mem_of_getElem? (i := 37) rfl
theorem nw_38 : (Cond.methodLinkNest RX5 87 yX1_isOn "EnginesOnList") ∈ nwL := List.mem_of_getElem? (i := 38) rfl
theorem nw_39 : (Cond.methodLinkNest RX5 91 yX1_turnOf "EnginesOnList") ∈ nwL := List.mem_of_getElem? (i := 39) rfl
theorem nw_40 : (Cond.methodLinkNest RX5 95 yX1_placeOn "EnginesOnList") ∈ nwL := List.mem_of_getElem? (i := 40) rfl
theorem nw_41 : (Cond.methodLinkNest RX5 101 yX1_passing "EnginesOnList") ∈ nwL := List.mem_of_getElem? (i := 41) rfl
theorem nw_42 : (Cond.methodLinkNest RX5 107 yX1_newOf "EnginesOnList") ∈ nwL := List.mem_of_getElem? (i := 42) rfl
theorem nw_43 : (Cond.methodLinkNest RX5 110 yX1_worth "EnginesOnList") ∈ nwL := List.mem_of_getElem? (i := 43) rfl
theorem nw_44 : (Cond.methodLinkNest RX5 113 yX4_freshWorth "EnginesOnList") ∈ nwL := List.mem_of_getElem? (i := 44) rfl
theorem nw_45 : (Cond.methodLinkNest RX4 36 yX1_passing "EnginesOnList") ∈ nwL := List.mem_of_getElem? (i := 45) rfl
theorem nw_46 : (Cond.methodLinkNest RX4 40 yX1_newOf "EnginesOnList") ∈ nwL := List.mem_of_getElem? (i := 46) rfl
theorem nw_47 : (Cond.methodLinkNest RX4 47 yX1_worth "EnginesOnList") ∈ nwL := List.mem_of_getElem? (i := 47) rfl
theorem nw_48 : (Cond.methodLinkNest RX5 116 yX3_search "EnginesOnList") ∈ nwL := List.mem_of_getElem? (i := 48) rfl
theorem nw_49 : (Cond.methodLinkNest RX3 27 yX4_newAt "EnginesOnList") ∈ nwL := List.mem_of_getElem? (i := 49) rfl
theorem nw_50 : (Cond.methodLinkNest RX3 38 yX1_worth "EnginesOnList") ∈ nwL := List.mem_of_getElem? (i := 50) rfl
theorem nw_51 : (Cond.methodLinkNest RX5 126 yX4_daysUntil "EnginesOnList") ∈ nwL := List.mem_of_getElem? (i := 51) rfl
theorem nw_52 : (Cond.methodLinkNest RX4 53 yX1_placeOn "EnginesOnList") ∈ nwL := List.mem_of_getElem? (i := 52) rfl
theorem nw_53 : (Cond.methodLinkNest RX5 129 yX4_everWorth "EnginesOnList") ∈ nwL := List.mem_of_getElem? (i := 53) rfl
theorem nw_54 : (Cond.methodLinkNest RX4 62 yX1_bit "EnginesOnList") ∈ nwL := List.mem_of_getElem? (i := 54) rfl
theorem nw_55 : (Cond.methodLinkNest RX5 132 yX1_worthOfAllNew "EnginesOnList") ∈ nwL := List.mem_of_getElem? (i := 55) rfl
theorem nw_56 : (Cond.methodLinkNest RX5 139 yX0_add "EnginesOnList") ∈ nwL := List.mem_of_getElem? (i := 56) rfl
theorem nw_57 : (Cond.methodLinkNest RX5 145 yX4_fittingOnes "EnginesOnList") ∈ nwL := List.mem_of_getElem? (i := 57) rfl
theorem nw_58 : (Cond.methodLinkNest RX4 65 yX0_holds "EnginesOnList") ∈ nwL := List.mem_of_getElem? (i := 58) rfl
theorem nw_59 : (Cond.methodLinkNest RX4 79 yX1_number "EnginesOnList") ∈ nwL := List.mem_of_getElem? (i := 59) rfl
theorem nw_60 : (Cond.methodLinkNest RX5 149 yX4_madeUpOnes "EnginesOnList") ∈ nwL := List.mem_of_getElem? (i := 60) rfl
theorem nw_61 : (Cond.methodLinkNest RX5 152 yX0_readBy "EnginesOnList") ∈ nwL := List.mem_of_getElem? (i := 61) rfl
theorem nw_62 : (Cond.methodLinkNest RX5 160 yX0_cannotBothBe "EnginesOnList") ∈ nwL := List.mem_of_getElem? (i := 62) rfl
theorem nw_63 : (Cond.methodLinkNest RX5 164 yX4_goTogether "EnginesOnList") ∈ nwL := List.mem_of_getElem? (i := 63) rfl
theorem nw_64 : (Cond.methodLinkNest RX5 168 yX0_unlikeNumbers "EnginesOnList") ∈ nwL := List.mem_of_getElem? (i := 64) rfl
theorem nw_65 : (Cond.methodLinkNest RX5 171 yX0_greatestNumber "EnginesOnList") ∈ nwL := List.mem_of_getElem? (i := 65) rfl
theorem nw_66 : (Cond.methodLinkNest RX5 174 yX1_worthBeyondFriend "EnginesOnList") ∈ nwL := List.mem_of_getElem? (i := 66) rfl
theorem nw_67 : (Cond.methodLinkNest RX5 177 yX4_drawnWorth "EnginesOnList") ∈ nwL := List.mem_of_getElem? (i := 67) rfl
theorem nw_68 : (Cond.methodLinkNest RX5 183 yX4_copyFrom "EnginesOnList") ∈ nwL := List.mem_of_getElem? (i := 68) rfl
theorem nw_69 : (Cond.methodLinkNest RX4 25 yX1_copyFrom "EnginesOnList") ∈ nwL := List.mem_of_getElem? (i := 69) rfl
theorem nw_70 : (Cond.methodLinkNest RX4 29 yX0_copyFrom "EnginesOnList") ∈ nwL := List.mem_of_getElem? (i := 70) rfl
def lenS : List Nat := [13, 6, 4, 4, 0, 7]
def bytS : List (List Int32) := [[101, 48, 48, 99, 48, 48, 48, 48, 48, 48, 48, 48, 59], [106, 48, 48, 48, 48, 59], [117, 48, 48, 59], [102, 48, 48, 59], [], [99, 97, 119, 107, 120, 115, 110]]
def strL : List (String × Nat × String × Nat) := [(RX2, 53, "e00c00000000;", 0), (RX2, 55, "j0000;", 1), (RX2, 57, "u00;", 2), (RX2, 59, "f00;", 3), (RX2, 61, "", 4), (RX2, 26, "cawkxsn", 5)]
theorem st_53 : (RX2, 53, "e00c00000000;", 0) ∈ strL := List.mem_of_getElem? (i := 0) rfl
theorem st_55 : (RX2, 55, "j0000;", 1) ∈ strL := List.mem_of_getElem? (i := 1) rfl
theorem st_57 : (RX2, 57, "u00;", 2) ∈ strL := List.mem_of_getElem? (i := 2) rfl
theorem st_59 : (RX2, 59, "f00;", 3) ∈ strL := List.mem_of_getElem? (i := 3) rfl
theorem st_61 : (RX2, 61, "", 4) ∈ strL := List.mem_of_getElem? (i := 4) rfl
theorem st_26 : (RX2, 26, "cawkxsn", 5) ∈ strL := List.mem_of_getElem? (i := 5) rfl
def EN (G : zG) (A : Nat → Prop) (U : State) (H : Heap) : Prop := (∀ w ∈ nwL, va_Nw w U) ∧ vk_S 6 lenS bytS G.2.2.1 G.2.2.2 A U H ∧ va_Z "java/lang/String" "COMPACT_STRINGS" "Z" (.int 1) A U H ∧ va_Zq "jdk/internal/util/Preconditions" "SIOOBE_FORMATTER" "Ljava/util/function/BiFunction;" A U H ∧ ∀ q ∈ strL, vk_R q.1 q.2.1 q.2.2.1 (G.2.2.1 q.2.2.2) U
def nw_ok : Cond → Bool
  | .fieldLinkNest .. => true
  | .methodLinkNest .. => true
  | _ => false
theorem nwL_ok : ∀ w ∈ nwL, nw_ok w = true := by decide +kernel
theorem nw_warm {w : Cond} {s U : State} (hw : nw_ok w = true) (hW : s.WarmedH U.vm) (h : va_Nw w s) : va_Nw w U := by
  cases w <;> first | exact va_Nw.warmF hW h | exact va_Nw.warmM hW h | (simp [nw_ok] at hw)
theorem nw_same {w : Cond} {s U : State} (hw : nw_ok w = true) (hv : s.vm = U.vm) (h : va_Nw w s) : va_Nw w U := by
  cases w <;> first | exact va_Nw.same rfl hv h | (simp [nw_ok] at hw)
theorem EN.go {G : zG} {A A1 : Nat → Prop} {s U : State} {H : Heap} {locs : List Loc} (h : EN G A s s.heap) (hS : va_S A s.heap H locs) (hF : ∀ q, A1 q → A q) (hU : U.heap = H) (hW : s.WarmedH U.vm) : EN G A1 U U.heap := by
  subst hU
  obtain ⟨h1, h2, h3, h4, h5⟩ := h
  refine ⟨fun w hw => nw_warm (nwL_ok w hw) hW (h1 w hw), ((h2.kept hS.2.1).narrow hF).moved hW.alike, ((h3.kept hS.2.1).narrow hF).moved hW.alike, ((h4.kept hS.2.1).narrow hF).moved hW.alike, fun q hq => vk_R.warm hW (h5 q hq)⟩
theorem EN.calling {G : zG} {A : Nat → Prop} {U : State} {g : JFrame} {mk : MethodId} {a : Array Value} (h : EN G A U U.heap) : EN G A (U.calling g mk a) (U.calling g mk a).heap := by
  obtain ⟨h1, h2, h3, h4, h5⟩ := h
  exact ⟨fun w hw => nw_same (s := U) (U := U.calling g mk a) (nwL_ok w hw) rfl (h1 w hw), vk_S.moved (u := U) (U := U.calling g mk a) (Vm.Alike.refl U.vm) h2, va_Z.moved (u := U) (U := U.calling g mk a) (Vm.Alike.refl U.vm) h3, va_Zq.moved (u := U) (U := U.calling g mk a) (Vm.Alike.refl U.vm) h4, fun q hq => vk_R.same (u := U) (U := U.calling g mk a) rfl (h5 q hq)⟩
/-- a contract's start: the cells wc, apart, and the environment -/
def PcM (G : zG) (wc : va_W) (av : List Value) (sz : Nat) : Array Value → State → Prop := va_Pc av (fun U => U.heap.size = sz ∧ va_P G.1 vwCl wc U.heap ∧ va_K G.1 vwCl [(G.2.1, .int)] U ∧ va_D (fun _ => True) wc ∧ EN G (va_A wc sz) U U.heap)
theorem PcM.blind {G : zG} {wc : va_W} {av : List Value} {sz : Nat} : FrameBlind (PcM G wc av sz) := fun a U g mk q => by
  obtain ⟨q0, q1, qP, qK, qD, qE⟩ := q
  exact ⟨q0, q1, qP, va_K.moved (u := U) (U := U.calling g mk a) (Vm.Alike.refl U.vm) qK, qD, EN.calling qE⟩
theorem PcM.ok {G : zG} {wc : va_W} {As : List Value} {A : Nat → Prop} {s : State} {H : Heap} {locs : List Loc} (hP : va_P G.1 vwCl wc H) (hD : va_D A wc) (hK : va_K G.1 vwCl [(G.2.1, .int)] s) (hE : EN G A s s.heap) (hS : va_S A s.heap H locs) (hF : ∀ q, va_A wc H.size q → A q) : ∀ U : State, U.heap = H → s.WarmedH U.vm → PcM G wc As H.size As.toArray U :=
  fun U hU hW => ⟨rfl, by rw [hU], by rw [hU]; exact hP, va_K.moved hW.alike hK, hD.weaken (fun _ _ _ _ => trivial), EN.go hE hS hF hU hW⟩
/-- ends: an int, the cells as they were; an int, and cells that are told; cells alone; a String constant -/
abbrev QRo (G : zG) (wc : va_W) (out : Int32) (A : Nat → Prop) : Array Value → State → Outcome → State → Prop := va_Qi (fun (r : Int32) (_ : Unit) => r = out) (fun _ t => va_P G.1 vwCl wc t.heap) A
abbrev QWr {T : Type} (G : zG) (cf : T → va_W) (out : Int32 × T) (A : Nat → Prop) : Array Value → State → Outcome → State → Prop := va_Qi (fun (r : Int32) (u : T) => r = out.1 ∧ u = out.2) (fun u t => va_P G.1 vwCl (cf u) t.heap ∧ va_D A (cf u)) A
abbrev QWv {T : Type} (G : zG) (cf : T → va_W) (out : T) (A : Nat → Prop) : Array Value → State → Outcome → State → Prop := va_Qv (fun (u : T) => u = out) (fun u t => va_P G.1 vwCl (cf u) t.heap ∧ va_D A (cf u)) A
abbrev QRv (G : zG) (wc : va_W) (A : Nat → Prop) : Array Value → State → Outcome → State → Prop := va_Qv (fun (_ : Unit) => True) (fun _ t => va_P G.1 vwCl wc t.heap) A
abbrev QSt (G : zG) (wc : va_W) (out : Nat) (A : Nat → Prop) : Array Value → State → Outcome → State → Prop := va_Qr (fun (_ : Unit) => True) (fun _ a t => a = G.2.2.1 out ∧ va_P G.1 vwCl wc t.heap) A
/-- Option: binds, guards, branches, ends -/
theorem ob_bind {α β : Type} {x : Option α} {f : α → Option β} {y : β} (h : x.bind f = some y) : ∃ a, x = some a ∧ f a = some y := by
  cases x with
  | none => cases h
  | some a => exact ⟨a, rfl, h⟩
theorem ob_guard {α : Type} {c : Prop} [Decidable c] {x : Option α} {y : α} (h : (if c then x else none) = some y) : c ∧ x = some y := by
  by_cases q : c
  · rw [if_pos q] at h; exact ⟨q, h⟩
  · rw [if_neg q] at h; cases h
theorem ob_pos {α : Type} {c : Prop} [Decidable c] {x z : Option α} {y : α} (q : c) (h : (if c then x else z) = some y) : x = some y := by rw [if_pos q] at h; exact h
theorem ob_neg {α : Type} {c : Prop} [Decidable c] {x z : Option α} {y : α} (q : ¬ c) (h : (if c then x else z) = some y) : z = some y := by rw [if_neg q] at h; exact h
theorem ob_pair {α β : Type} {v : α} {u : β} {out : α × β} (h : some (v, u) = some out) : v = out.1 ∧ u = out.2 := by cases h; exact ⟨rfl, rfl⟩
theorem ob_none {α : Type} {y : α} {p : Prop} (h : (none : Option α) = some y) : p := by cases h
abbrev inB (i : Int32) (n : Nat) : Prop := ¬ (i < 0 ∨ n ≤ i.toNatClampNeg)
theorem zn_b {v : Int32} (h : v &&& 1 = v) : narrow .boolean (.int v) = .int v := congrArg Value.int h
theorem zn_ty {x y : Int32} {h : x = y} : x = y := h
section ZC
variable {p : Program} {l : Launch} {e : Env} {R : Room} {s : State} {m : MethodId} {args : Array Value} {below : List Frame} {meth : Method} {c : Code} {H : Heap} {locs : List Loc} {cells slots : Nat} {Q : State → Prop}
variable {pc : Nat} {ls : Array Slot} {rest st0 : List Value} {av : Array Value} {A : Nat → Prop} {free : Addr → Prop} {G : zG} {ws wc : va_W}
/-- the value on top, told otherwise -/
theorem zl_top {x y : Int32} (h : x = y) (k : W p l e R s m args below meth c H locs cells slots Q (F0 m pc ls (.int y :: rest))) : W p l e R s m args below meth c H locs cells slots Q (F0 m pc ls (.int x :: rest)) := by rw [h]; exact k
/-- behind a call that writes nothing: the callee's cells and all others are as they were -/
theorem zc_keep {H1 : Heap} (hP : va_P G.1 vwCl ws H) (hD : va_D A ws) (is : List Nat) (hC : is.map (fun i => ws[i]?) = wc.map some) (hk : ∀ q : Nat, q < H.size → ¬ va_A wc H.size q → H1[q]? = H[q]?) (hP1 : va_P G.1 vwCl wc H1) : va_P G.1 vwCl ws H1 := by
  have at' : ∀ (k : Nat) (q : Nat × va_E), wc[k]? = some q → ∃ i : Nat, ws[i]? = some q := by
    intro k q hq
    have h1 : (is.map (fun i => ws[i]?))[k]? = some (some q) := by rw [hC, List.getElem?_map, hq]; rfl
    rw [List.getElem?_map] at h1
    cases hi : is[k]? with
    | none => rw [hi] at h1; cases h1
    | some i => rw [hi] at h1; exact ⟨i, Option.some.inj h1⟩
  intro k q hq
  by_cases hin : ∃ (k2 : Nat) (e2 : va_E), wc[k2]? = some (q.1, e2)
  · obtain ⟨k2, e2, h2⟩ := hin
    obtain ⟨i, hi⟩ := at' k2 _ h2
    have hki := hD.1 k i q (q.1, e2) hq hi rfl
    subst hki
    have e3 : q = (q.1, e2) := Option.some.inj (hq.symm.trans hi)
    rw [e3]
    exact hP1 k2 _ h2
  · have hl := (hP k q hq).lt
    refine (hP k q hq).kept (hk q.1 hl (fun h => ?_))
    rcases h with h | h
    · exact hin h
    · omega
theorem zc_ro {out : Int32} (hr : va_Run p l e R s m args below meth c H locs cells slots 0 0 (F0 m pc ls st0) rest (QRo G wc out (va_A wc H.size) av) (va_A wc H.size)) (hP : va_P G.1 vwCl ws H) (hD : va_D A ws) (hS : va_S A s.heap H locs) (hA : ∀ q, s.heap.size ≤ q → A q) (is : List Nat) (hC : is.map (fun i => ws[i]?) = wc.map some)
    (kk : ∀ (H1 : Heap) (locs1 : List Loc), va_P G.1 vwCl ws H1 → va_S A s.heap H1 locs1 → W p l e R s m args below meth c H1 locs1 cells slots Q (F0 m (pc + 3) ls (.int out :: rest))) : W p l e R s m args below meth c H locs cells slots Q (F0 m pc ls st0) := by
  refine va_calli hr hS (fun q _ h => va_free hD hS hA is hC q h) (va_free hD hS hA is hC) (fun r u t H1 locs1 ht hvm hw hB hz1 hk1 hS1 => ?_)
  rw [ht] at hB
  subst hw
  exact kk H1 locs1 (zc_keep hP hD is hC hk1 hB) hS1
theorem zc_rov (hr : va_Run p l e R s m args below meth c H locs cells slots 0 0 (F0 m pc ls st0) rest (QRv G wc (va_A wc H.size) av) (va_A wc H.size)) (hP : va_P G.1 vwCl ws H) (hD : va_D A ws) (hS : va_S A s.heap H locs) (hA : ∀ q, s.heap.size ≤ q → A q) (is : List Nat) (hC : is.map (fun i => ws[i]?) = wc.map some)
    (kk : ∀ (H1 : Heap) (locs1 : List Loc), va_P G.1 vwCl ws H1 → va_S A s.heap H1 locs1 → W p l e R s m args below meth c H1 locs1 cells slots Q (F0 m (pc + 3) ls rest)) : W p l e R s m args below meth c H locs cells slots Q (F0 m pc ls st0) := by
  refine va_callv hr hS (fun q _ h => va_free hD hS hA is hC q h) (va_free hD hS hA is hC) (fun u t H1 locs1 ht hvm hw hB hz1 hk1 hS1 => ?_)
  rw [ht] at hB
  exact kk H1 locs1 (zc_keep hP hD is hC hk1 hB) hS1
theorem zc_st {out : Nat} (hr : va_Run p l e R s m args below meth c H locs cells slots 0 0 (F0 m pc ls st0) rest (QSt G wc out (va_A wc H.size) av) (va_A wc H.size)) (hP : va_P G.1 vwCl ws H) (hD : va_D A ws) (hS : va_S A s.heap H locs) (hA : ∀ q, s.heap.size ≤ q → A q) (is : List Nat) (hC : is.map (fun i => ws[i]?) = wc.map some)
    (kk : ∀ (H1 : Heap) (locs1 : List Loc), va_P G.1 vwCl ws H1 → va_S A s.heap H1 locs1 → W p l e R s m args below meth c H1 locs1 cells slots Q (F0 m (pc + 3) ls (.ref (G.2.2.1 out) :: rest))) : W p l e R s m args below meth c H locs cells slots Q (F0 m pc ls st0) := by
  refine va_callr hr hS (fun q _ h => va_free hD hS hA is hC q h) (va_free hD hS hA is hC) (fun u ra t H1 locs1 ht hvm hw hB hz1 hk1 hS1 => ?_)
  obtain ⟨rfl, hB⟩ := hB
  rw [ht] at hB
  exact kk H1 locs1 (zc_keep hP hD is hC hk1 hB) hS1
/-- behind a call that writes: the callee's cells are what they are told to be, in their places -/
theorem zc_put {w1 ws' : va_W} {H1 : Heap} (hP : va_P G.1 vwCl ws H) (hD : va_D A ws) (hF : ∀ q, va_A wc H.size q → A q) (is isR perm : List Nat) (hC : is.map (fun i => ws[i]?) = wc.map some) (hR : isR.map (fun i => ws[i]?) = (isR.filterMap (fun i => ws[i]?)).map some) (hn : va_nd isR = true) (hdis : ∀ i ∈ isR, i ∉ is) (hnp : va_nd perm = true) (hp : perm.map (fun i => (isR.filterMap (fun i => ws[i]?) ++ w1)[i]?) = ws'.map some)
    (hk : ∀ q : Nat, q < H.size → ¬ va_A wc H.size q → H1[q]? = H[q]?) (hP1 : va_P G.1 vwCl w1 H1) (hD1 : va_D (va_A wc H.size) w1) : va_P G.1 vwCl ws' H1 ∧ va_D A ws' := by
  obtain ⟨h1, h2⟩ := va_join hP hD is isR hC hR hn hdis hk hF hP1 hD1
  refine ⟨fun k q hq => ?_, h2.sub perm hnp hp⟩
  have h3 : (perm.map (fun i => (isR.filterMap (fun i => ws[i]?) ++ w1)[i]?))[k]? = some (some q) := by rw [hp, List.getElem?_map, hq]; rfl
  rw [List.getElem?_map] at h3
  cases hi : perm[k]? with
  | none => rw [hi] at h3; cases h3
  | some i => rw [hi] at h3; exact h1 i q (Option.some.inj h3)
theorem zc_wr {T : Type} {cf : T → va_W} {out : Int32 × T} {ws' : va_W} (hr : va_Run p l e R s m args below meth c H locs cells slots 0 0 (F0 m pc ls st0) rest (QWr G cf out (va_A wc H.size) av) (va_A wc H.size)) (hP : va_P G.1 vwCl ws H) (hD : va_D A ws) (hS : va_S A s.heap H locs) (hA : ∀ q, s.heap.size ≤ q → A q) (is isR perm : List Nat) (hC : is.map (fun i => ws[i]?) = wc.map some) (hR : isR.map (fun i => ws[i]?) = (isR.filterMap (fun i => ws[i]?)).map some) (hn : va_nd isR = true) (hdis : ∀ i ∈ isR, i ∉ is) (hnp : va_nd perm = true) (hp : perm.map (fun i => (isR.filterMap (fun i => ws[i]?) ++ cf out.2)[i]?) = ws'.map some)
    (kk : ∀ (H1 : Heap) (locs1 : List Loc), va_P G.1 vwCl ws' H1 → va_D A ws' → va_S A s.heap H1 locs1 → W p l e R s m args below meth c H1 locs1 cells slots Q (F0 m (pc + 3) ls (.int out.1 :: rest))) : W p l e R s m args below meth c H locs cells slots Q (F0 m pc ls st0) := by
  refine va_calli hr hS (fun q _ h => va_free hD hS hA is hC q h) (va_free hD hS hA is hC) (fun r u t H1 locs1 ht hvm hw hB hz1 hk1 hS1 => ?_)
  obtain ⟨rfl, rfl⟩ := hw
  obtain ⟨hB, hB2⟩ := hB
  rw [ht] at hB
  obtain ⟨h1, h2⟩ := zc_put hP hD (va_free hD hS hA is hC) is isR perm hC hR hn hdis hnp hp hk1 hB hB2
  exact kk H1 locs1 h1 h2 hS1
theorem zc_wv {T : Type} {cf : T → va_W} {out : T} {ws' : va_W} (hr : va_Run p l e R s m args below meth c H locs cells slots 0 0 (F0 m pc ls st0) rest (QWv G cf out (va_A wc H.size) av) (va_A wc H.size)) (hP : va_P G.1 vwCl ws H) (hD : va_D A ws) (hS : va_S A s.heap H locs) (hA : ∀ q, s.heap.size ≤ q → A q) (is isR perm : List Nat) (hC : is.map (fun i => ws[i]?) = wc.map some) (hR : isR.map (fun i => ws[i]?) = (isR.filterMap (fun i => ws[i]?)).map some) (hn : va_nd isR = true) (hdis : ∀ i ∈ isR, i ∉ is) (hnp : va_nd perm = true) (hp : perm.map (fun i => (isR.filterMap (fun i => ws[i]?) ++ cf out)[i]?) = ws'.map some)
    (kk : ∀ (H1 : Heap) (locs1 : List Loc), va_P G.1 vwCl ws' H1 → va_D A ws' → va_S A s.heap H1 locs1 → W p l e R s m args below meth c H1 locs1 cells slots Q (F0 m (pc + 3) ls rest)) : W p l e R s m args below meth c H locs cells slots Q (F0 m pc ls st0) := by
  refine va_callv hr hS (fun q _ h => va_free hD hS hA is hC q h) (va_free hD hS hA is hC) (fun u t H1 locs1 ht hvm hw hB hz1 hk1 hS1 => ?_)
  subst hw
  obtain ⟨hB, hB2⟩ := hB
  rw [ht] at hB
  obtain ⟨h1, h2⟩ := zc_put hP hD (va_free hD hS hA is hC) is isR perm hC hR hn hdis hnp hp hk1 hB hB2
  exact kk H1 locs1 h1 h2 hS1
end ZC
section ZN
variable {p : Program} {l : Launch} {e : Env} {R : Room} {s : State} {m : MethodId} {args : Array Value} {below : List Frame} {meth : Method} {c : Code} {H : Heap} {locs : List Loc} {cells slots : Nat} {Q : State → Prop}
variable {pc : Nat} {ls : Array Slot} {rest : List Value} {A : Nat → Prop} {G : zG} {ws : va_W} {H0 : Heap} {cc : ByteArray}
/-- the class of int arrays -/
theorem zn_cy {args : Array Value} {s : State} (h : (Cond.arrayClass .int).before args s = true) : ∃ cy : ClassId, ArrOfT s cy .int ∧ va_RA s cy .int := by
  obtain ⟨cA, kA, comp, h1, h2, h3⟩ := Cond.arrayClass_spec h
  exact ⟨cA, fun n z => ⟨fun k h => (by cases h), kA, h2, comp, h3⟩, h1⟩
/-- a new int array, of the class of all int arrays -/
theorem zn_newa (hexec : p.tables.exec = Jvm.exec) (hb : c.code = cc) (harr : (Cond.arrayClass .int).before args s = true) (hK : va_K G.1 vwCl [(G.2.1, .int)] s) (hP : va_P G.1 vwCl ws H) (hD : va_D A ws) (hS : va_S A H0 H locs) (hA : ∀ q, H0.size ≤ q → A q) {n : Int32} {N' : Nat} (hn : ¬ n < 0) (hN : n.toNatClampNeg = N') (hbytes : N' * componentBytes .int ≤ 536870912) (hcells : cells + 1 ≤ R.cells) (hslots : slots + N' ≤ R.slots) (hdg : decode cc pc = .ok (.newarray .int, 2))
    (kk : ∀ (q : Nat) (H1 : Heap), va_P G.1 vwCl (ws ++ [(q, .inl (G.2.1, N', .inl (fun _ => 0)))]) H1 → va_D A (ws ++ [(q, .inl (G.2.1, N', .inl (fun _ => 0)))]) → va_S A H0 H1 locs → W p l e R s m args below meth c H1 locs (cells + 1) (slots + N') Q (F0 m (pc + 2) ls (.ref q :: rest))) : W p l e R s m args below meth c H locs cells slots Q (F0 m pc ls (.int n :: rest)) := by
  refine va_newa (atype := .int) (ty := .int) (a0 := (N', .inl (fun _ => 0))) hexec hb harr rfl hK hP hD hS hA (fun cA => rfl) hn hN hbytes hcells hslots hdg (fun q cA H1 hK1 hP1 hD1 hS1 => ?_)
  have e1 := va_nm_int (hK1.2 0 _ rfl).2
  have e2 := va_nm_int (hK1.2 1 _ rfl).2
  have e3 : G.2.1 = cA := Option.some.inj (e1.symm.trans e2)
  subst e3
  exact kk q H1 hP1 hD1 hS1
end ZN
/-- a tableswitch at a written place -/
theorem zs_in {x k : Int32} {a : Int} (hk : k.toInt = a) (h : x = k) : x.toInt = a := by rw [h]; exact hk
