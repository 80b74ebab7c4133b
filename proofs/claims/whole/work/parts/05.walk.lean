/-- the words that every method is given: all good ones of the tables -/
def zU : List Cond := lw_tbl.filter goodWord
theorem zmU {w : Cond} (i : Nat) (h : lw_tbl[i]? = some w) (g : goodWord w = true) : w ∈ zU := List.mem_filter.mpr ⟨List.mem_of_getElem? h, g⟩
theorem zgU {a : List Cond} (h : ∀ w ∈ a, w ∈ zU) : GoodIn zU a := fun w hw => ⟨h w hw, good_of_word (List.mem_filter.mp (h w hw)).2⟩
theorem zmUs {ws : List Cond} (ps : List Nat) (h : ps.map (fun i => lw_tbl[i]?) = ws.map some) (g : ws.all goodWord = true) : ∀ w ∈ ws, w ∈ zU := by
  intro w hw
  refine List.mem_filter.mpr ⟨?_, List.all_eq_true.mp g w hw⟩
  have h1 : some w ∈ ps.map (fun i => lw_tbl[i]?) := by rw [h]; exact List.mem_map.mpr ⟨w, hw, rfl⟩
  obtain ⟨i, -, hi⟩ := List.mem_map.mp h1
  exact List.mem_of_getElem? hi
def zFactI (k : Nat) : Int32 := ([1, 1, 2, 6, 24, 120, 720, 5040] : List Int32).getD k 0
def zNest : List Cond := [
.methodLinkNest "WonTogether" (9 : Nat) ({ cls := "WonTogether$Fraction", name := "<init>", desc := "()V" } : Jvm.MethodName) "WonTogether",
.fieldLinkNest "WonTogether" (128 : Nat) "WonTogether$Fraction" "above" "J" "WonTogether",
.fieldLinkNest "WonTogether$Shares" (126 : Nat) "WonTogether$Fraction" "above" "J" "WonTogether",
.fieldLinkNest "WonTogether" (132 : Nat) "WonTogether$Fraction" "below" "J" "WonTogether",
.fieldLinkNest "WonTogether$Shares" (130 : Nat) "WonTogether$Fraction" "below" "J" "WonTogether",
.methodLinkNest "WonTogether" (18 : Nat) ({ cls := "WonTogether$Worths", name := "<init>", desc := "()V" } : Jvm.MethodName) "WonTogether",
.fieldLinkNest "WonTogether" (96 : Nat) "WonTogether$Worths" "many" "I" "WonTogether",
.fieldLinkNest "WonTogether$Shares" (69 : Nat) "WonTogether$Worths" "many" "I" "WonTogether",
.fieldLinkNest "WonTogether$Shares" (45 : Nat) "WonTogether$Worths" "of" "[I" "WonTogether",
.methodLinkNest "WonTogether" (25 : Nat) ({ cls := "WonTogether$Shares", name := "<init>", desc := "()V" } : Jvm.MethodName) "WonTogether",
.methodLinkNest "WonTogether$Shares" (18 : Nat) ({ cls := "WonTogether$Board", name := "<init>", desc := "()V" } : Jvm.MethodName) "WonTogether",
.fieldLinkNest "WonTogether$Shares" (137 : Nat) "WonTogether$Board" "columns" "I" "WonTogether",
.methodLinkNest "WonTogether$Shares" (25 : Nat) ({ cls := "WonTogether$Fraction", name := "<init>", desc := "()V" } : Jvm.MethodName) "WonTogether",
.methodLinkNest "WonTogether" (32 : Nat) ({ cls := "WonTogether$Votes", name := "<init>", desc := "()V" } : Jvm.MethodName) "WonTogether",
.fieldLinkNest "WonTogether" (182 : Nat) "WonTogether$Votes" "many" "I" "WonTogether",
.methodLinkNest "WonTogether" (39 : Nat) ({ cls := "WonTogether$Claims", name := "<init>", desc := "()V" } : Jvm.MethodName) "WonTogether",
.fieldLinkNest "WonTogether" (227 : Nat) "WonTogether$Claims" "many" "I" "WonTogether",
.fieldLinkNest "WonTogether" (234 : Nat) "WonTogether$Claims" "estate" "I" "WonTogether",
.methodLinkNest "WonTogether" (46 : Nat) ({ cls := "WonTogether$Ways", name := "<init>", desc := "()V" } : Jvm.MethodName) "WonTogether",
.fieldLinkNest "WonTogether" (247 : Nat) "WonTogether$Ways" "places" "I" "WonTogether",
.fieldLinkNest "WonTogether" (253 : Nat) "WonTogether$Ways" "users" "I" "WonTogether",
.methodLinkNest "WonTogether" (53 : Nat) ({ cls := "WonTogether$Trade", name := "<init>", desc := "()V" } : Jvm.MethodName) "WonTogether",
.fieldLinkNest "WonTogether" (308 : Nat) "WonTogether$Trade" "buyers" "I" "WonTogether",
.fieldLinkNest "WonTogether" (311 : Nat) "WonTogether$Trade" "sellers" "I" "WonTogether",
.methodLinkNest "WonTogether" (62 : Nat) ({ cls := "WonTogether$Worths", name := "restart", desc := "(I)V" } : Jvm.MethodName) "WonTogether",
.methodLinkNest "WonTogether" (66 : Nat) ({ cls := "WonTogether$Shares", name := "restart", desc := "()V" } : Jvm.MethodName) "WonTogether",
.methodLinkNest "WonTogether" (68 : Nat) ({ cls := "WonTogether$Worths", name := "knowsSet", desc := "(I)Z" } : Jvm.MethodName) "WonTogether",
.methodLinkNest "WonTogether$Worths" (23 : Nat) ({ cls := "WonTogether", name := "within", desc := "(III)Z" } : Jvm.MethodName) "WonTogether",
.methodLinkNest "WonTogether" (73 : Nat) ({ cls := "WonTogether$Shares", name := "forgetCalm", desc := "()V" } : Jvm.MethodName) "WonTogether",
.methodLinkNest "WonTogether" (76 : Nat) ({ cls := "WonTogether$Worths", name := "replaceWorth", desc := "(II)I" } : Jvm.MethodName) "WonTogether",
.methodLinkNest "WonTogether" (80 : Nat) ({ cls := "WonTogether$Worths", name := "dividendOf", desc := "(I)I" } : Jvm.MethodName) "WonTogether",
.methodLinkNest "WonTogether" (84 : Nat) ({ cls := "WonTogether$Worths", name := "knowsSide", desc := "(I)Z" } : Jvm.MethodName) "WonTogether",
.methodLinkNest "WonTogether" (87 : Nat) ({ cls := "WonTogether$Worths", name := "knowsOrder", desc := "(I)Z" } : Jvm.MethodName) "WonTogether",
.methodLinkNest "WonTogether" (90 : Nat) ({ cls := "WonTogether$Worths", name := "marginIn", desc := "(II)I" } : Jvm.MethodName) "WonTogether",
.methodLinkNest "WonTogether" (93 : Nat) ({ cls := "WonTogether$Worths", name := "marginsInOrders", desc := "(I)I" } : Jvm.MethodName) "WonTogether",
.methodLinkNest "WonTogether$Worths" (40 : Nat) ({ cls := "WonTogether", name := "has", desc := "(II)Z" } : Jvm.MethodName) "WonTogether",
.methodLinkNest "WonTogether$Worths" (44 : Nat) ({ cls := "WonTogether", name := "ordersBehind", desc := "(II)I" } : Jvm.MethodName) "WonTogether",
.methodLinkNest "WonTogether" (103 : Nat) ({ cls := "WonTogether$Fraction", name := "put", desc := "(JJ)V" } : Jvm.MethodName) "WonTogether",
.methodLinkNest "WonTogether$Fraction" (16 : Nat) ({ cls := "WonTogether", name := "commonFactor", desc := "(JJ)J" } : Jvm.MethodName) "WonTogether",
.methodLinkNest "WonTogether" (107 : Nat) ({ cls := "WonTogether$Worths", name := "marginsOverSets", desc := "(I)I" } : Jvm.MethodName) "WonTogether",
.methodLinkNest "WonTogether" (110 : Nat) ({ cls := "WonTogether$Worths", name := "firstBetterApart", desc := "()I" } : Jvm.MethodName) "WonTogether",
.methodLinkNest "WonTogether" (114 : Nat) ({ cls := "WonTogether$Worths", name := "firstLessByMore", desc := "()I" } : Jvm.MethodName) "WonTogether",
.methodLinkNest "WonTogether" (117 : Nat) ({ cls := "WonTogether$Worths", name := "bestParting", desc := "()I" } : Jvm.MethodName) "WonTogether",
.methodLinkNest "WonTogether" (120 : Nat) ({ cls := "WonTogether$Worths", name := "partingWorth", desc := "(I)I" } : Jvm.MethodName) "WonTogether",
.methodLinkNest "WonTogether" (123 : Nat) ({ cls := "WonTogether$Worths", name := "leastBeside", desc := "(II)I" } : Jvm.MethodName) "WonTogether",
.methodLinkNest "WonTogether" (135 : Nat) ({ cls := "WonTogether$Shares", name := "layLeastPay", desc := "(LWonTogether$Worths;)V" } : Jvm.MethodName) "WonTogether",
.methodLinkNest "WonTogether$Shares" (81 : Nat) ({ cls := "WonTogether$Board", name := "restart", desc := "(I)V" } : Jvm.MethodName) "WonTogether",
.methodLinkNest "WonTogether$Shares" (116 : Nat) ({ cls := "WonTogether$Board", name := "addRow", desc := "(IJ)I" } : Jvm.MethodName) "WonTogether",
.methodLinkNest "WonTogether$Shares" (41 : Nat) ({ cls := "WonTogether", name := "has", desc := "(II)Z" } : Jvm.MethodName) "WonTogether",
.methodLinkNest "WonTogether$Shares" (122 : Nat) ({ cls := "WonTogether$Board", name := "putFactor", desc := "(IIJ)V" } : Jvm.MethodName) "WonTogether",
.methodLinkNest "WonTogether$Shares" (56 : Nat) ({ cls := "WonTogether$Worths", name := "all", desc := "()I" } : Jvm.MethodName) "WonTogether",
.methodLinkNest "WonTogether$Shares" (89 : Nat) ({ cls := "WonTogether$Board", name := "enterAll", desc := "()V" } : Jvm.MethodName) "WonTogether",
.methodLinkNest "WonTogether$Board" (75 : Nat) ({ cls := "WonTogether", name := "commonFactor", desc := "(JJ)J" } : Jvm.MethodName) "WonTogether",
.methodLinkNest "WonTogether$Shares" (92 : Nat) ({ cls := "WonTogether$Board", name := "drive", desc := "(II)V" } : Jvm.MethodName) "WonTogether",
.methodLinkNest "WonTogether" (139 : Nat) ({ cls := "WonTogether$Shares", name := "tellRow", desc := "(ILWonTogether$Fraction;)V" } : Jvm.MethodName) "WonTogether",
.methodLinkNest "WonTogether$Shares" (96 : Nat) ({ cls := "WonTogether$Board", name := "constantOf", desc := "(I)J" } : Jvm.MethodName) "WonTogether",
.methodLinkNest "WonTogether$Shares" (100 : Nat) ({ cls := "WonTogether$Board", name := "belowOf", desc := "(I)J" } : Jvm.MethodName) "WonTogether",
.methodLinkNest "WonTogether$Shares" (106 : Nat) ({ cls := "WonTogether$Fraction", name := "put", desc := "(JJ)V" } : Jvm.MethodName) "WonTogether",
.methodLinkNest "WonTogether" (143 : Nat) ({ cls := "WonTogether$Shares", name := "findCalm", desc := "(LWonTogether$Worths;)V" } : Jvm.MethodName) "WonTogether",
.methodLinkNest "WonTogether$Shares" (140 : Nat) ({ cls := "WonTogether$Board", name := "releaseFlatRows", desc := "()V" } : Jvm.MethodName) "WonTogether",
.methodLinkNest "WonTogether$Shares" (143 : Nat) ({ cls := "WonTogether$Board", name := "addDrawingIn", desc := "()I" } : Jvm.MethodName) "WonTogether",
.methodLinkNest "WonTogether$Shares" (146 : Nat) ({ cls := "WonTogether$Board", name := "enter", desc := "(I)I" } : Jvm.MethodName) "WonTogether",
.methodLinkNest "WonTogether$Shares" (103 : Nat) ({ cls := "WonTogether$Board", name := "freeze", desc := "(I)V" } : Jvm.MethodName) "WonTogether",
.methodLinkNest "WonTogether" (146 : Nat) ({ cls := "WonTogether$Shares", name := "tellStrain", desc := "(LWonTogether$Fraction;)V" } : Jvm.MethodName) "WonTogether",
.methodLinkNest "WonTogether" (150 : Nat) ({ cls := "WonTogether$Shares", name := "isWhole", desc := "(LWonTogether$Worths;)Z" } : Jvm.MethodName) "WonTogether",
.methodLinkNest "WonTogether" (154 : Nat) ({ cls := "WonTogether$Shares", name := "driveSide", desc := "(III)V" } : Jvm.MethodName) "WonTogether",
.methodLinkNest "WonTogether" (158 : Nat) ({ cls := "WonTogether$Shares", name := "tellCalm", desc := "(ILWonTogether$Fraction;)V" } : Jvm.MethodName) "WonTogether",
.methodLinkNest "WonTogether" (161 : Nat) ({ cls := "WonTogether$Shares", name := "replaceGiven", desc := "(III)I" } : Jvm.MethodName) "WonTogether",
.methodLinkNest "WonTogether" (166 : Nat) ({ cls := "WonTogether$Shares", name := "complaintOf", desc := "(LWonTogether$Worths;II)I" } : Jvm.MethodName) "WonTogether",
.methodLinkNest "WonTogether" (170 : Nat) ({ cls := "WonTogether$Shares", name := "surplusOver", desc := "(LWonTogether$Worths;III)I" } : Jvm.MethodName) "WonTogether",
.methodLinkNest "WonTogether" (174 : Nat) ({ cls := "WonTogether$Shares", name := "standsEven", desc := "(LWonTogether$Worths;I)Z" } : Jvm.MethodName) "WonTogether",
.methodLinkNest "WonTogether" (178 : Nat) ({ cls := "WonTogether$Shares", name := "firstBetterSet", desc := "(LWonTogether$Worths;I)I" } : Jvm.MethodName) "WonTogether",
.methodLinkNest "WonTogether" (183 : Nat) ({ cls := "WonTogether$Votes", name := "addVoter", desc := "(I)I" } : Jvm.MethodName) "WonTogether",
.methodLinkNest "WonTogether" (186 : Nat) ({ cls := "WonTogether$Votes", name := "knowsVoter", desc := "(I)Z" } : Jvm.MethodName) "WonTogether",
.methodLinkNest "WonTogether$Votes" (44 : Nat) ({ cls := "WonTogether", name := "within", desc := "(III)Z" } : Jvm.MethodName) "WonTogether",
.methodLinkNest "WonTogether" (189 : Nat) ({ cls := "WonTogether$Votes", name := "replaceWeight", desc := "(II)I" } : Jvm.MethodName) "WonTogether",
.methodLinkNest "WonTogether" (192 : Nat) ({ cls := "WonTogether$Votes", name := "replaceQuota", desc := "(I)I" } : Jvm.MethodName) "WonTogether",
.methodLinkNest "WonTogether" (195 : Nat) ({ cls := "WonTogether$Votes", name := "allVoters", desc := "()I" } : Jvm.MethodName) "WonTogether",
.methodLinkNest "WonTogether" (198 : Nat) ({ cls := "WonTogether$Votes", name := "isWinning", desc := "(I)Z" } : Jvm.MethodName) "WonTogether",
.methodLinkNest "WonTogether" (201 : Nat) ({ cls := "WonTogether$Votes", name := "leastSets", desc := "()I" } : Jvm.MethodName) "WonTogether",
.methodLinkNest "WonTogether$Votes" (56 : Nat) ({ cls := "WonTogether", name := "has", desc := "(II)Z" } : Jvm.MethodName) "WonTogether",
.methodLinkNest "WonTogether" (204 : Nat) ({ cls := "WonTogether$Votes", name := "leastSetAt", desc := "(I)I" } : Jvm.MethodName) "WonTogether",
.methodLinkNest "WonTogether" (207 : Nat) ({ cls := "WonTogether$Votes", name := "turnsOf", desc := "(I)I" } : Jvm.MethodName) "WonTogether",
.methodLinkNest "WonTogether" (210 : Nat) ({ cls := "WonTogether$Votes", name := "pivotsOf", desc := "(I)I" } : Jvm.MethodName) "WonTogether",
.methodLinkNest "WonTogether$Votes" (80 : Nat) ({ cls := "WonTogether", name := "ordersBehind", desc := "(II)I" } : Jvm.MethodName) "WonTogether",
.methodLinkNest "WonTogether" (213 : Nat) ({ cls := "WonTogether$Votes", name := "isBlocking", desc := "(I)Z" } : Jvm.MethodName) "WonTogether",
.methodLinkNest "WonTogether" (216 : Nat) ({ cls := "WonTogether$Votes", name := "isIdle", desc := "(I)Z" } : Jvm.MethodName) "WonTogether",
.methodLinkNest "WonTogether" (219 : Nat) ({ cls := "WonTogether$Votes", name := "partsOfLeastSets", desc := "(I)I" } : Jvm.MethodName) "WonTogether",
.methodLinkNest "WonTogether" (224 : Nat) ({ cls := "WonTogether$Votes", name := "tellSame", desc := "(I)I" } : Jvm.MethodName) "WonTogether",
.methodLinkNest "WonTogether" (228 : Nat) ({ cls := "WonTogether$Claims", name := "addClaim", desc := "(I)I" } : Jvm.MethodName) "WonTogether",
.methodLinkNest "WonTogether" (231 : Nat) ({ cls := "WonTogether$Claims", name := "replaceEstate", desc := "(I)I" } : Jvm.MethodName) "WonTogether",
.methodLinkNest "WonTogether" (237 : Nat) ({ cls := "WonTogether$Claims", name := "total", desc := "()I" } : Jvm.MethodName) "WonTogether",
.methodLinkNest "WonTogether" (240 : Nat) ({ cls := "WonTogether$Claims", name := "tellAward", desc := "(IILWonTogether$Fraction;)V" } : Jvm.MethodName) "WonTogether",
.methodLinkNest "WonTogether$Claims" (32 : Nat) ({ cls := "WonTogether$Fraction", name := "put", desc := "(JJ)V" } : Jvm.MethodName) "WonTogether",
.methodLinkNest "WonTogether$Claims" (73 : Nat) ({ cls := "WonTogether", name := "has", desc := "(II)Z" } : Jvm.MethodName) "WonTogether",
.methodLinkNest "WonTogether$Claims" (84 : Nat) ({ cls := "WonTogether", name := "ordersBehind", desc := "(II)I" } : Jvm.MethodName) "WonTogether",
.methodLinkNest "WonTogether$Claims" (54 : Nat) ({ cls := "WonTogether", name := "ordersOf", desc := "(I)I" } : Jvm.MethodName) "WonTogether",
.methodLinkNest "WonTogether" (244 : Nat) ({ cls := "WonTogether$Ways", name := "knowsPlace", desc := "(I)Z" } : Jvm.MethodName) "WonTogether",
.methodLinkNest "WonTogether$Ways" (34 : Nat) ({ cls := "WonTogether", name := "within", desc := "(III)Z" } : Jvm.MethodName) "WonTogether",
.methodLinkNest "WonTogether" (250 : Nat) ({ cls := "WonTogether$Ways", name := "addPlace", desc := "(II)I" } : Jvm.MethodName) "WonTogether",
.methodLinkNest "WonTogether" (256 : Nat) ({ cls := "WonTogether$Ways", name := "addUser", desc := "(I)I" } : Jvm.MethodName) "WonTogether",
.methodLinkNest "WonTogether" (259 : Nat) ({ cls := "WonTogether$Ways", name := "allUsers", desc := "()I" } : Jvm.MethodName) "WonTogether",
.methodLinkNest "WonTogether" (262 : Nat) ({ cls := "WonTogether$Ways", name := "costOf", desc := "(I)I" } : Jvm.MethodName) "WonTogether",
.methodLinkNest "WonTogether$Ways" (42 : Nat) ({ cls := "WonTogether", name := "has", desc := "(II)Z" } : Jvm.MethodName) "WonTogether",
.methodLinkNest "WonTogether" (265 : Nat) ({ cls := "WonTogether$Ways", name := "knowsUser", desc := "(I)Z" } : Jvm.MethodName) "WonTogether",
.methodLinkNest "WonTogether" (268 : Nat) ({ cls := "WonTogether$Ways", name := "partsOfWays", desc := "(I)I" } : Jvm.MethodName) "WonTogether",
.methodLinkNest "WonTogether" (271 : Nat) ({ cls := "WonTogether$Ways", name := "replacePay", desc := "(II)I" } : Jvm.MethodName) "WonTogether",
.methodLinkNest "WonTogether" (274 : Nat) ({ cls := "WonTogether$Ways", name := "firstOverpaying", desc := "()I" } : Jvm.MethodName) "WonTogether",
.methodLinkNest "WonTogether" (277 : Nat) ({ cls := "WonTogether$Trade", name := "restart", desc := "(II)V" } : Jvm.MethodName) "WonTogether",
.methodLinkNest "WonTogether" (280 : Nat) ({ cls := "WonTogether$Trade", name := "knowsBuyer", desc := "(I)Z" } : Jvm.MethodName) "WonTogether",
.methodLinkNest "WonTogether$Trade" (30 : Nat) ({ cls := "WonTogether", name := "within", desc := "(III)Z" } : Jvm.MethodName) "WonTogether",
.methodLinkNest "WonTogether" (283 : Nat) ({ cls := "WonTogether$Trade", name := "knowsSeller", desc := "(I)Z" } : Jvm.MethodName) "WonTogether",
.methodLinkNest "WonTogether" (286 : Nat) ({ cls := "WonTogether$Trade", name := "replaceGain", desc := "(III)I" } : Jvm.MethodName) "WonTogether",
.methodLinkNest "WonTogether" (289 : Nat) ({ cls := "WonTogether$Trade", name := "greatestSum", desc := "()I" } : Jvm.MethodName) "WonTogether",
.methodLinkNest "WonTogether$Trade" (46 : Nat) ({ cls := "WonTogether", name := "has", desc := "(II)Z" } : Jvm.MethodName) "WonTogether",
.methodLinkNest "WonTogether" (292 : Nat) ({ cls := "WonTogether$Trade", name := "sellerOf", desc := "(I)I" } : Jvm.MethodName) "WonTogether",
.methodLinkNest "WonTogether" (295 : Nat) ({ cls := "WonTogether$Trade", name := "cheapPrice", desc := "(I)I" } : Jvm.MethodName) "WonTogether",
.methodLinkNest "WonTogether" (298 : Nat) ({ cls := "WonTogether$Trade", name := "dearPrice", desc := "(I)I" } : Jvm.MethodName) "WonTogether",
.methodLinkNest "WonTogether" (301 : Nat) ({ cls := "WonTogether$Trade", name := "replacePrice", desc := "(II)I" } : Jvm.MethodName) "WonTogether",
.methodLinkNest "WonTogether" (304 : Nat) ({ cls := "WonTogether$Trade", name := "pricesFit", desc := "()Z" } : Jvm.MethodName) "WonTogether",
.methodLinkNest "WonTogether" (323 : Nat) ({ cls := "WonTogether$Worths", name := "mixInto", desc := "(J)J" } : Jvm.MethodName) "WonTogether",
.methodLinkNest "WonTogether$Worths" (60 : Nat) ({ cls := "WonTogether", name := "mix", desc := "(JJ)J" } : Jvm.MethodName) "WonTogether",
.methodLinkNest "WonTogether" (327 : Nat) ({ cls := "WonTogether$Shares", name := "mixInto", desc := "(JI)J" } : Jvm.MethodName) "WonTogether",
.methodLinkNest "WonTogether$Shares" (156 : Nat) ({ cls := "WonTogether", name := "mix", desc := "(JJ)J" } : Jvm.MethodName) "WonTogether",
.methodLinkNest "WonTogether" (330 : Nat) ({ cls := "WonTogether$Votes", name := "mixInto", desc := "(J)J" } : Jvm.MethodName) "WonTogether",
.methodLinkNest "WonTogether$Votes" (121 : Nat) ({ cls := "WonTogether", name := "mix", desc := "(JJ)J" } : Jvm.MethodName) "WonTogether",
.methodLinkNest "WonTogether" (331 : Nat) ({ cls := "WonTogether$Claims", name := "mixInto", desc := "(J)J" } : Jvm.MethodName) "WonTogether",
.methodLinkNest "WonTogether$Claims" (87 : Nat) ({ cls := "WonTogether", name := "mix", desc := "(JJ)J" } : Jvm.MethodName) "WonTogether",
.methodLinkNest "WonTogether" (332 : Nat) ({ cls := "WonTogether$Ways", name := "mixInto", desc := "(J)J" } : Jvm.MethodName) "WonTogether",
.methodLinkNest "WonTogether$Ways" (69 : Nat) ({ cls := "WonTogether", name := "mix", desc := "(JJ)J" } : Jvm.MethodName) "WonTogether",
.methodLinkNest "WonTogether" (333 : Nat) ({ cls := "WonTogether$Trade", name := "mixInto", desc := "(J)J" } : Jvm.MethodName) "WonTogether",
.methodLinkNest "WonTogether$Trade" (70 : Nat) ({ cls := "WonTogether", name := "mix", desc := "(JJ)J" } : Jvm.MethodName) "WonTogether"]
/-! the walk: what a method's frame may take for granted, and the judgement -/
def zFact : Nat → Value := fun k => .int (zFactI k)
def zV (D : va_G) (ad : Nat → Nat) (cA : Nat → ClassId) (U : State) (H : Heap) : Prop :=
  va_K D vwCl (ztys cA) U ∧ (∀ w ∈ zNest, va_Nw w U) ∧ va_T .int (ad zFA) 8 zFact (zA ad) U H ∧ va_Z "WonTogether" "FACTORIAL" "[I" (.ref (ad zFA)) (zA ad) U H
/-- code, locals, answer's type, own class, room, cells made, slots made, and what else holds at the entry -/
abbrev zM : Type := ByteArray × Nat × Option FieldType × String × Room × Nat × Nat × (Array Value → State → Prop)
abbrev zM.code (M : zM) : ByteArray := M.1
abbrev zM.maxL (M : zM) : Nat := M.2.1
abbrev zM.ret (M : zM) : Option FieldType := M.2.2.1
abbrev zM.own (M : zM) : String := M.2.2.2.1
abbrev zM.room (M : zM) : Room := M.2.2.2.2.1
abbrev zM.cells (M : zM) : Nat := M.2.2.2.2.2.1
abbrev zM.slots (M : zM) : Nat := M.2.2.2.2.2.2.1
abbrev zM.ex (M : zM) : Array Value → State → Prop := M.2.2.2.2.2.2.2
def zC (D : va_G) (ad : Nat → Nat) (cA : Nat → ClassId) (M : zM) (p : Program) (s : State) (m : MethodId) (args : Array Value) (meth : Method) (c : Code) : Prop :=
  p.tables.exec = Jvm.exec ∧ c.code = M.code ∧ c.maxLocals = M.maxL ∧ meth.sig.returnType = M.ret ∧ s.vm.findClass M.own = some m.cls ∧ (∀ w ∈ zU, w.before args s = true) ∧ meth.locks = false ∧ zV D ad cA s s.heap ∧ zInj ad ∧ M.ex args s
abbrev zZ : Type := List Frame → Array Value → State → State → Prop
def zOk (l : Launch) (D : va_G) (ad : Nat → Nat) (cA : Nat → ClassId) (M : zM) (Z : zZ) (pc : Nat) (ls : List (Option Value)) (st : List Value) (σ : zS) : Prop :=
  ∀ (p : Program) (e : Env) (s : State) (m : MethodId) (args : Array Value) (below : List Frame) (meth : Method) (c : Code) (H : Heap) (locs : List Loc) (lsA : Array Slot), zC D ad cA M p s m args meth c → va_P D vwCl (zW ad cA σ) H → va_S (zA ad) s.heap H locs → lv_has lsA M.maxL (zls ad 0 ls) →
    W p l e M.room s m args below meth c H locs M.cells M.slots (Z below args s) (F0 m pc lsA (st.map (zr ad)))
section ZK
variable {l : Launch} {D : va_G} {ad : Nat → Nat} {cA : Nat → ClassId} {M : zM} {Z : zZ} {pc : Nat} {ls : List (Option Value)} {st : List Value} {σ : zS}
theorem zk_ls (ls' : List (Option Value)) (h : ∀ (j : Nat) (v : Value), ls'[j]? = some (some v) → ls[j]? = some (some v)) (k : zOk l D ad cA M Z pc ls' st σ) : zOk l D ad cA M Z pc ls st σ := by
  intro p e s m args below meth c H locs lsA C hP hS hl
  refine k p e s m args below meth c H locs lsA C hP hS (zhas_mono hl fun q hq => ?_)
  obtain ⟨j, v, hj, rfl⟩ := (zls_mem _ 0 q).mp hq
  exact (zls_mem _ 0 _).mpr ⟨j, v, h j v hj, rfl⟩
theorem zk_iconst {n : Int} {v : Int32} (hd : decode M.code pc = .ok (.iconst n, 1)) (hv : Int32.ofInt n = v) (kk : zOk l D ad cA M Z (pc + 1) ls (.int v :: st) σ) : zOk l D ad cA M Z pc ls (st) σ := by
  intro p e s m args below meth c H locs lsA C hP hS h
  exact lv_iconst C.1 C.2.1 hd hv (kk p e s m args below meth c H locs lsA C hP hS h)
theorem zk_bipush {n : Int} {v : Int32} (hd : decode M.code pc = .ok (.bipush n, 2)) (hv : (Int8.ofInt n).toInt32 = v) (kk : zOk l D ad cA M Z (pc + 2) ls (.int v :: st) σ) : zOk l D ad cA M Z pc ls (st) σ := by
  intro p e s m args below meth c H locs lsA C hP hS h
  exact lv_bipush C.1 C.2.1 hd hv (kk p e s m args below meth c H locs lsA C hP hS h)
theorem zk_sipush {n : Int} {v : Int32} (hd : decode M.code pc = .ok (.sipush n, 3)) (hv : (Int16.ofInt n).toInt32 = v) (kk : zOk l D ad cA M Z (pc + 3) ls (.int v :: st) σ) : zOk l D ad cA M Z pc ls (st) σ := by
  intro p e s m args below meth c H locs lsA C hP hS h
  exact lv_sipush C.1 C.2.1 hd hv (kk p e s m args below meth c H locs lsA C hP hS h)
theorem zk_lconst {n : Fin 2} {v : Int64} (hd : decode M.code pc = .ok (.lconst n, 1)) (hv : Int64.ofNat (n : Nat) = v) (kk : zOk l D ad cA M Z (pc + 1) ls (.long v :: st) σ) : zOk l D ad cA M Z pc ls (st) σ := by
  intro p e s m args below meth c H locs lsA C hP hS h
  exact lv_lconst C.1 C.2.1 hd hv (kk p e s m args below meth c H locs lsA C hP hS h)
theorem zk_ldc {index : Nat} {v : Int32} (hd : decode M.code pc = .ok (.ldc index, 2)) (hw : Cond.constant M.own index v ∈ zU) (kk : zOk l D ad cA M Z (pc + 2) ls (.int v :: st) σ) : zOk l D ad cA M Z pc ls (st) σ := by
  intro p e s m args below meth c H locs lsA C hP hS h
  exact lv_ldc C.1 C.2.1 C.2.2.2.2.1 (C.2.2.2.2.2.1 _ hw) hd (kk p e s m args below meth c H locs lsA C hP hS h)
theorem zk_ldcw {index : Nat} {v : Int32} (hd : decode M.code pc = .ok (.ldc_w index, 3)) (hw : Cond.constant M.own index v ∈ zU) (kk : zOk l D ad cA M Z (pc + 3) ls (.int v :: st) σ) : zOk l D ad cA M Z pc ls (st) σ := by
  intro p e s m args below meth c H locs lsA C hP hS h
  exact lv_ldcw C.1 C.2.1 C.2.2.2.2.1 (C.2.2.2.2.2.1 _ hw) hd (kk p e s m args below meth c H locs lsA C hP hS h)
theorem zk_ldc2 {index : Nat} {v : Int64} (hd : decode M.code pc = .ok (.ldc2_w index, 3)) (hw : Cond.constantLong M.own index v ∈ zU) (kk : zOk l D ad cA M Z (pc + 3) ls (.long v :: st) σ) : zOk l D ad cA M Z pc ls (st) σ := by
  intro p e s m args below meth c H locs lsA C hP hS h
  exact lv_ldc2 C.1 C.2.1 C.2.2.2.2.1 (C.2.2.2.2.2.1 _ hw) hd (kk p e s m args below meth c H locs lsA C hP hS h)
theorem zk_iadd {x y : Int32} (hd : decode M.code pc = .ok (.iadd, 1)) (kk : zOk l D ad cA M Z (pc + 1) ls (.int (x + y) :: st) σ) : zOk l D ad cA M Z pc ls (.int y :: .int x :: st) σ := by
  intro p e s m args below meth c H locs lsA C hP hS h
  exact lv_iadd C.1 C.2.1 hd (kk p e s m args below meth c H locs lsA C hP hS h)
theorem zk_isub {x y : Int32} (hd : decode M.code pc = .ok (.isub, 1)) (kk : zOk l D ad cA M Z (pc + 1) ls (.int (x - y) :: st) σ) : zOk l D ad cA M Z pc ls (.int y :: .int x :: st) σ := by
  intro p e s m args below meth c H locs lsA C hP hS h
  exact lv_isub C.1 C.2.1 hd (kk p e s m args below meth c H locs lsA C hP hS h)
theorem zk_imul {x y : Int32} (hd : decode M.code pc = .ok (.imul, 1)) (kk : zOk l D ad cA M Z (pc + 1) ls (.int (x * y) :: st) σ) : zOk l D ad cA M Z pc ls (.int y :: .int x :: st) σ := by
  intro p e s m args below meth c H locs lsA C hP hS h
  exact lv_imul C.1 C.2.1 hd (kk p e s m args below meth c H locs lsA C hP hS h)
theorem zk_iand {x y : Int32} (hd : decode M.code pc = .ok (.iand, 1)) (kk : zOk l D ad cA M Z (pc + 1) ls (.int (x &&& y) :: st) σ) : zOk l D ad cA M Z pc ls (.int y :: .int x :: st) σ := by
  intro p e s m args below meth c H locs lsA C hP hS h
  exact lv_iand C.1 C.2.1 hd (kk p e s m args below meth c H locs lsA C hP hS h)
theorem zk_ior {x y : Int32} (hd : decode M.code pc = .ok (.ior, 1)) (kk : zOk l D ad cA M Z (pc + 1) ls (.int (x ||| y) :: st) σ) : zOk l D ad cA M Z pc ls (.int y :: .int x :: st) σ := by
  intro p e s m args below meth c H locs lsA C hP hS h
  exact lv_ior C.1 C.2.1 hd (kk p e s m args below meth c H locs lsA C hP hS h)
theorem zk_ixor {x y : Int32} (hd : decode M.code pc = .ok (.ixor, 1)) (kk : zOk l D ad cA M Z (pc + 1) ls (.int (x ^^^ y) :: st) σ) : zOk l D ad cA M Z pc ls (.int y :: .int x :: st) σ := by
  intro p e s m args below meth c H locs lsA C hP hS h
  exact lv_ixor C.1 C.2.1 hd (kk p e s m args below meth c H locs lsA C hP hS h)
theorem zk_ishl {x y : Int32} (hd : decode M.code pc = .ok (.ishl, 1)) (kk : zOk l D ad cA M Z (pc + 1) ls (.int (x <<< (y &&& 31)) :: st) σ) : zOk l D ad cA M Z pc ls (.int y :: .int x :: st) σ := by
  intro p e s m args below meth c H locs lsA C hP hS h
  exact lv_ishl C.1 C.2.1 hd (kk p e s m args below meth c H locs lsA C hP hS h)
theorem zk_ishr {x y : Int32} (hd : decode M.code pc = .ok (.ishr, 1)) (kk : zOk l D ad cA M Z (pc + 1) ls (.int (x >>> (y &&& 31)) :: st) σ) : zOk l D ad cA M Z pc ls (.int y :: .int x :: st) σ := by
  intro p e s m args below meth c H locs lsA C hP hS h
  exact lv_ishr C.1 C.2.1 hd (kk p e s m args below meth c H locs lsA C hP hS h)
theorem zk_idiv {x y : Int32} (hd : decode M.code pc = .ok (.idiv, 1)) (hne : ¬ y = 0) (kk : zOk l D ad cA M Z (pc + 1) ls (.int (x / y) :: st) σ) : zOk l D ad cA M Z pc ls (.int y :: .int x :: st) σ := by
  intro p e s m args below meth c H locs lsA C hP hS h
  exact lv_idiv C.1 C.2.1 hd hne (kk p e s m args below meth c H locs lsA C hP hS h)
theorem zk_irem {x y : Int32} (hd : decode M.code pc = .ok (.irem, 1)) (hne : ¬ y = 0) (kk : zOk l D ad cA M Z (pc + 1) ls (.int (x - x / y * y) :: st) σ) : zOk l D ad cA M Z pc ls (.int y :: .int x :: st) σ := by
  intro p e s m args below meth c H locs lsA C hP hS h
  exact lv_irem C.1 C.2.1 hd hne (kk p e s m args below meth c H locs lsA C hP hS h)
theorem zk_ineg {x : Int32} (hd : decode M.code pc = .ok (.ineg, 1)) (kk : zOk l D ad cA M Z (pc + 1) ls (.int (-x) :: st) σ) : zOk l D ad cA M Z pc ls (.int x :: st) σ := by
  intro p e s m args below meth c H locs lsA C hP hS h
  exact lv_ineg C.1 C.2.1 hd (kk p e s m args below meth c H locs lsA C hP hS h)
theorem zk_ladd {x y : Int64} (hd : decode M.code pc = .ok (.ladd, 1)) (kk : zOk l D ad cA M Z (pc + 1) ls (.long (x + y) :: st) σ) : zOk l D ad cA M Z pc ls (.long y :: .long x :: st) σ := by
  intro p e s m args below meth c H locs lsA C hP hS h
  exact lv_ladd C.1 C.2.1 hd (kk p e s m args below meth c H locs lsA C hP hS h)
theorem zk_lsub {x y : Int64} (hd : decode M.code pc = .ok (.lsub, 1)) (kk : zOk l D ad cA M Z (pc + 1) ls (.long (x - y) :: st) σ) : zOk l D ad cA M Z pc ls (.long y :: .long x :: st) σ := by
  intro p e s m args below meth c H locs lsA C hP hS h
  exact lv_lsub C.1 C.2.1 hd (kk p e s m args below meth c H locs lsA C hP hS h)
theorem zk_lmul {x y : Int64} (hd : decode M.code pc = .ok (.lmul, 1)) (kk : zOk l D ad cA M Z (pc + 1) ls (.long (x * y) :: st) σ) : zOk l D ad cA M Z pc ls (.long y :: .long x :: st) σ := by
  intro p e s m args below meth c H locs lsA C hP hS h
  exact lv_lmul C.1 C.2.1 hd (kk p e s m args below meth c H locs lsA C hP hS h)
theorem zk_ldiv {x y : Int64} (hd : decode M.code pc = .ok (.ldiv, 1)) (hne : ¬ y = 0) (kk : zOk l D ad cA M Z (pc + 1) ls (.long (x / y) :: st) σ) : zOk l D ad cA M Z pc ls (.long y :: .long x :: st) σ := by
  intro p e s m args below meth c H locs lsA C hP hS h
  exact lv_ldiv C.1 C.2.1 hd hne (kk p e s m args below meth c H locs lsA C hP hS h)
theorem zk_lrem {x y : Int64} (hd : decode M.code pc = .ok (.lrem, 1)) (hne : ¬ y = 0) (kk : zOk l D ad cA M Z (pc + 1) ls (.long (x - x / y * y) :: st) σ) : zOk l D ad cA M Z pc ls (.long y :: .long x :: st) σ := by
  intro p e s m args below meth c H locs lsA C hP hS h
  exact lv_lrem C.1 C.2.1 hd hne (kk p e s m args below meth c H locs lsA C hP hS h)
theorem zk_lneg {x : Int64} (hd : decode M.code pc = .ok (.lneg, 1)) (kk : zOk l D ad cA M Z (pc + 1) ls (.long (-x) :: st) σ) : zOk l D ad cA M Z pc ls (.long x :: st) σ := by
  intro p e s m args below meth c H locs lsA C hP hS h
  exact lv_lneg C.1 C.2.1 hd (kk p e s m args below meth c H locs lsA C hP hS h)
theorem zk_iushr {x y v : Int32} (hd : decode M.code pc = .ok (.iushr, 1)) (hv : (x.toUInt32 >>> (y.toUInt32 &&& Int32.toUInt32 31)).toInt32 = v) (kk : zOk l D ad cA M Z (pc + 1) ls (.int v :: st) σ) : zOk l D ad cA M Z pc ls (.int y :: .int x :: st) σ := by
  intro p e s m args below meth c H locs lsA C hP hS h
  exact lv_iushr C.1 C.2.1 hd hv (kk p e s m args below meth c H locs lsA C hP hS h)
theorem zk_lshl {x v : Int64} {y : Int32} (hd : decode M.code pc = .ok (.lshl, 1)) (hv : x <<< (y.toInt64 &&& 63) = v) (kk : zOk l D ad cA M Z (pc + 1) ls (.long v :: st) σ) : zOk l D ad cA M Z pc ls (.int y :: .long x :: st) σ := by
  intro p e s m args below meth c H locs lsA C hP hS h
  exact lv_lshl C.1 C.2.1 hd hv (kk p e s m args below meth c H locs lsA C hP hS h)
theorem zk_i2l {x : Int32} (hd : decode M.code pc = .ok (.i2l, 1)) (kk : zOk l D ad cA M Z (pc + 1) ls (.long x.toInt64 :: st) σ) : zOk l D ad cA M Z pc ls (.int x :: st) σ := by
  intro p e s m args below meth c H locs lsA C hP hS h
  exact lv_i2l C.1 C.2.1 hd rfl (kk p e s m args below meth c H locs lsA C hP hS h)
theorem zk_lcmp {x y : Int64} (hd : decode M.code pc = .ok (.lcmp, 1)) (kk : zOk l D ad cA M Z (pc + 1) ls (.int (lg_cmp x y) :: st) σ) : zOk l D ad cA M Z pc ls (.long y :: .long x :: st) σ := by
  intro p e s m args below meth c H locs lsA C hP hS h
  exact W.lcmp C.1 C.2.1 hd (kk p e s m args below meth c H locs lsA C hP hS h)
theorem zk_dup {v : Value} (hd : decode M.code pc = .ok (.dup, 1)) (hv : v.category = 1) (kk : zOk l D ad cA M Z (pc + 1) ls (v :: v :: st) σ) : zOk l D ad cA M Z pc ls (v :: st) σ := by
  intro p e s m args below meth c H locs lsA C hP hS h
  exact lv_dup C.1 C.2.1 hd (by rw [zr_cat]; exact hv) (kk p e s m args below meth c H locs lsA C hP hS h)
theorem zk_pop {v : Value} (hd : decode M.code pc = .ok (.pop, 1)) (hv : v.category = 1) (kk : zOk l D ad cA M Z (pc + 1) ls (st) σ) : zOk l D ad cA M Z pc ls (v :: st) σ := by
  intro p e s m args below meth c H locs lsA C hP hS h
  exact lv_pop C.1 C.2.1 hd (by rw [zr_cat]; exact hv) (kk p e s m args below meth c H locs lsA C hP hS h)
theorem zk_dup2 {v w : Value} (hd : decode M.code pc = .ok (.dup2, 1)) (hv : v.category = 1) (hw : w.category = 1) (kk : zOk l D ad cA M Z (pc + 1) ls (v :: w :: v :: w :: st) σ) : zOk l D ad cA M Z pc ls (v :: w :: st) σ := by
  intro p e s m args below meth c H locs lsA C hP hS h
  exact lv_dup2_11 C.1 C.2.1 hd (by rw [zr_cat]; exact hv) (by rw [zr_cat]; exact hw) (kk p e s m args below meth c H locs lsA C hP hS h)
theorem zk_dup2_2 {v : Value} (hd : decode M.code pc = .ok (.dup2, 1)) (hv : v.category = 2) (kk : zOk l D ad cA M Z (pc + 1) ls (v :: v :: st) σ) : zOk l D ad cA M Z pc ls (v :: st) σ := by
  intro p e s m args below meth c H locs lsA C hP hS h
  exact lv_dup2_2 C.1 C.2.1 hd (by rw [zr_cat]; exact hv) (kk p e s m args below meth c H locs lsA C hP hS h)
theorem zk_iload_n {k : Fin 4} {i : Nat} {x : Int32} (hd : decode M.code pc = .ok (.iload_n k, 1)) (hi : (k : Nat) = i) (hl : ls[i]? = some (some (.int x))) (kk : zOk l D ad cA M Z (pc + 1) ls (.int x :: st) σ) : zOk l D ad cA M Z pc ls st σ := by
  intro p e s m args below meth c H locs lsA C hP hS h
  exact lv_iload_n C.1 C.2.1 hd hi (zls_get h hl) (kk p e s m args below meth c H locs lsA C hP hS h)
theorem zk_iload {i : Nat} {x : Int32} (hd : decode M.code pc = .ok (.iload i, 2)) (hl : ls[i]? = some (some (.int x))) (kk : zOk l D ad cA M Z (pc + 2) ls (.int x :: st) σ) : zOk l D ad cA M Z pc ls st σ := by
  intro p e s m args below meth c H locs lsA C hP hS h
  exact lv_iload C.1 C.2.1 hd (zls_get h hl) (kk p e s m args below meth c H locs lsA C hP hS h)
theorem zk_lload_n {k : Fin 4} {i : Nat} {x : Int64} (hd : decode M.code pc = .ok (.lload_n k, 1)) (hi : (k : Nat) = i) (hl : ls[i]? = some (some (.long x))) (kk : zOk l D ad cA M Z (pc + 1) ls (.long x :: st) σ) : zOk l D ad cA M Z pc ls st σ := by
  intro p e s m args below meth c H locs lsA C hP hS h
  exact lv_lload_n C.1 C.2.1 hd hi (zls_get h hl) (kk p e s m args below meth c H locs lsA C hP hS h)
theorem zk_lload {i : Nat} {x : Int64} (hd : decode M.code pc = .ok (.lload i, 2)) (hl : ls[i]? = some (some (.long x))) (kk : zOk l D ad cA M Z (pc + 2) ls (.long x :: st) σ) : zOk l D ad cA M Z pc ls st σ := by
  intro p e s m args below meth c H locs lsA C hP hS h
  exact lv_lload C.1 C.2.1 hd (zls_get h hl) (kk p e s m args below meth c H locs lsA C hP hS h)
theorem zk_aload_n {k : Fin 4} {i x : Nat} (hd : decode M.code pc = .ok (.aload_n k, 1)) (hi : (k : Nat) = i) (hl : ls[i]? = some (some (.ref x))) (kk : zOk l D ad cA M Z (pc + 1) ls (.ref x :: st) σ) : zOk l D ad cA M Z pc ls st σ := by
  intro p e s m args below meth c H locs lsA C hP hS h
  exact lv_aload_n C.1 C.2.1 hd hi (zls_get h hl) (kk p e s m args below meth c H locs lsA C hP hS h)
theorem zk_aload {i x : Nat} (hd : decode M.code pc = .ok (.aload i, 2)) (hl : ls[i]? = some (some (.ref x))) (kk : zOk l D ad cA M Z (pc + 2) ls (.ref x :: st) σ) : zOk l D ad cA M Z pc ls st σ := by
  intro p e s m args below meth c H locs lsA C hP hS h
  exact lv_aload C.1 C.2.1 hd (zls_get h hl) (kk p e s m args below meth c H locs lsA C hP hS h)
theorem zk_istore_n {i : Nat} {k : Fin 4} {x : Int32} (hd : decode M.code pc = .ok (.istore_n k, 1)) (hi : (k : Nat) = i) (hn : i < M.maxL) (kk : zOk l D ad cA M Z (pc + 1) (zst1 ls i (.int x)) st σ) : zOk l D ad cA M Z pc ls (.int x :: st) σ := by
  intro p e s m args below meth c H locs lsA C hP hS h
  exact lv_istore_n C.1 C.2.1 hd hi h hn rfl (fun ls' h' => kk p e s m args below meth c H locs ls' C hP hS (zhas_mono h' zst1_sub))
theorem zk_istore {i : Nat} {x : Int32} (hd : decode M.code pc = .ok (.istore i, 2)) (hn : i < M.maxL) (kk : zOk l D ad cA M Z (pc + 2) (zst1 ls i (.int x)) st σ) : zOk l D ad cA M Z pc ls (.int x :: st) σ := by
  intro p e s m args below meth c H locs lsA C hP hS h
  exact lv_istore C.1 C.2.1 hd h hn rfl (fun ls' h' => kk p e s m args below meth c H locs ls' C hP hS (zhas_mono h' zst1_sub))
theorem zk_lstore_n {i : Nat} {k : Fin 4} {x : Int64} (hd : decode M.code pc = .ok (.lstore_n k, 1)) (hi : (k : Nat) = i) (hn : i + 1 < M.maxL) (kk : zOk l D ad cA M Z (pc + 1) (zst2 ls i (.long x)) st σ) : zOk l D ad cA M Z pc ls (.long x :: st) σ := by
  intro p e s m args below meth c H locs lsA C hP hS h
  exact lv_lstore_n C.1 C.2.1 hd hi h hn rfl (fun ls' h' => kk p e s m args below meth c H locs ls' C hP hS (zhas_mono h' zst2_sub))
theorem zk_lstore {i : Nat} {x : Int64} (hd : decode M.code pc = .ok (.lstore i, 2)) (hn : i + 1 < M.maxL) (kk : zOk l D ad cA M Z (pc + 2) (zst2 ls i (.long x)) st σ) : zOk l D ad cA M Z pc ls (.long x :: st) σ := by
  intro p e s m args below meth c H locs lsA C hP hS h
  exact lv_lstore C.1 C.2.1 hd h hn rfl (fun ls' h' => kk p e s m args below meth c H locs ls' C hP hS (zhas_mono h' zst2_sub))
theorem zk_astore_n {i : Nat} {k : Fin 4} {x : Nat} (hd : decode M.code pc = .ok (.astore_n k, 1)) (hi : (k : Nat) = i) (hn : i < M.maxL) (kk : zOk l D ad cA M Z (pc + 1) (zst1 ls i (.ref x)) st σ) : zOk l D ad cA M Z pc ls (.ref x :: st) σ := by
  intro p e s m args below meth c H locs lsA C hP hS h
  exact lv_astore_n C.1 C.2.1 hd hi h hn rfl (fun ls' h' => kk p e s m args below meth c H locs ls' C hP hS (zhas_mono h' zst1_sub))
theorem zk_astore {i : Nat} {x : Nat} (hd : decode M.code pc = .ok (.astore i, 2)) (hn : i < M.maxL) (kk : zOk l D ad cA M Z (pc + 2) (zst1 ls i (.ref x)) st σ) : zOk l D ad cA M Z pc ls (.ref x :: st) σ := by
  intro p e s m args below meth c H locs lsA C hP hS h
  exact lv_astore C.1 C.2.1 hd h hn rfl (fun ls' h' => kk p e s m args below meth c H locs ls' C hP hS (zhas_mono h' zst1_sub))
theorem zk_iinc {i : Nat} {n : Int} {x v : Int32} (hd : decode M.code pc = .ok (.iinc i n, 3)) (hl : ls[i]? = some (some (.int x))) (hv : x + Int32.ofInt n = v) (hn : i < M.maxL) (kk : zOk l D ad cA M Z (pc + 3) (zst1 ls i (.int v)) st σ) : zOk l D ad cA M Z pc ls st σ := by
  intro p e s m args below meth c H locs lsA C hP hS h
  obtain ⟨k, hk⟩ := List.getElem?_of_mem ((zls_mem (ad := ad) ls 0 (i, .int x)).mpr ⟨i, _, hl, by rw [Nat.zero_add]; rfl⟩)
  exact lv_iinc C.1 C.2.1 hd h hk hv hn rfl (fun ls' h' => kk p e s m args below meth c H locs ls' C hP hS (zhas_mono h' zst1_sub))
theorem zk_if_eq {x : Int32} {off : Int} {tgt : Nat} (hd : decode M.code pc = .ok (.ifCond .eq off, 3)) (ht : (pc : Int) + off = (tgt : Int)) (kt : x = 0 → zOk l D ad cA M Z tgt ls st σ) (kf : ¬ x = 0 → zOk l D ad cA M Z (pc + 3) ls st σ) : zOk l D ad cA M Z pc ls (.int x :: st) σ := by
  intro p e s m args below meth c H locs lsA C hP hS h
  exact lv_if_eq C.1 C.2.1 hd ht (fun q => kt q p e s m args below meth c H locs lsA C hP hS h) (fun q => kf q p e s m args below meth c H locs lsA C hP hS h)
theorem zk_icmp_eq {x y : Int32} {off : Int} {tgt : Nat} (hd : decode M.code pc = .ok (.if_icmp .eq off, 3)) (ht : (pc : Int) + off = (tgt : Int)) (kt : x = y → zOk l D ad cA M Z tgt ls st σ) (kf : ¬ x = y → zOk l D ad cA M Z (pc + 3) ls st σ) : zOk l D ad cA M Z pc ls (.int y :: .int x :: st) σ := by
  intro p e s m args below meth c H locs lsA C hP hS h
  exact lv_icmp_eq C.1 C.2.1 hd ht (fun q => kt q p e s m args below meth c H locs lsA C hP hS h) (fun q => kf q p e s m args below meth c H locs lsA C hP hS h)
theorem zk_if_ne {x : Int32} {off : Int} {tgt : Nat} (hd : decode M.code pc = .ok (.ifCond .ne off, 3)) (ht : (pc : Int) + off = (tgt : Int)) (kt : ¬ x = 0 → zOk l D ad cA M Z tgt ls st σ) (kf : x = 0 → zOk l D ad cA M Z (pc + 3) ls st σ) : zOk l D ad cA M Z pc ls (.int x :: st) σ := by
  intro p e s m args below meth c H locs lsA C hP hS h
  exact lv_if_ne C.1 C.2.1 hd ht (fun q => kt q p e s m args below meth c H locs lsA C hP hS h) (fun q => kf q p e s m args below meth c H locs lsA C hP hS h)
theorem zk_icmp_ne {x y : Int32} {off : Int} {tgt : Nat} (hd : decode M.code pc = .ok (.if_icmp .ne off, 3)) (ht : (pc : Int) + off = (tgt : Int)) (kt : ¬ x = y → zOk l D ad cA M Z tgt ls st σ) (kf : x = y → zOk l D ad cA M Z (pc + 3) ls st σ) : zOk l D ad cA M Z pc ls (.int y :: .int x :: st) σ := by
  intro p e s m args below meth c H locs lsA C hP hS h
  exact lv_icmp_ne C.1 C.2.1 hd ht (fun q => kt q p e s m args below meth c H locs lsA C hP hS h) (fun q => kf q p e s m args below meth c H locs lsA C hP hS h)
theorem zk_if_lt {x : Int32} {off : Int} {tgt : Nat} (hd : decode M.code pc = .ok (.ifCond .lt off, 3)) (ht : (pc : Int) + off = (tgt : Int)) (kt : x < 0 → zOk l D ad cA M Z tgt ls st σ) (kf : ¬ x < 0 → zOk l D ad cA M Z (pc + 3) ls st σ) : zOk l D ad cA M Z pc ls (.int x :: st) σ := by
  intro p e s m args below meth c H locs lsA C hP hS h
  exact lv_if_lt C.1 C.2.1 hd ht (fun q => kt q p e s m args below meth c H locs lsA C hP hS h) (fun q => kf q p e s m args below meth c H locs lsA C hP hS h)
theorem zk_icmp_lt {x y : Int32} {off : Int} {tgt : Nat} (hd : decode M.code pc = .ok (.if_icmp .lt off, 3)) (ht : (pc : Int) + off = (tgt : Int)) (kt : x < y → zOk l D ad cA M Z tgt ls st σ) (kf : ¬ x < y → zOk l D ad cA M Z (pc + 3) ls st σ) : zOk l D ad cA M Z pc ls (.int y :: .int x :: st) σ := by
  intro p e s m args below meth c H locs lsA C hP hS h
  exact lv_icmp_lt C.1 C.2.1 hd ht (fun q => kt q p e s m args below meth c H locs lsA C hP hS h) (fun q => kf q p e s m args below meth c H locs lsA C hP hS h)
theorem zk_if_ge {x : Int32} {off : Int} {tgt : Nat} (hd : decode M.code pc = .ok (.ifCond .ge off, 3)) (ht : (pc : Int) + off = (tgt : Int)) (kt : 0 ≤ x → zOk l D ad cA M Z tgt ls st σ) (kf : ¬ 0 ≤ x → zOk l D ad cA M Z (pc + 3) ls st σ) : zOk l D ad cA M Z pc ls (.int x :: st) σ := by
  intro p e s m args below meth c H locs lsA C hP hS h
  exact lv_if_ge C.1 C.2.1 hd ht (fun q => kt q p e s m args below meth c H locs lsA C hP hS h) (fun q => kf q p e s m args below meth c H locs lsA C hP hS h)
theorem zk_icmp_ge {x y : Int32} {off : Int} {tgt : Nat} (hd : decode M.code pc = .ok (.if_icmp .ge off, 3)) (ht : (pc : Int) + off = (tgt : Int)) (kt : y ≤ x → zOk l D ad cA M Z tgt ls st σ) (kf : ¬ y ≤ x → zOk l D ad cA M Z (pc + 3) ls st σ) : zOk l D ad cA M Z pc ls (.int y :: .int x :: st) σ := by
  intro p e s m args below meth c H locs lsA C hP hS h
  exact lv_icmp_ge C.1 C.2.1 hd ht (fun q => kt q p e s m args below meth c H locs lsA C hP hS h) (fun q => kf q p e s m args below meth c H locs lsA C hP hS h)
theorem zk_if_gt {x : Int32} {off : Int} {tgt : Nat} (hd : decode M.code pc = .ok (.ifCond .gt off, 3)) (ht : (pc : Int) + off = (tgt : Int)) (kt : 0 < x → zOk l D ad cA M Z tgt ls st σ) (kf : ¬ 0 < x → zOk l D ad cA M Z (pc + 3) ls st σ) : zOk l D ad cA M Z pc ls (.int x :: st) σ := by
  intro p e s m args below meth c H locs lsA C hP hS h
  exact lv_if_gt C.1 C.2.1 hd ht (fun q => kt q p e s m args below meth c H locs lsA C hP hS h) (fun q => kf q p e s m args below meth c H locs lsA C hP hS h)
theorem zk_icmp_gt {x y : Int32} {off : Int} {tgt : Nat} (hd : decode M.code pc = .ok (.if_icmp .gt off, 3)) (ht : (pc : Int) + off = (tgt : Int)) (kt : y < x → zOk l D ad cA M Z tgt ls st σ) (kf : ¬ y < x → zOk l D ad cA M Z (pc + 3) ls st σ) : zOk l D ad cA M Z pc ls (.int y :: .int x :: st) σ := by
  intro p e s m args below meth c H locs lsA C hP hS h
  exact lv_icmp_gt C.1 C.2.1 hd ht (fun q => kt q p e s m args below meth c H locs lsA C hP hS h) (fun q => kf q p e s m args below meth c H locs lsA C hP hS h)
theorem zk_if_le {x : Int32} {off : Int} {tgt : Nat} (hd : decode M.code pc = .ok (.ifCond .le off, 3)) (ht : (pc : Int) + off = (tgt : Int)) (kt : x ≤ 0 → zOk l D ad cA M Z tgt ls st σ) (kf : ¬ x ≤ 0 → zOk l D ad cA M Z (pc + 3) ls st σ) : zOk l D ad cA M Z pc ls (.int x :: st) σ := by
  intro p e s m args below meth c H locs lsA C hP hS h
  exact lv_if_le C.1 C.2.1 hd ht (fun q => kt q p e s m args below meth c H locs lsA C hP hS h) (fun q => kf q p e s m args below meth c H locs lsA C hP hS h)
theorem zk_icmp_le {x y : Int32} {off : Int} {tgt : Nat} (hd : decode M.code pc = .ok (.if_icmp .le off, 3)) (ht : (pc : Int) + off = (tgt : Int)) (kt : x ≤ y → zOk l D ad cA M Z tgt ls st σ) (kf : ¬ x ≤ y → zOk l D ad cA M Z (pc + 3) ls st σ) : zOk l D ad cA M Z pc ls (.int y :: .int x :: st) σ := by
  intro p e s m args below meth c H locs lsA C hP hS h
  exact lv_icmp_le C.1 C.2.1 hd ht (fun q => kt q p e s m args below meth c H locs lsA C hP hS h) (fun q => kf q p e s m args below meth c H locs lsA C hP hS h)
theorem zk_goto {off : Int} {tgt : Nat} (hd : decode M.code pc = .ok (.goto off, 3)) (ht : (pc : Int) + off = (tgt : Int)) (kk : zOk l D ad cA M Z tgt ls st σ) : zOk l D ad cA M Z pc ls st σ := by
  intro p e s m args below meth c H locs lsA C hP hS h
  exact lv_goto C.1 C.2.1 hd ht (kk p e s m args below meth c H locs lsA C hP hS h)
theorem zk_tableOut {dflt lo hi : Int} {offs : Array Int} {len : Nat} {x : Int32} {tgt : Nat} (hd : decode M.code pc = .ok (.tableswitch dflt lo hi offs, len)) (hx : x.toInt < lo ∨ hi < x.toInt) (ht : (pc : Int) + dflt = (tgt : Int)) (kk : zOk l D ad cA M Z tgt ls st σ) : zOk l D ad cA M Z pc ls (.int x :: st) σ := by
  intro p e s m args below meth c H locs lsA C hP hS h
  exact lv_tableOut C.1 C.2.1 hd hx ht (kk p e s m args below meth c H locs lsA C hP hS h)
theorem zk_tableIn {dflt lo hi : Int} {offs : Array Int} {len : Nat} {x : Int32} {off : Int} {tgt : Nat} (hd : decode M.code pc = .ok (.tableswitch dflt lo hi offs, len)) (h1 : ¬ x.toInt < lo) (h2 : ¬ hi < x.toInt) (ho : offs[(x.toInt - lo).toNat]? = some off) (ht : (pc : Int) + off = (tgt : Int)) (kk : zOk l D ad cA M Z tgt ls st σ) : zOk l D ad cA M Z pc ls (.int x :: st) σ := by
  intro p e s m args below meth c H locs lsA C hP hS h
  exact lv_tableIn C.1 C.2.1 hd h1 h2 ho ht (kk p e s m args below meth c H locs lsA C hP hS h)
/-! fields -/
theorem zmx {α β : Type} {f : Nat → α → β} {ks : List α} {k : Nat} {a : α} (h : ks[k]? = some a) : (ks.mapIdx f)[k]? = some (f k a) := by
  rw [List.getElem?_mapIdx, h]; rfl
theorem zk_getv {C : String} {T : u_T} {N ci index k i kd : Nat} {ks : List Nat} (hin : ∀ w ∈ u_ws C T N, w ∈ zU) (hc : vwCl[ci]? = some (C, T, N)) (hk : k < N) (hlink : Cond.fieldLink M.own index (T k).1 (T k).2.1 (T k).2.2.1 ∈ zU) (hs : zshp i = (0, ci, ks)) (hi : i < zN) (hkd : ks[k]? = some kd) (hd : decode M.code pc = .ok (.getfield index, 3)) (kk : zOk l D ad cA M Z (pc + 3) ls (zfv σ i kd k :: st) σ) : zOk l D ad cA M Z pc ls (.ref i :: st) σ := by
  intro p e s m args below meth c H locs lsA C hP hS h
  obtain ⟨hx, hb, hml, hr, hown, hts, hlk, hV, hj, hex⟩ := id C
  exact va_get hx hb hts hin hown hV.1 hP i (by rw [zW_get hi, zE_o hs]) hc k hk (hts _ hlink) (fun x q => q) (v := zr ad (zfv σ i kd k)) (zmx (f := fun k kd => zr ad (zfv σ i kd k)) hkd) hd (kk p e s m args below meth c H locs lsA C hP hS h)
theorem zk_getvN {C host : String} {T : u_T} {N ci index k i kd : Nat} {ks : List Nat} (hin : ∀ w ∈ u_ws C T N, w ∈ zU) (hc : vwCl[ci]? = some (C, T, N)) (hk : k < N) (hlink : Cond.fieldLinkNest M.own index (T k).1 (T k).2.1 (T k).2.2.1 host ∈ zNest) (hs : zshp i = (0, ci, ks)) (hi : i < zN) (hkd : ks[k]? = some kd) (hd : decode M.code pc = .ok (.getfield index, 3)) (kk : zOk l D ad cA M Z (pc + 3) ls (zfv σ i kd k :: st) σ) : zOk l D ad cA M Z pc ls (.ref i :: st) σ := by
  intro p e s m args below meth c H locs lsA C hP hS h
  obtain ⟨hx, hb, hml, hr, hown, hts, hlk, hV, hj, hex⟩ := id C
  exact va_getN hx hb hts hin hown hV.1 hP i (by rw [zW_get hi, zE_o hs]) hc k hk (va_Nw.use rfl (hV.2.1 _ hlink)) (fun x q => q) (v := zr ad (zfv σ i kd k)) (zmx (f := fun k kd => zr ad (zfv σ i kd k)) hkd) hd (kk p e s m args below meth c H locs lsA C hP hS h)
theorem zk_putI {C : String} {T : u_T} {N ci index k i kd : Nat} {ks : List Nat} {ty0 : Nat → FieldType} {ty : FieldType} {x : Int32} (hin : ∀ w ∈ u_ws C T N, w ∈ zU) (hty : ∀ k, k < N → parseFieldDescriptor (T k).2.2.1 = some (ty0 k)) (hnm : ∀ a, a < N → ∀ b, b < N → a ≠ b → (T a).2.1 ≠ (T b).2.1) (hc : vwCl[ci]? = some (C, T, N)) (hk : k < N) (hlink : Cond.fieldLink M.own index (T k).1 (T k).2.1 (T k).2.2.1 ∈ zU) (hfin : (T k).2.2.2 = false) (hdt : parseFieldDescriptor (T k).2.2.1 = some ty) (hn : narrow ty (.int x) = .int x) (hft : fits ty (.int x) = true) (hs : zshp i = (0, ci, ks)) (hi : i < zN) (hkd : ks[k]? = some kd) (hk02 : kd = 0 ∨ kd = 2) (hd : decode M.code pc = .ok (.putfield index, 3)) (kk : zOk l D ad cA M Z (pc + 3) ls st (zwI σ i k x)) : zOk l D ad cA M Z pc ls (.int x :: .ref i :: st) σ := by
  intro p e s m args below meth c H locs lsA C hP hS h
  obtain ⟨hx, hb, hml, hr, hown, hts, hlk, hV, hj, hex⟩ := id C
  refine va_put hx hb hts hin ty0 hty hnm hown hV.1 hP (zD hj) hS i (by rw [zW_get hi, zE_o hs]) hc k hk (hts _ hlink) (fun x q => q) hfin hdt hn hft (by simpa using (List.getElem?_eq_some_iff.mp hkd).1) hd (fun H1 locs1 hP1 _ hS1 => ?_)
  have e1 := zW_fI (ad := ad) (cA := cA) (σ := σ) (x := x) hs hkd hk02
  have hP2 : va_P D vwCl (zW ad cA (zwI σ i k x)) H1 := by rw [← e1]; exact hP1
  exact kk p e s m args below meth c H1 locs1 lsA C hP2 hS1 h
theorem zk_putL {C : String} {T : u_T} {N ci index k i : Nat} {ks : List Nat} {ty0 : Nat → FieldType} {x : Int64} (hin : ∀ w ∈ u_ws C T N, w ∈ zU) (hty : ∀ k, k < N → parseFieldDescriptor (T k).2.2.1 = some (ty0 k)) (hnm : ∀ a, a < N → ∀ b, b < N → a ≠ b → (T a).2.1 ≠ (T b).2.1) (hc : vwCl[ci]? = some (C, T, N)) (hk : k < N) (hlink : Cond.fieldLink M.own index (T k).1 (T k).2.1 (T k).2.2.1 ∈ zU) (hfin : (T k).2.2.2 = false) (hdt : parseFieldDescriptor (T k).2.2.1 = some .long) (hs : zshp i = (0, ci, ks)) (hi : i < zN) (hkd : ks[k]? = some 1) (hd : decode M.code pc = .ok (.putfield index, 3)) (kk : zOk l D ad cA M Z (pc + 3) ls st (zwL σ i k x)) : zOk l D ad cA M Z pc ls (.long x :: .ref i :: st) σ := by
  intro p e s m args below meth c H locs lsA C hP hS h
  obtain ⟨hx, hb, hml, hr, hown, hts, hlk, hV, hj, hex⟩ := id C
  refine va_put hx hb hts hin ty0 hty hnm hown hV.1 hP (zD hj) hS i (by rw [zW_get hi, zE_o hs]) hc k hk (hts _ hlink) (fun x q => q) hfin hdt rfl rfl (by simpa using (List.getElem?_eq_some_iff.mp hkd).1) hd (fun H1 locs1 hP1 _ hS1 => ?_)
  have e1 := zW_fL (ad := ad) (cA := cA) (σ := σ) (x := x) hs hkd
  have hP2 : va_P D vwCl (zW ad cA (zwL σ i k x)) H1 := by rw [← e1]; exact hP1
  exact kk p e s m args below meth c H1 locs1 lsA C hP2 hS1 h
/-! arrays -/
def zlen (a : Nat) : Nat := if (zshp a).1 ≤ 2 then (zshp a).2.1 else (zshp a).2.2.length
def zin (i : Int32) (n : Nat) : Bool := decide (0 ≤ i.toInt) && decide (i.toInt < (n : Int))
def zoI (a : Nat) (i : Int32) : Bool := ((zshp a).1 == 1) && zin i (zshp a).2.1
def zoL (a : Nat) (i : Int32) : Bool := ((zshp a).1 == 2) && zin i (zshp a).2.1
def zoR (a : Nat) (i : Int32) : Bool := decide (3 ≤ (zshp a).1 ∧ (zshp a).1 ≤ 5) && zin i (zshp a).2.2.length
def zT (a : Nat) (i : Int32) : Nat := (zshp a).2.2.getD i.toNatClampNeg 0
theorem zin_vp {i : Int32} {n : Nat} (h : zin i n = true) : vp_in i n := by
  simp only [zin, Bool.and_eq_true, decide_eq_true_eq] at h
  exact vp_in_iff.mpr h
theorem zshp_lt {a : Nat} (h : (zshp a).1 < 9) : a < zN := by
  rcases Nat.lt_or_ge a zN with q | q
  · exact q
  · exfalso
    have hl : zshpL.length = zN := by decide +kernel
    unfold zshp at h
    rw [List.getElem?_eq_none (by omega)] at h
    simp at h
theorem zk_iald {a : Nat} {i : Int32} (ho : zoI a i = true) (hd : decode M.code pc = .ok (.iaload, 1)) (kk : zOk l D ad cA M Z (pc + 1) ls (.int (σ.1 a i.toNatClampNeg) :: st) σ) : zOk l D ad cA M Z pc ls (.int i :: .ref a :: st) σ := by
  intro p e s m args below meth c H locs lsA C hP hS h
  obtain ⟨hx, hb, hml, hr, hown, hts, hlk, hV, hj, hex⟩ := id C
  simp only [zoI, Bool.and_eq_true, beq_iff_eq] at ho
  have hs : zshp a = (1, (zshp a).2.1, (zshp a).2.2) := by rw [← ho.1]
  exact va_iald hx hb hV.1 hP a 0 (by rw [zW_get (zshp_lt (by omega)), zE_i hs]) rfl (zin_vp ho.2) hd (kk p e s m args below meth c H locs lsA C hP hS h)
theorem zk_lald {a : Nat} {i : Int32} (ho : zoL a i = true) (hd : decode M.code pc = .ok (.laload, 1)) (kk : zOk l D ad cA M Z (pc + 1) ls (.long (σ.2 a i.toNatClampNeg) :: st) σ) : zOk l D ad cA M Z pc ls (.int i :: .ref a :: st) σ := by
  intro p e s m args below meth c H locs lsA C hP hS h
  obtain ⟨hx, hb, hml, hr, hown, hts, hlk, hV, hj, hex⟩ := id C
  simp only [zoL, Bool.and_eq_true, beq_iff_eq] at ho
  have hs : zshp a = (2, (zshp a).2.1, (zshp a).2.2) := by rw [← ho.1]
  exact va_lald hx hb hV.1 hP a 1 (by rw [zW_get (zshp_lt (by omega)), zE_l hs]) rfl (zin_vp ho.2) hd (kk p e s m args below meth c H locs lsA C hP hS h)
theorem zk_iast {a : Nat} {i x : Int32} (ho : zoI a i = true) (hd : decode M.code pc = .ok (.iastore, 1)) (kk : zOk l D ad cA M Z (pc + 1) ls st (zwI σ a i.toNatClampNeg x)) : zOk l D ad cA M Z pc ls (.int x :: .int i :: .ref a :: st) σ := by
  intro p e s m args below meth c H locs lsA C hP hS h
  obtain ⟨hx, hb, hml, hr, hown, hts, hlk, hV, hj, hex⟩ := id C
  simp only [zoI, Bool.and_eq_true, beq_iff_eq] at ho
  have hs : zshp a = (1, (zshp a).2.1, (zshp a).2.2) := by rw [← ho.1]
  refine va_iast hx hb hV.1 hP (zD hj) hS a 0 (by rw [zW_get (zshp_lt (by omega)), zE_i hs]) rfl (zin_vp ho.2) hd (fun H1 locs1 hP1 _ hS1 => ?_)
  rw [zW_wI hs] at hP1
  exact kk p e s m args below meth c H1 locs1 lsA C hP1 hS1 h
theorem zk_last {a : Nat} {i : Int32} {x : Int64} (ho : zoL a i = true) (hd : decode M.code pc = .ok (.lastore, 1)) (kk : zOk l D ad cA M Z (pc + 1) ls st (zwL σ a i.toNatClampNeg x)) : zOk l D ad cA M Z pc ls (.long x :: .int i :: .ref a :: st) σ := by
  intro p e s m args below meth c H locs lsA C hP hS h
  obtain ⟨hx, hb, hml, hr, hown, hts, hlk, hV, hj, hex⟩ := id C
  simp only [zoL, Bool.and_eq_true, beq_iff_eq] at ho
  have hs : zshp a = (2, (zshp a).2.1, (zshp a).2.2) := by rw [← ho.1]
  refine va_last hx hb hV.1 hP (zD hj) hS a 1 (by rw [zW_get (zshp_lt (by omega)), zE_l hs]) rfl (zin_vp ho.2) hd (fun H1 locs1 hP1 _ hS1 => ?_)
  rw [zW_wL hs] at hP1
  exact kk p e s m args below meth c H1 locs1 lsA C hP1 hS1 h
theorem zk_aald {a : Nat} {i : Int32} (ho : zoR a i = true) (hd : decode M.code pc = .ok (.aaload, 1)) (kk : zOk l D ad cA M Z (pc + 1) ls (.ref (zT a i) :: st) σ) : zOk l D ad cA M Z pc ls (.int i :: .ref a :: st) σ := by
  intro p e s m args below meth c H locs lsA C hP hS h
  obtain ⟨hx, hb, hml, hr, hown, hts, hlk, hV, hj, hex⟩ := id C
  simp only [zoR, Bool.and_eq_true, decide_eq_true_eq] at ho
  obtain ⟨⟨h3, h5⟩, hin⟩ := ho
  obtain ⟨t, ht⟩ : ∃ t, (zshp a).1 = t + 3 := ⟨(zshp a).1 - 3, by omega⟩
  have hs : zshp a = (t + 3, (zshp a).2.1, (zshp a).2.2) := by rw [← ht]
  have hv := zin_vp hin
  have hlt : i.toNatClampNeg < (zshp a).2.2.length := Nat.not_le.mp fun q => hv (Or.inr q)
  obtain ⟨ty, hty, hrf⟩ : ∃ ty, (ztys cA)[t + 2]? = some (cA (t + 2), ty) ∧ ty.isReference = true := by
    have : t = 0 ∨ t = 1 ∨ t = 2 := by omega
    rcases this with rfl | rfl | rfl <;> exact ⟨_, rfl, rfl⟩
  have hcell := hP a _ (by rw [zW_get (zshp_lt (by omega)), zE_r hs])
  have hval : (zshp a).2.2[i.toNatClampNeg]? = some (zT a i) := by
    unfold zT
    rw [List.getD_eq_getElem?_getD, List.getElem?_eq_getElem hlt]; rfl
  refine W.aald (v := .ref (ad (zT a i))) (ty := ty) hx hb hcell ((hV.1.2 (t + 2) _ hty).1 (zshp a).2.2.length (fun j => va_rf (((zshp a).2.2[j]?).map ad))) hrf (fun q => by cases q) ?_ ?_ rfl rfl hd (kk p e s m args below meth c H locs lsA C hP hS h)
  · show ¬ (i < 0 ∨ (arrV _ _ _).slots.size ≤ _)
    rw [arrV_size]; exact hv
  · show (arrV _ _ _).slots[_]? = _
    rw [arrV_read _ _ hlt]
    show some (va_rf (((zshp a).2.2[i.toNatClampNeg]?).map ad)) = _
    rw [hval]
    rfl
theorem zk_alen {a : Nat} {v : Int32} (h1 : 1 ≤ (zshp a).1 ∧ (zshp a).1 ≤ 5) (hv : Int32.ofNat (zlen a) = v) (hd : decode M.code pc = .ok (.arraylength, 1)) (kk : zOk l D ad cA M Z (pc + 1) ls (.int v :: st) σ) : zOk l D ad cA M Z pc ls (.ref a :: st) σ := by
  intro p e s m args below meth c H locs lsA C hP hS h
  obtain ⟨hx, hb, hml, hr, hown, hts, hlk, hV, hj, hex⟩ := id C
  have ha := zW_get (ad := ad) (cA := cA) (σ := σ) (zshp_lt (a := a) (by omega))
  have key := kk p e s m args below meth c H locs lsA C hP hS h
  obtain ⟨t, n, r, hz⟩ : ∃ t n r, zshp a = (t, n, r) := ⟨_, _, _, rfl⟩
  have h2 : 1 ≤ t ∧ t ≤ 5 := by rw [hz] at h1; exact h1
  have hl : zlen a = if t ≤ 2 then n else r.length := by unfold zlen; rw [hz]
  have : t = 1 ∨ t = 2 ∨ t = 0 + 3 ∨ t = 1 + 3 ∨ t = 2 + 3 := by omega
  rcases this with rfl | rfl | rfl | rfl | rfl
  · rw [zE_i hz] at ha
    exact va_alen hx hb hV.1 hP a 0 ha rfl (by rw [← hv, hl]; rfl) hd key
  · rw [zE_l hz] at ha
    exact va_alen hx hb hV.1 hP a 1 ha rfl (by rw [← hv, hl]; rfl) hd key
  · rw [zE_r hz] at ha
    exact va_alen hx hb hV.1 hP a 2 ha rfl (by rw [← hv, hl]; rfl) hd key
  · rw [zE_r hz] at ha
    exact va_alen hx hb hV.1 hP a 3 ha rfl (by rw [← hv, hl]; rfl) hd key
  · rw [zE_r hz] at ha
    exact va_alen hx hb hV.1 hP a 4 ha rfl (by rw [← hv, hl]; rfl) hd key
/-! the class's static array -/
theorem zk_gets {index : Nat} (hlink : Cond.fieldLink M.own index "WonTogether" "FACTORIAL" "[I" ∈ zU) (hd : decode M.code pc = .ok (.getstatic index, 3)) (kk : zOk l D ad cA M Z (pc + 3) ls (.ref zFA :: st) σ) : zOk l D ad cA M Z pc ls st σ := by
  intro p e s m args below meth c H locs lsA C hP hS h
  obtain ⟨hx, hb, hml, hr, hown, hts, hlk, hV, hj, hex⟩ := id C
  exact va_gets hx hb hV.2.2.2 hS hown (hts _ hlink) (fun x q => q) hd (kk p e s m args below meth c H locs lsA C hP hS h)
theorem zk_ialdF {i : Int32} (ho : zin i 8 = true) (hd : decode M.code pc = .ok (.iaload, 1)) (kk : zOk l D ad cA M Z (pc + 1) ls (.int (zFactI i.toNatClampNeg) :: st) σ) : zOk l D ad cA M Z pc ls (.int i :: .ref zFA :: st) σ := by
  intro p e s m args below meth c H locs lsA C hP hS h
  obtain ⟨hx, hb, hml, hr, hown, hts, hlk, hV, hj, hex⟩ := id C
  exact va_ti hx hb hV.2.2.1 hS (zin_vp ho) rfl hd (kk p e s m args below meth c H locs lsA C hP hS h)
theorem zk_alenF (hd : decode M.code pc = .ok (.arraylength, 1)) (kk : zOk l D ad cA M Z (pc + 1) ls (.int 8 :: st) σ) : zOk l D ad cA M Z pc ls (.ref zFA :: st) σ := by
  intro p e s m args below meth c H locs lsA C hP hS h
  obtain ⟨hx, hb, hml, hr, hown, hts, hlk, hV, hj, hex⟩ := id C
  exact va_tlen hx hb hV.2.2.1 hS rfl hd (kk p e s m args below meth c H locs lsA C hP hS h)
theorem zk_getI {C : String} {T : u_T} {N ci index k i kd : Nat} {ks : List Nat} (hin : ∀ w ∈ u_ws C T N, w ∈ zU) (hc : vwCl[ci]? = some (C, T, N)) (hk : k < N) (hlink : Cond.fieldLink M.own index (T k).1 (T k).2.1 (T k).2.2.1 ∈ zU) (hs : zshp i = (0, ci, ks)) (hi : i < zN) (hkd : ks[k]? = some kd) (h02 : kd = 0 ∨ kd = 2) (hd : decode M.code pc = .ok (.getfield index, 3)) (kk : zOk l D ad cA M Z (pc + 3) ls (.int (σ.1 i k) :: st) σ) : zOk l D ad cA M Z pc ls (.ref i :: st) σ := by
  refine zk_getv hin hc hk hlink hs hi hkd hd ?_
  rcases h02 with rfl | rfl <;> exact kk
theorem zk_getL {C : String} {T : u_T} {N ci index k i : Nat} {ks : List Nat} (hin : ∀ w ∈ u_ws C T N, w ∈ zU) (hc : vwCl[ci]? = some (C, T, N)) (hk : k < N) (hlink : Cond.fieldLink M.own index (T k).1 (T k).2.1 (T k).2.2.1 ∈ zU) (hs : zshp i = (0, ci, ks)) (hi : i < zN) (hkd : ks[k]? = some 1) (hd : decode M.code pc = .ok (.getfield index, 3)) (kk : zOk l D ad cA M Z (pc + 3) ls (.long (σ.2 i k) :: st) σ) : zOk l D ad cA M Z pc ls (.ref i :: st) σ :=
  zk_getv hin hc hk hlink hs hi hkd hd kk
theorem zk_getR {C : String} {T : u_T} {N ci index k i n : Nat} {ks : List Nat} (hin : ∀ w ∈ u_ws C T N, w ∈ zU) (hc : vwCl[ci]? = some (C, T, N)) (hk : k < N) (hlink : Cond.fieldLink M.own index (T k).1 (T k).2.1 (T k).2.2.1 ∈ zU) (hs : zshp i = (0, ci, ks)) (hi : i < zN) (hkd : ks[k]? = some (n + 3)) (hd : decode M.code pc = .ok (.getfield index, 3)) (kk : zOk l D ad cA M Z (pc + 3) ls (.ref n :: st) σ) : zOk l D ad cA M Z pc ls (.ref i :: st) σ :=
  zk_getv hin hc hk hlink hs hi hkd hd kk
theorem zk_getIN {C host : String} {T : u_T} {N ci index k i kd : Nat} {ks : List Nat} (hin : ∀ w ∈ u_ws C T N, w ∈ zU) (hc : vwCl[ci]? = some (C, T, N)) (hk : k < N) (hlink : Cond.fieldLinkNest M.own index (T k).1 (T k).2.1 (T k).2.2.1 host ∈ zNest) (hs : zshp i = (0, ci, ks)) (hi : i < zN) (hkd : ks[k]? = some kd) (h02 : kd = 0 ∨ kd = 2) (hd : decode M.code pc = .ok (.getfield index, 3)) (kk : zOk l D ad cA M Z (pc + 3) ls (.int (σ.1 i k) :: st) σ) : zOk l D ad cA M Z pc ls (.ref i :: st) σ := by
  refine zk_getvN hin hc hk hlink hs hi hkd hd ?_
  rcases h02 with rfl | rfl <;> exact kk
theorem zk_getLN {C host : String} {T : u_T} {N ci index k i : Nat} {ks : List Nat} (hin : ∀ w ∈ u_ws C T N, w ∈ zU) (hc : vwCl[ci]? = some (C, T, N)) (hk : k < N) (hlink : Cond.fieldLinkNest M.own index (T k).1 (T k).2.1 (T k).2.2.1 host ∈ zNest) (hs : zshp i = (0, ci, ks)) (hi : i < zN) (hkd : ks[k]? = some 1) (hd : decode M.code pc = .ok (.getfield index, 3)) (kk : zOk l D ad cA M Z (pc + 3) ls (.long (σ.2 i k) :: st) σ) : zOk l D ad cA M Z pc ls (.ref i :: st) σ :=
  zk_getvN hin hc hk hlink hs hi hkd hd kk
theorem zk_getRN {C host : String} {T : u_T} {N ci index k i n : Nat} {ks : List Nat} (hin : ∀ w ∈ u_ws C T N, w ∈ zU) (hc : vwCl[ci]? = some (C, T, N)) (hk : k < N) (hlink : Cond.fieldLinkNest M.own index (T k).1 (T k).2.1 (T k).2.2.1 host ∈ zNest) (hs : zshp i = (0, ci, ks)) (hi : i < zN) (hkd : ks[k]? = some (n + 3)) (hd : decode M.code pc = .ok (.getfield index, 3)) (kk : zOk l D ad cA M Z (pc + 3) ls (.ref n :: st) σ) : zOk l D ad cA M Z pc ls (.ref i :: st) σ :=
  zk_getvN hin hc hk hlink hs hi hkd hd kk
/-! contracts, calls, ends -/
/-- a method: name, code, locals, answer's type, frames and words that it and its callees take -/
abbrev zJ : Type := MethodName × ByteArray × Nat × Option FieldType × Nat × Nat
abbrev zJr (j : zJ) : Room := { frames := j.2.2.2.2.1, cells := 0, slots := 0, locals := j.2.2.2.2.2 }
abbrev zJw (j : zJ) : List Cond := Cond.code j.1 j.2.1 j.2.2.1 j.2.2.2.1 :: zU
abbrev zJm (j : zJ) : zM := (j.2.1, j.2.2.1, j.2.2.2.1, j.1.cls, zJr j, 0, 0, fun _ _ => True)
def zPc (D : va_G) (ad : Nat → Nat) (cA : Nat → ClassId) (args : List Value) (σ : zS) : Array Value → State → Prop := fun a U => a = (args.map (zr ad)).toArray ∧ va_P D vwCl (zW ad cA σ) U.heap ∧ zV D ad cA U U.heap
def zQc (D : va_G) (ad : Nat → Nat) (cA : Nat → ClassId) (v : Option Value) (σ : zS) : Array Value → State → Outcome → State → Prop := fun _ st oc t => (oc = .returned (v.map (zr ad)) ∧ va_P D vwCl (zW ad cA σ) t.heap) ∧ va_F (zA ad) st t
def zMet (l : Launch) (D : va_G) (ad : Nat → Nat) (cA : Nat → ClassId) (j : zJ) (args : List Value) (σ : zS) (v : Option Value) (σ1 : zS) : Prop :=
  Met l j.1 (zJw j) (zJr j) (zPc D ad cA args σ) (zQc D ad cA v σ1) 0 0 (zA ad)
/-- a method's goal: its end with the answer v and the state σ1 -/
def zEnd (D : va_G) (ad : Nat → Nat) (cA : Nat → ClassId) (v : Option Value) (σ1 : zS) : zZ := fun below args s => MQ below (zQc D ad cA v σ1) args s 0 0 (zA ad)
theorem zV.moved {u U : State} {H : Heap} (hvm : u.vm.Alike U.vm) (hn : ∀ w ∈ zNest, va_Nw w u → va_Nw w U) (h : zV D ad cA u H) : zV D ad cA U H :=
  ⟨va_K.moved hvm h.1, fun w hw => hn w hw (h.2.1 w hw), va_T.moved hvm h.2.2.1, va_Z.moved hvm h.2.2.2⟩
theorem zV.kept {U : State} {H H1 : Heap} (h : zV D ad cA U H) (hq : ∀ a : Nat, a < H.size → ¬ zA ad a → H1[a]? = H[a]?) : zV D ad cA U H1 :=
  ⟨h.1, h.2.1, h.2.2.1.kept hq, h.2.2.2.kept hq⟩
theorem zNest_warm {s U : State} (hW : s.WarmedH U.vm) : ∀ w ∈ zNest, va_Nw w s → va_Nw w U := by
  have key : zNest.all (fun w => match w with | .fieldLinkNest .. => true | .methodLinkNest .. => true | _ => false) = true := by decide +kernel
  intro w hw h
  have := List.all_eq_true.mp key w hw
  cases w <;> first | exact va_Nw.warmF hW h | exact va_Nw.warmM hW h | (simp at this; done)
theorem zNest_call {U : State} {g : JFrame} {mk : MethodId} {a : Array Value} : ∀ w ∈ zNest, va_Nw w U → va_Nw w (U.calling g mk a) := by
  have key : zNest.all (fun w => match w with | .fieldLinkNest .. => true | .methodLinkNest .. => true | _ => false) = true := by decide +kernel
  intro w hw h
  have := List.all_eq_true.mp key w hw
  cases w <;> first | exact va_tabs (A := #[]) (A' := #[]) rfl (show U.vm = (U.calling g mk a).vm from rfl) h | (simp at this; done)
theorem zMet_of (j : zJ) {As : List Value} {v : Option Value} {σ1 : zS} (ls0 : List (Option Value)) (hy : plainName j.1.cls = true) (hlen : (lg_sl (As.map (zr ad))).length ≤ j.2.2.1) (hls : zent As ++ List.replicate (j.2.2.1 - (zent As).length) none = ls0) (hj : zInj ad) (k : zOk l D ad cA (zJm j) (zEnd D ad cA v σ1) 0 ls0 [] σ) : zMet l D ad cA j As σ v σ1 := by
  refine Met.ofW (cc := j.2.1) (maxL := j.2.2.1) (ret := j.2.2.2.1) hy rfl ?_
  intro p e s m args below meth c s₁ B hml hv
  obtain ⟨rfl, hP, hV⟩ := hv
  have hts := atoms_spec (ws := zJw j) B.pre
  have hl := lv_entry (As.map (zr ad)) hlen
  rw [lg_entry_eq]
  refine k p e s m _ below meth c s.heap [] _ ⟨B.exec, B.bytes, hml, B.returns, findClass_of_methodNamed B.named, fun w hw => hts w (List.mem_cons_of_mem _ hw), B.notSynchronized, hV, hj, trivial⟩ hP va_S.rf (zhas_mono hl fun q hq => ?_)
  rw [← hls, zls_none] at hq
  exact zent_sub As 0 q hq
theorem zk_iret {x : Int32} (hr : M.ret = some .int) (hc : M.cells = 0 ∧ M.slots = 0) (hd : decode M.code pc = .ok (.ireturn, 1)) : zOk l D ad cA M (zEnd D ad cA (some (.int x)) σ) pc ls [.int x] σ := by
  intro p e s m args below meth c H locs lsA C hP hS h
  have hlk : meth.locks = false := C.2.2.2.2.2.2.1
  rw [hc.1, hc.2]
  exact W.iret C.1 C.2.1 (C.2.2.2.1.trans hr) (fun t ht hW => ⟨⟨rfl, by rw [ht]; exact hP⟩, hS.F ht⟩) hS.2.2 hd
theorem zk_zret {x : Int32} (hr : M.ret = some .boolean) (hx : x = 0 ∨ x = 1) (hc : M.cells = 0 ∧ M.slots = 0) (hd : decode M.code pc = .ok (.ireturn, 1)) : zOk l D ad cA M (zEnd D ad cA (some (.int x)) σ) pc ls [.int x] σ := by
  intro p e s m args below meth c H locs lsA C hP hS h
  have hlk : meth.locks = false := C.2.2.2.2.2.2.1
  rw [hc.1, hc.2]
  exact W.zret C.1 C.2.1 (C.2.2.2.1.trans hr) (by rcases hx with rfl | rfl <;> rfl) (fun t ht hW => ⟨⟨rfl, by rw [ht]; exact hP⟩, hS.F ht⟩) hS.2.2 hd
theorem zk_lret {x : Int64} (hr : M.ret = some .long) (hc : M.cells = 0 ∧ M.slots = 0) (hd : decode M.code pc = .ok (.lreturn, 1)) : zOk l D ad cA M (zEnd D ad cA (some (.long x)) σ) pc ls [.long x] σ := by
  intro p e s m args below meth c H locs lsA C hP hS h
  have hlk : meth.locks = false := C.2.2.2.2.2.2.1
  rw [hc.1, hc.2]
  exact W.lret C.1 C.2.1 (C.2.2.2.1.trans hr) (fun t ht hW => ⟨⟨rfl, by rw [ht]; exact hP⟩, hS.F ht⟩) hS.2.2 hd
theorem zk_vret (hr : M.ret = none) (hc : M.cells = 0 ∧ M.slots = 0) (hd : decode M.code pc = .ok (.return_, 1)) : zOk l D ad cA M (zEnd D ad cA none σ) pc ls [] σ := by
  intro p e s m args below meth c H locs lsA C hP hS h
  have hlk : meth.locks = false := C.2.2.2.2.2.2.1
  rw [hc.1, hc.2]
  exact W.vret C.1 C.2.1 (C.2.2.2.1.trans hr) (fun t ht hW => ⟨⟨rfl, by rw [ht]; exact hP⟩, hS.F ht⟩) hS.2.2 hd
theorem zPc_blind {As : List Value} {σ : zS} : FrameBlind (zPc D ad cA As σ) := fun a U g mk q =>
  ⟨q.1, q.2.1, zV.moved (u := U) (U := U.calling g mk a) (Vm.Alike.refl U.vm) zNest_call q.2.2⟩
theorem zPc_now {p : Program} {s : State} {m : MethodId} {args : Array Value} {meth : Method} {c : Code} {H : Heap} {locs : List Loc} {As : List Value} (C : zC D ad cA M p s m args meth c) (hP : va_P D vwCl (zW ad cA σ) H) (hS : va_S (zA ad) s.heap H locs) : ∀ U : State, U.heap = H → s.WarmedH U.vm → zPc D ad cA As σ (As.map (zr ad)).toArray U := by
  intro U hU hW
  have hV : zV D ad cA s s.heap := C.2.2.2.2.2.2.2.1
  refine ⟨rfl, by rw [hU]; exact hP, ?_⟩
  rw [hU]
  exact zV.kept (zV.moved hW.alike (zNest_warm hW) hV) hS.2.1
/-- behind a call -/
theorem zk_after {p : Program} {e : Env} {s : State} {m : MethodId} {args : Array Value} {below : List Frame} {meth : Method} {c : Code} {H : Heap} {locs : List Loc} {lsA : Array Slot} {stA : List Value} {v : Option Value} {σ1 : zS} {ar : Array Value}
    (hr : va_Run p l e M.room s m args below meth c H locs M.cells M.slots 0 0 (F0 m pc lsA stA) (st.map (zr ad)) (zQc D ad cA v σ1 ar) (zA ad)) (C : zC D ad cA M p s m args meth c) (hS : va_S (zA ad) s.heap H locs) (h : lv_has lsA M.maxL (zls ad 0 ls)) (kk : zOk l D ad cA M Z (pc + 3) ls (v.toList ++ st) σ1) :
    W p l e M.room s m args below meth c H locs M.cells M.slots (Z below args s) (F0 m pc lsA stA) := by
  intro T hT X
  obtain ⟨v1, st₀, t, T', L, h0, X', hL, e1, e2, ⟨⟨hv, hP1⟩, hz, hk⟩, stp⟩ := hr T hT X
  have hv1 : v1 = v.map (zr ad) := by injection hv
  subst hv1
  rw [h0] at hz hk
  have key := kk p e s m args below meth c T'.heap (locs ++ L) lsA C (by rw [e1]; exact hP1)
    ⟨Nat.le_trans hS.1 (by rw [e1]; exact hz), fun q h1 h2 => by rw [e1, hk q (Nat.lt_of_lt_of_le h1 hS.1) h2]; exact hS.2.1 q h1 h2, fun q hq => by
      rcases List.mem_append.mp hq with h | h
      · exact hS.2.2 q h
      · exact hL q h⟩ h
  obtain ⟨t2, a1, b1⟩ := key T' rfl X'
  refine ⟨t2, stp t2 ?_, b1⟩
  have e3 : (v.map (zr ad)).toList ++ st.map (zr ad) = (v.toList ++ st).map (zr ad) := by cases v <;> simp
  rw [e3]
  exact a1
theorem zk_callS (j : zJ) {index n : Nat} {As st0 : List Value} {v : Option Value} {σ1 : zS} (hM : zMet l D ad cA j As σ v σ1) (hw : ∀ w ∈ [Cond.methodLink M.own index j.1, .static j.1, .initialized j.1.cls, .code j.1 j.2.1 j.2.2.1 j.2.2.2.1], w ∈ zU) (hn : j.1.cls ≠ "java/lang/invoke/MethodHandle" ∧ j.1.cls ≠ "java/lang/invoke/VarHandle" ∧ (parseMethodDescriptor j.1.desc).map (fun d => d.parameters.length) = some n) (hlen : As.length = n) (hR : (zJr j).frames + 1 ≤ M.room.frames ∧ 8 + (j.2.2.1 + 11) + (zJr j).locals ≤ M.room.locals) (hc : M.cells ≤ M.room.cells ∧ M.slots ≤ M.room.slots) (hst : st0 = As.reverse ++ st) (hcat : (st.map fun v => v.category).sum ≤ 8) (hd : decode M.code pc = .ok (.invokestatic index, 3)) (kk : zOk l D ad cA M Z (pc + 3) ls (v.toList ++ st) σ1) : zOk l D ad cA M Z pc ls st0 σ := by
  intro p e s m args below meth c H locs lsA C hP hS h
  obtain ⟨hx, hb, hml, hr, hown, hts, hlk, hV, hj, hex⟩ := id C
  subst hst
  refine zk_after (ls := ls) (ar := (As.map (zr ad)).toArray) (va_runS (As := As.map (zr ad)) (rest := st.map (zr ad)) (ws := zJw j) (rm := zJr j) ⟨hx, hb, hml, hown, hts⟩ hM (va_cwS n hts (zgU (fun w hw1 => ?_)) rfl rfl rfl hn hR) ⟨zPc_blind, zPc_now C hP hS⟩ rfl (by rw [List.length_map]; exact hlen) h.1 (by simp [List.map_append, List.map_reverse]) ?_ hd ⟨by simpa using hc.1, by simpa using hc.2⟩) C hS h kk
  · rcases List.mem_append.mp hw1 with h1 | h1
    · refine hw w ?_
      simp only [List.mem_cons, List.not_mem_nil, or_false] at h1 ⊢
      rcases h1 with h1 | h1 | h1
      · exact Or.inl h1
      · exact Or.inr (Or.inl h1)
      · exact Or.inr (Or.inr (Or.inl h1))
    · rcases List.mem_cons.mp h1 with h1 | h1
      · exact hw w (by rw [h1]; simp)
      · exact h1
  · show 2 * 0 + _ ≤ 8
    rw [List.map_map, Nat.mul_zero, Nat.zero_add]
    have : ((fun v : Value => v.category) ∘ zr ad) = (fun v => v.category) := funext fun v => zr_cat ad v
    rw [this]
    exact hcat
theorem zk_callSN (j : zJ) {host : String} {index n : Nat} {As st0 : List Value} {v : Option Value} {σ1 : zS} (hM : zMet l D ad cA j As σ v σ1) (hl : Cond.methodLinkNest M.own index j.1 host ∈ zNest) (hw : ∀ w ∈ [Cond.static j.1, .initialized j.1.cls, .code j.1 j.2.1 j.2.2.1 j.2.2.2.1], w ∈ zU) (hn : j.1.cls ≠ "java/lang/invoke/MethodHandle" ∧ j.1.cls ≠ "java/lang/invoke/VarHandle" ∧ (parseMethodDescriptor j.1.desc).map (fun d => d.parameters.length) = some n) (hlen : As.length = n) (hR : (zJr j).frames + 1 ≤ M.room.frames ∧ 8 + (j.2.2.1 + 11) + (zJr j).locals ≤ M.room.locals) (hc : M.cells ≤ M.room.cells ∧ M.slots ≤ M.room.slots) (hst : st0 = As.reverse ++ st) (hcat : (st.map fun v => v.category).sum ≤ 8) (hd : decode M.code pc = .ok (.invokestatic index, 3)) (kk : zOk l D ad cA M Z (pc + 3) ls (v.toList ++ st) σ1) : zOk l D ad cA M Z pc ls st0 σ := by
  intro p e s m args below meth c H locs lsA C hP hS h
  obtain ⟨hx, hb, hml, hr, hown, hts, hlk, hV, hj, hex⟩ := id C
  subst hst
  refine zk_after (ls := ls) (ar := (As.map (zr ad)).toArray) (va_runSN (As := As.map (zr ad)) (rest := st.map (zr ad)) (ws := zJw j) (rm := zJr j) ⟨hx, hb, hml, hown, hts⟩ hM ⟨va_cnB n hts (zgU (fun w hw1 => ?_)) rfl rfl rfl (hV.2.1 _ hl) (hts _ (hw _ (by simp))) hn hR, hts _ (hw _ (by simp)), trivial⟩ ⟨zPc_blind, zPc_now C hP hS⟩ rfl (by rw [List.length_map]; exact hlen) h.1 (by simp [List.map_append, List.map_reverse]) ?_ hd ⟨by simpa using hc.1, by simpa using hc.2⟩) C hS h kk
  · rcases List.mem_cons.mp hw1 with h1 | h1
    · exact hw w (by rw [h1]; simp)
    · exact h1
  · show 2 * 0 + _ ≤ 8
    rw [List.map_map, Nat.mul_zero, Nat.zero_add]
    have : ((fun v : Value => v.category) ∘ zr ad) = (fun v => v.category) := funext fun v => zr_cat ad v
    rw [this]
    exact hcat
/-- an object's class is the receiver's -/
theorem zk_recv {p : Program} {s : State} {m : MethodId} {args : Array Value} {meth : Method} {c : Code} {H : Heap} {C : String} {T : u_T} {N ci i : Nat} {ks : List Nat} (Cx : zC D ad cA M p s m args meth c) (hP : va_P D vwCl (zW ad cA σ) H) (hc : vwCl[ci]? = some (C, T, N)) (hs : zshp i = (0, ci, ks)) (hi : i < zN) : ∃ cell : Cell, H[ad i]? = some cell ∧ cell.vm.isStatics = false ∧ s.vm.findClass C = some cell.cls :=
  va_recv (q := (C, T, N)) (q0 := i) (ci := ci) Cx.2.2.2.2.2.2.2.1.1 hP hc (by rw [zW_get hi, zE_o hs])
theorem zk_callV (j : zJ) {T : u_T} {N ci i : Nat} {ks : List Nat} {index n : Nat} {As st0 : List Value} {v : Option Value} {σ1 : zS} (hM : zMet l D ad cA j (.ref i :: As) σ v σ1) (hcl : vwCl[ci]? = some (j.1.cls, T, N)) (hs : zshp i = (0, ci, ks)) (hi : i < zN) (hw : ∀ w ∈ [Cond.methodLink M.own index j.1, .instanceMethod j.1, .selects j.1.cls j.1 j.1, .initialized j.1.cls, .code j.1 j.2.1 j.2.2.1 j.2.2.2.1], w ∈ zU) (hn : j.1.cls ≠ "java/lang/invoke/MethodHandle" ∧ j.1.cls ≠ "java/lang/invoke/VarHandle" ∧ (parseMethodDescriptor j.1.desc).map (fun d => d.parameters.length) = some n) (hlen : As.length = n) (hR : (zJr j).frames + 1 ≤ M.room.frames ∧ 8 + (j.2.2.1 + 11) + (zJr j).locals ≤ M.room.locals) (hc : M.cells ≤ M.room.cells ∧ M.slots ≤ M.room.slots) (hst : st0 = As.reverse ++ .ref i :: st) (hcat : (st.map fun v => v.category).sum ≤ 8) (hd : decode M.code pc = .ok (.invokevirtual index, 3)) (kk : zOk l D ad cA M Z (pc + 3) ls (v.toList ++ st) σ1) : zOk l D ad cA M Z pc ls st0 σ := by
  intro p e s m args below meth c H locs lsA C hP hS h
  obtain ⟨hx, hb, hml, hr, hown, hts, hlk, hV, hj, hex⟩ := id C
  subst hst
  refine zk_after (ls := ls) (ar := ((Value.ref i :: As).map (zr ad)).toArray) (va_runV (C := j.1.cls) (b := ad i) (As := As.map (zr ad)) (rest := st.map (zr ad)) (ws := zJw j) (rm := zJr j) ⟨hx, hb, hml, hown, hts⟩ hM (cwV n hts (zgU (fun w hw1 => ?_)) rfl rfl rfl ⟨rfl, hn⟩ hR) ⟨zPc_blind, zk_recv C hP hcl hs hi, zPc_now (As := .ref i :: As) C hP hS⟩ rfl (by rw [List.length_map]; exact hlen) h.1 (by simp [List.map_append, List.map_reverse, zr]) ?_ hd ⟨by simpa using hc.1, by simpa using hc.2⟩) C hS h kk
  · rcases List.mem_append.mp hw1 with h1 | h1
    · refine hw w ?_
      simp only [List.mem_cons, List.not_mem_nil, or_false] at h1 ⊢
      rcases h1 with h1 | h1 | h1 | h1
      · exact Or.inl h1
      · exact Or.inr (Or.inl h1)
      · exact Or.inr (Or.inr (Or.inl h1))
      · exact Or.inr (Or.inr (Or.inr (Or.inl h1)))
    · rcases List.mem_cons.mp h1 with h1 | h1
      · exact hw w (by rw [h1]; simp)
      · exact h1
  · show 2 * 0 + _ ≤ 8
    rw [List.map_map, Nat.mul_zero, Nat.zero_add]
    have : ((fun v : Value => v.category) ∘ zr ad) = (fun v => v.category) := funext fun v => zr_cat ad v
    rw [this]
    exact hcat
theorem zk_callVN (j : zJ) {host : String} {T : u_T} {N ci i : Nat} {ks : List Nat} {index n : Nat} {As st0 : List Value} {v : Option Value} {σ1 : zS} (hM : zMet l D ad cA j (.ref i :: As) σ v σ1) (hl : Cond.methodLinkNest M.own index j.1 host ∈ zNest) (hcl : vwCl[ci]? = some (j.1.cls, T, N)) (hs : zshp i = (0, ci, ks)) (hi : i < zN) (hw : ∀ w ∈ [Cond.instanceMethod j.1, .selects j.1.cls j.1 j.1, .initialized j.1.cls, .code j.1 j.2.1 j.2.2.1 j.2.2.2.1], w ∈ zU) (hn : j.1.cls ≠ "java/lang/invoke/MethodHandle" ∧ j.1.cls ≠ "java/lang/invoke/VarHandle" ∧ (parseMethodDescriptor j.1.desc).map (fun d => d.parameters.length) = some n) (hlen : As.length = n) (hR : (zJr j).frames + 1 ≤ M.room.frames ∧ 8 + (j.2.2.1 + 11) + (zJr j).locals ≤ M.room.locals) (hc : M.cells ≤ M.room.cells ∧ M.slots ≤ M.room.slots) (hst : st0 = As.reverse ++ .ref i :: st) (hcat : (st.map fun v => v.category).sum ≤ 8) (hd : decode M.code pc = .ok (.invokevirtual index, 3)) (kk : zOk l D ad cA M Z (pc + 3) ls (v.toList ++ st) σ1) : zOk l D ad cA M Z pc ls st0 σ := by
  intro p e s m args below meth c H locs lsA C hP hS h
  obtain ⟨hx, hb, hml, hr, hown, hts, hlk, hV, hj, hex⟩ := id C
  subst hst
  refine zk_after (ls := ls) (ar := ((Value.ref i :: As).map (zr ad)).toArray) (va_runVN (C := j.1.cls) (b := ad i) (As := As.map (zr ad)) (rest := st.map (zr ad)) (ws := zJw j) (rm := zJr j) ⟨hx, hb, hml, hown, hts⟩ hM ⟨va_cnB n hts (zgU (fun w hw1 => ?_)) rfl rfl rfl (hV.2.1 _ hl) (hts _ (hw _ (by simp))) hn hR, hts _ (hw _ (by simp)), hts _ (hw _ (by simp))⟩ ⟨zPc_blind, zk_recv C hP hcl hs hi, zPc_now (As := .ref i :: As) C hP hS⟩ rfl (by rw [List.length_map]; exact hlen) h.1 (by simp [List.map_append, List.map_reverse, zr]) ?_ hd ⟨by simpa using hc.1, by simpa using hc.2⟩) C hS h kk
  · rcases List.mem_cons.mp hw1 with h1 | h1
    · exact hw w (by rw [h1]; simp)
    · exact h1
  · show 2 * 0 + _ ≤ 8
    rw [List.map_map, Nat.mul_zero, Nat.zero_add]
    have : ((fun v : Value => v.category) ∘ zr ad) = (fun v => v.category) := funext fun v => zr_cat ad v
    rw [this]
    exact hcat
end ZK
