/-! the code of each method -/
set_option maxRecDepth 100000 in
theorem bc_X0_isKind : ab_cd m_X0_isKind = .code yX0_isKind cX0_isKind 1 (some .boolean) := by rfl
theorem bB_X0_isKind : ab_B m_X0_isKind = cX0_isKind := by unfold ab_B; rw [if_neg (by decide), bc_X0_isKind]; rfl
set_option maxRecDepth 100000 in
theorem bc_X0_isUnder : ab_cd m_X0_isUnder = .code yX0_isUnder cX0_isUnder 2 (some .boolean) := by rfl
theorem bB_X0_isUnder : ab_B m_X0_isUnder = cX0_isUnder := by unfold ab_B; rw [if_neg (by decide), bc_X0_isUnder]; rfl
set_option maxRecDepth 100000 in
theorem bc_X0_worth : ab_cd m_X0_worth = .code yX0_worth cX0_worth 4 (some .int) := by rfl
theorem bB_X0_worth : ab_B m_X0_worth = cX0_worth := by unfold ab_B; rw [if_neg (by decide), bc_X0_worth]; rfl
set_option maxRecDepth 100000 in
theorem bc_X1_namesOf : ab_cd m_X1_namesOf = .code yX1_namesOf cX1_namesOf 1 (some (.object "java/lang/String")) := by rfl
theorem bB_X1_namesOf : ab_B m_X1_namesOf = cX1_namesOf := by unfold ab_B; rw [if_neg (by decide), bc_X1_namesOf]; rfl
set_option maxRecDepth 100000 in
theorem bc_X1_wordOf : ab_cd m_X1_wordOf = .code yX1_wordOf cX1_wordOf 1 (some (.object "java/lang/String")) := by rfl
theorem bB_X1_wordOf : ab_B m_X1_wordOf = cX1_wordOf := by unfold ab_B; rw [if_neg (by decide), bc_X1_wordOf]; rfl
set_option maxRecDepth 100000 in
theorem bc_X1_write : ab_cd m_X1_write = .code yX1_write cX1_write 3 none := by rfl
theorem bB_X1_write : ab_B m_X1_write = cX1_write := by unfold ab_B; rw [if_neg (by decide), bc_X1_write]; rfl
set_option maxRecDepth 100000 in
theorem bc_X1_name : ab_cd m_X1_name = .code yX1_name cX1_name 5 none := by rfl
theorem bB_X1_name : ab_B m_X1_name = cX1_name := by unfold ab_B; rw [if_neg (by decide), bc_X1_name]; rfl
set_option maxRecDepth 100000 in
theorem bc_X1_value : ab_cd m_X1_value = .code yX1_value cX1_value 6 (some .int) := by rfl
theorem bB_X1_value : ab_B m_X1_value = cX1_value := by unfold ab_B; rw [if_neg (by decide), bc_X1_value]; rfl
set_option maxRecDepth 100000 in
theorem bc_X1_leaf : ab_cd m_X1_leaf = .code yX1_leaf cX1_leaf 3 (some .int) := by rfl
theorem bB_X1_leaf : ab_B m_X1_leaf = cX1_leaf := by unfold ab_B; rw [if_neg (by decide), bc_X1_leaf]; rfl
set_option maxRecDepth 100000 in
theorem bc_X1_join : ab_cd m_X1_join = .code yX1_join cX1_join 3 (some .int) := by rfl
theorem bB_X1_join : ab_B m_X1_join = cX1_join := by unfold ab_B; rw [if_neg (by decide), bc_X1_join]; rfl
set_option maxRecDepth 100000 in
theorem bc_X2_isCorner : ab_cd m_X2_isCorner = .code yX2_isCorner cX2_isCorner 1 (some .boolean) := by rfl
theorem bB_X2_isCorner : ab_B m_X2_isCorner = cX2_isCorner := by unfold ab_B; rw [if_neg (by decide), bc_X2_isCorner]; rfl
set_option maxRecDepth 100000 in
theorem bc_X2_held : ab_cd m_X2_held = .code yX2_held cX2_held 1 (some .int) := by rfl
theorem bB_X2_held : ab_B m_X2_held = cX2_held := by unfold ab_B; rw [if_neg (by decide), bc_X2_held]; rfl
set_option maxRecDepth 100000 in
theorem bc_X2_become : ab_cd m_X2_become = .code yX2_become cX2_become 2 none := by rfl
theorem bB_X2_become : ab_B m_X2_become = cX2_become := by unfold ab_B; rw [if_neg (by decide), bc_X2_become]; rfl
set_option maxRecDepth 100000 in
theorem bc_X2_has : ab_cd m_X2_has = .code yX2_has cX2_has 2 (some .boolean) := by rfl
theorem bB_X2_has : ab_B m_X2_has = cX2_has := by unfold ab_B; rw [if_neg (by decide), bc_X2_has]; rfl
set_option maxRecDepth 100000 in
theorem bc_X2_isFull : ab_cd m_X2_isFull = .code yX2_isFull cX2_isFull 1 (some .boolean) := by rfl
theorem bB_X2_isFull : ab_B m_X2_isFull = cX2_isFull := by unfold ab_B; rw [if_neg (by decide), bc_X2_isFull]; rfl
set_option maxRecDepth 100000 in
theorem bc_X2_isBuried : ab_cd m_X2_isBuried = .code yX2_isBuried cX2_isBuried 2 (some .boolean) := by rfl
theorem bB_X2_isBuried : ab_B m_X2_isBuried = cX2_isBuried := by unfold ab_B; rw [if_neg (by decide), bc_X2_isBuried]; rfl
set_option maxRecDepth 100000 in
theorem bc_X2_add : ab_cd m_X2_add = .code yX2_add cX2_add 5 (some .int) := by rfl
theorem bB_X2_add : ab_B m_X2_add = cX2_add := by unfold ab_B; rw [if_neg (by decide), bc_X2_add]; rfl
set_option maxRecDepth 100000 in
theorem bc_X2_addByLot : ab_cd m_X2_addByLot = .code yX2_addByLot cX2_addByLot 5 none := by rfl
theorem bB_X2_addByLot : ab_B m_X2_addByLot = cX2_addByLot := by unfold ab_B; rw [if_neg (by decide), bc_X2_addByLot]; rfl
set_option maxRecDepth 100000 in
theorem bc_X2_draw : ab_cd m_X2_draw = .code yX2_draw cX2_draw 1 (some .int) := by rfl
theorem bB_X2_draw : ab_B m_X2_draw = cX2_draw := by unfold ab_B; rw [if_neg (by decide), bc_X2_draw]; rfl
set_option maxRecDepth 100000 in
theorem bc_X2_goOver : ab_cd m_X2_goOver = .code yX2_goOver cX2_goOver 2 none := by rfl
theorem bB_X2_goOver : ab_B m_X2_goOver = cX2_goOver := by unfold ab_B; rw [if_neg (by decide), bc_X2_goOver]; rfl
set_option maxRecDepth 100000 in
theorem bc_X2_brighten : ab_cd m_X2_brighten = .code yX2_brighten cX2_brighten 3 none := by rfl
theorem bB_X2_brighten : ab_B m_X2_brighten = cX2_brighten := by unfold ab_B; rw [if_neg (by decide), bc_X2_brighten]; rfl
set_option maxRecDepth 100000 in
theorem bc_X2_passEvenings : ab_cd m_X2_passEvenings = .code yX2_passEvenings cX2_passEvenings 3 none := by rfl
theorem bB_X2_passEvenings : ab_B m_X2_passEvenings = cX2_passEvenings := by unfold ab_B; rw [if_neg (by decide), bc_X2_passEvenings]; rfl
set_option maxRecDepth 100000 in
theorem bc_X2_passEvening : ab_cd m_X2_passEvening = .code yX2_passEvening cX2_passEvening 3 none := by rfl
theorem bB_X2_passEvening : ab_B m_X2_passEvening = cX2_passEvening := by unfold ab_B; rw [if_neg (by decide), bc_X2_passEvening]; rfl
set_option maxRecDepth 100000 in
theorem bc_X2_dustiestIn : ab_cd m_X2_dustiestIn = .code yX2_dustiestIn cX2_dustiestIn 7 (some .int) := by rfl
theorem bB_X2_dustiestIn : ab_B m_X2_dustiestIn = cX2_dustiestIn := by unfold ab_B; rw [if_neg (by decide), bc_X2_dustiestIn]; rfl
set_option maxRecDepth 100000 in
theorem bc_X2_kickByChance : ab_cd m_X2_kickByChance = .code yX2_kickByChance cX2_kickByChance 4 none := by rfl
theorem bB_X2_kickByChance : ab_B m_X2_kickByChance = cX2_kickByChance := by unfold ab_B; rw [if_neg (by decide), bc_X2_kickByChance]; rfl
set_option maxRecDepth 100000 in
theorem bc_X2_gathers : ab_cd m_X2_gathers = .code yX2_gathers cX2_gathers 3 (some .int) := by rfl
theorem bB_X2_gathers : ab_B m_X2_gathers = cX2_gathers := by unfold ab_B; rw [if_neg (by decide), bc_X2_gathers]; rfl
set_option maxRecDepth 100000 in
theorem bc_X2_plainBloom : ab_cd m_X2_plainBloom = .code yX2_plainBloom cX2_plainBloom 4 (some .int) := by rfl
theorem bB_X2_plainBloom : ab_B m_X2_plainBloom = cX2_plainBloom := by unfold ab_B; rw [if_neg (by decide), bc_X2_plainBloom]; rfl
set_option maxRecDepth 100000 in
theorem bc_X2_othersBeside : ab_cd m_X2_othersBeside = .code yX2_othersBeside cX2_othersBeside 5 (some .int) := by rfl
theorem bB_X2_othersBeside : ab_B m_X2_othersBeside = cX2_othersBeside := by unfold ab_B; rw [if_neg (by decide), bc_X2_othersBeside]; rfl
set_option maxRecDepth 100000 in
theorem bc_X2_draws : ab_cd m_X2_draws = .code yX2_draws cX2_draws 3 (some .int) := by rfl
theorem bB_X2_draws : ab_B m_X2_draws = cX2_draws := by unfold ab_B; rw [if_neg (by decide), bc_X2_draws]; rfl
set_option maxRecDepth 100000 in
theorem bc_X2_worth : ab_cd m_X2_worth = .code yX2_worth cX2_worth 2 (some .int) := by rfl
theorem bB_X2_worth : ab_B m_X2_worth = cX2_worth := by unfold ab_B; rw [if_neg (by decide), bc_X2_worth]; rfl
set_option maxRecDepth 100000 in
theorem bc_X2_sayingsIn : ab_cd m_X2_sayingsIn = .code yX2_sayingsIn cX2_sayingsIn 4 (some .int) := by rfl
theorem bB_X2_sayingsIn : ab_B m_X2_sayingsIn = cX2_sayingsIn := by unfold ab_B; rw [if_neg (by decide), bc_X2_sayingsIn]; rfl
set_option maxRecDepth 100000 in
theorem bc_X2_worthIn : ab_cd m_X2_worthIn = .code yX2_worthIn cX2_worthIn 4 (some .int) := by rfl
theorem bB_X2_worthIn : ab_B m_X2_worthIn = cX2_worthIn := by unfold ab_B; rw [if_neg (by decide), bc_X2_worthIn]; rfl
set_option maxRecDepth 100000 in
theorem bc_X2_drawnIn : ab_cd m_X2_drawnIn = .code yX2_drawnIn cX2_drawnIn 4 (some .int) := by rfl
theorem bB_X2_drawnIn : ab_B m_X2_drawnIn = cX2_drawnIn := by unfold ab_B; rw [if_neg (by decide), bc_X2_drawnIn]; rfl
set_option maxRecDepth 100000 in
theorem bc_X2_buried : ab_cd m_X2_buried = .code yX2_buried cX2_buried 3 (some .int) := by rfl
theorem bB_X2_buried : ab_B m_X2_buried = cX2_buried := by unfold ab_B; rw [if_neg (by decide), bc_X2_buried]; rfl
set_option maxRecDepth 100000 in
theorem bc_X2_cornersWithSayings : ab_cd m_X2_cornersWithSayings = .code yX2_cornersWithSayings cX2_cornersWithSayings 3 (some .int) := by rfl
theorem bB_X2_cornersWithSayings : ab_B m_X2_cornersWithSayings = cX2_cornersWithSayings := by unfold ab_B; rw [if_neg (by decide), bc_X2_cornersWithSayings]; rfl
set_option maxRecDepth 100000 in
theorem bc_X2_deafest : ab_cd m_X2_deafest = .code yX2_deafest cX2_deafest 3 (some .int) := by rfl
theorem bB_X2_deafest : ab_B m_X2_deafest = cX2_deafest := by unfold ab_B; rw [if_neg (by decide), bc_X2_deafest]; rfl
set_option maxRecDepth 100000 in
theorem bc_X2_allDust : ab_cd m_X2_allDust = .code yX2_allDust cX2_allDust 3 (some .int) := by rfl
theorem bB_X2_allDust : ab_B m_X2_allDust = cX2_allDust := by unfold ab_B; rw [if_neg (by decide), bc_X2_allDust]; rfl
set_option maxRecDepth 100000 in
theorem bc_X2_allHeed : ab_cd m_X2_allHeed = .code yX2_allHeed cX2_allHeed 3 (some .int) := by rfl
theorem bB_X2_allHeed : ab_B m_X2_allHeed = cX2_allHeed := by unfold ab_B; rw [if_neg (by decide), bc_X2_allHeed]; rfl
set_option maxRecDepth 100000 in
theorem bc_X2_feeGiven : ab_cd m_X2_feeGiven = .code yX2_feeGiven cX2_feeGiven 2 (some .int) := by rfl
theorem bB_X2_feeGiven : ab_B m_X2_feeGiven = cX2_feeGiven := by unfold ab_B; rw [if_neg (by decide), bc_X2_feeGiven]; rfl
set_option maxRecDepth 100000 in
theorem bc_X2_fineGiven : ab_cd m_X2_fineGiven = .code yX2_fineGiven cX2_fineGiven 3 (some .int) := by rfl
theorem bB_X2_fineGiven : ab_B m_X2_fineGiven = cX2_fineGiven := by unfold ab_B; rw [if_neg (by decide), bc_X2_fineGiven]; rfl
set_option maxRecDepth 100000 in
theorem bc_X3_begin : ab_cd m_X3_begin = .code yX3_begin cX3_begin 4 none := by rfl
theorem bB_X3_begin : ab_B m_X3_begin = cX3_begin := by unfold ab_B; rw [if_neg (by decide), bc_X3_begin]; rfl
set_option maxRecDepth 100000 in
theorem bc_X3_become : ab_cd m_X3_become = .code yX3_become cX3_become 2 none := by rfl
theorem bB_X3_become : ab_B m_X3_become = cX3_become := by unfold ab_B; rw [if_neg (by decide), bc_X3_become]; rfl
set_option maxRecDepth 100000 in
theorem bc_X3_isMissing : ab_cd m_X3_isMissing = .code yX3_isMissing cX3_isMissing 1 (some .boolean) := by rfl
theorem bB_X3_isMissing : ab_B m_X3_isMissing = cX3_isMissing := by unfold ab_B; rw [if_neg (by decide), bc_X3_isMissing]; rfl
set_option maxRecDepth 100000 in
theorem bc_X3_has : ab_cd m_X3_has = .code yX3_has cX3_has 2 (some .boolean) := by rfl
theorem bB_X3_has : ab_B m_X3_has = cX3_has := by unfold ab_B; rw [if_neg (by decide), bc_X3_has]; rfl
set_option maxRecDepth 100000 in
theorem bc_X3_hasRun : ab_cd m_X3_hasRun = .code yX3_hasRun cX3_hasRun 3 (some .boolean) := by rfl
theorem bB_X3_hasRun : ab_B m_X3_hasRun = cX3_hasRun := by unfold ab_B; rw [if_neg (by decide), bc_X3_hasRun]; rfl
set_option maxRecDepth 100000 in
theorem bc_X3_isNumber : ab_cd m_X3_isNumber = .code yX3_isNumber cX3_isNumber 2 (some .boolean) := by rfl
theorem bB_X3_isNumber : ab_B m_X3_isNumber = cX3_isNumber := by unfold ab_B; rw [if_neg (by decide), bc_X3_isNumber]; rfl
set_option maxRecDepth 100000 in
theorem bc_X4_holdSaying : ab_cd m_X4_holdSaying = .code yX4_holdSaying cX4_holdSaying 4 none := by rfl
theorem bB_X4_holdSaying : ab_B m_X4_holdSaying = cX4_holdSaying := by unfold ab_B; rw [if_neg (by decide), bc_X4_holdSaying]; rfl
set_option maxRecDepth 100000 in
theorem bc_X5_hasRoom : ab_cd m_X5_hasRoom = .code yX5_hasRoom cX5_hasRoom 2 (some .boolean) := by rfl
theorem bB_X5_hasRoom : ab_B m_X5_hasRoom = cX5_hasRoom := by unfold ab_B; rw [if_neg (by decide), bc_X5_hasRoom]; rfl
set_option maxRecDepth 100000 in
theorem bc_X5_add : ab_cd m_X5_add = .code yX5_add cX5_add 3 none := by rfl
theorem bB_X5_add : ab_B m_X5_add = cX5_add := by unfold ab_B; rw [if_neg (by decide), bc_X5_add]; rfl
set_option maxRecDepth 100000 in
theorem bc_X5_isText : ab_cd m_X5_isText = .code yX5_isText cX5_isText 1 (some .boolean) := by rfl
theorem bB_X5_isText : ab_B m_X5_isText = cX5_isText := by unfold ab_B; rw [if_neg (by decide), bc_X5_isText]; rfl
set_option maxRecDepth 100000 in
theorem bc_X5_pass : ab_cd m_X5_pass = .code yX5_pass cX5_pass 5 none := by rfl
theorem bB_X5_pass : ab_B m_X5_pass = cX5_pass := by unfold ab_B; rw [if_neg (by decide), bc_X5_pass]; rfl
set_option maxRecDepth 100000 in
theorem bc_X5_sortAt : ab_cd m_X5_sortAt = .code yX5_sortAt cX5_sortAt 3 (some .int) := by rfl
theorem bB_X5_sortAt : ab_B m_X5_sortAt = cX5_sortAt := by unfold ab_B; rw [if_neg (by decide), bc_X5_sortAt]; rfl
set_option maxRecDepth 100000 in
theorem bc_X5_isSignOf : ab_cd m_X5_isSignOf = .code yX5_isSignOf cX5_isSignOf 2 (some .boolean) := by rfl
theorem bB_X5_isSignOf : ab_B m_X5_isSignOf = cX5_isSignOf := by unfold ab_B; rw [if_neg (by decide), bc_X5_isSignOf]; rfl
set_option maxRecDepth 100000 in
theorem bc_X5_readKey : ab_cd m_X5_readKey = .code yX5_readKey cX5_readKey 2 (some .boolean) := by rfl
theorem bB_X5_readKey : ab_B m_X5_readKey = cX5_readKey := by unfold ab_B; rw [if_neg (by decide), bc_X5_readKey]; rfl
set_option maxRecDepth 100000 in
theorem bc_X5_isWord : ab_cd m_X5_isWord = .code yX5_isWord cX5_isWord 3 (some .boolean) := by rfl
theorem bB_X5_isWord : ab_B m_X5_isWord = cX5_isWord := by unfold ab_B; rw [if_neg (by decide), bc_X5_isWord]; rfl
set_option maxRecDepth 100000 in
theorem bc_X5_signsOf : ab_cd m_X5_signsOf = .code yX5_signsOf cX5_signsOf 1 (some (.object "java/lang/String")) := by rfl
theorem bB_X5_signsOf : ab_B m_X5_signsOf = cX5_signsOf := by unfold ab_B; rw [if_neg (by decide), bc_X5_signsOf]; rfl
set_option maxRecDepth 100000 in
theorem bc_X5_readJoined : ab_cd m_X5_readJoined = .code yX5_readJoined cX5_readJoined 8 (some .boolean) := by rfl
theorem bB_X5_readJoined : ab_B m_X5_readJoined = cX5_readJoined := by unfold ab_B; rw [if_neg (by decide), bc_X5_readJoined]; rfl
set_option maxRecDepth 100000 in
theorem bc_X5_readPiece : ab_cd m_X5_readPiece = .code yX5_readPiece cX5_readPiece 4 (some .boolean) := by rfl
theorem bB_X5_readPiece : ab_B m_X5_readPiece = cX5_readPiece := by unfold ab_B; rw [if_neg (by decide), bc_X5_readPiece]; rfl
set_option maxRecDepth 100000 in
theorem bc_X5_readClosing : ab_cd m_X5_readClosing = .code yX5_readClosing cX5_readClosing 1 (some .boolean) := by rfl
theorem bB_X5_readClosing : ab_B m_X5_readClosing = cX5_readClosing := by unfold ab_B; rw [if_neg (by decide), bc_X5_readClosing]; rfl
set_option maxRecDepth 100000 in
theorem bc_X5_readNumber : ab_cd m_X5_readNumber = .code yX5_readNumber cX5_readNumber 3 (some .boolean) := by rfl
theorem bB_X5_readNumber : ab_B m_X5_readNumber = cX5_readNumber := by unfold ab_B; rw [if_neg (by decide), bc_X5_readNumber]; rfl
set_option maxRecDepth 100000 in
theorem bc_X5_readName : ab_cd m_X5_readName = .code yX5_readName cX5_readName 2 (some .boolean) := by rfl
theorem bB_X5_readName : ab_B m_X5_readName = cX5_readName := by unfold ab_B; rw [if_neg (by decide), bc_X5_readName]; rfl
set_option maxRecDepth 100000 in
theorem bc_X5_writeLeaf : ab_cd m_X5_writeLeaf = .code yX5_writeLeaf cX5_writeLeaf 2 none := by rfl
theorem bB_X5_writeLeaf : ab_B m_X5_writeLeaf = cX5_writeLeaf := by unfold ab_B; rw [if_neg (by decide), bc_X5_writeLeaf]; rfl
set_option maxRecDepth 100000 in
theorem bc_X5_write : ab_cd m_X5_write = .code yX5_write cX5_write 2 none := by rfl
theorem bB_X5_write : ab_B m_X5_write = cX5_write := by unfold ab_B; rw [if_neg (by decide), bc_X5_write]; rfl
set_option maxRecDepth 100000 in
theorem bc_X6_saying : ab_cd m_X6_saying = .code yX6_saying cX6_saying 4 (some .int) := by rfl
theorem bB_X6_saying : ab_B m_X6_saying = cX6_saying := by unfold ab_B; rw [if_neg (by decide), bc_X6_saying]; rfl
set_option maxRecDepth 100000 in
theorem bc_X6_told : ab_cd m_X6_told = .code yX6_told cX6_told 3 (some .int) := by rfl
theorem bB_X6_told : ab_B m_X6_told = cX6_told := by unfold ab_B; rw [if_neg (by decide), bc_X6_told]; rfl
set_option maxRecDepth 100000 in
theorem bc_X6_as : ab_cd m_X6_as = .code yX6_as cX6_as 3 (some .int) := by rfl
theorem bB_X6_as : ab_B m_X6_as = cX6_as := by unfold ab_B; rw [if_neg (by decide), bc_X6_as]; rfl
set_option maxRecDepth 100000 in
theorem bc_X6_turns : ab_cd m_X6_turns = .code yX6_turns cX6_turns 4 (some .int) := by rfl
theorem bB_X6_turns : ab_B m_X6_turns = cX6_turns := by unfold ab_B; rw [if_neg (by decide), bc_X6_turns]; rfl
set_option maxRecDepth 100000 in
theorem bc_X6_set : ab_cd m_X6_set = .code yX6_set cX6_set 6 (some .int) := by rfl
theorem bB_X6_set : ab_B m_X6_set = cX6_set := by unfold ab_B; rw [if_neg (by decide), bc_X6_set]; rfl
set_option maxRecDepth 100000 in
theorem bc_X6_moves : ab_cd m_X6_moves = .code yX6_moves cX6_moves 4 (some .int) := by rfl
theorem bB_X6_moves : ab_B m_X6_moves = cX6_moves := by unfold ab_B; rw [if_neg (by decide), bc_X6_moves]; rfl
set_option maxRecDepth 100000 in
theorem bc_X6_dusts : ab_cd m_X6_dusts = .code yX6_dusts cX6_dusts 3 (some .int) := by rfl
theorem bB_X6_dusts : ab_B m_X6_dusts = cX6_dusts := by unfold ab_B; rw [if_neg (by decide), bc_X6_dusts]; rfl
set_option maxRecDepth 100000 in
theorem bc_X6_heed : ab_cd m_X6_heed = .code yX6_heed cX6_heed 4 (some .int) := by rfl
theorem bB_X6_heed : ab_B m_X6_heed = cX6_heed := by unfold ab_B; rw [if_neg (by decide), bc_X6_heed]; rfl
set_option maxRecDepth 100000 in
theorem bc_X6_cornerOf : ab_cd m_X6_cornerOf = .code yX6_cornerOf cX6_cornerOf 3 (some .int) := by rfl
theorem bB_X6_cornerOf : ab_B m_X6_cornerOf = cX6_cornerOf := by unfold ab_B; rw [if_neg (by decide), bc_X6_cornerOf]; rfl
set_option maxRecDepth 100000 in
theorem bc_X6_kicks : ab_cd m_X6_kicks = .code yX6_kicks cX6_kicks 3 (some .int) := by rfl
theorem bB_X6_kicks : ab_B m_X6_kicks = cX6_kicks := by unfold ab_B; rw [if_neg (by decide), bc_X6_kicks]; rfl
set_option maxRecDepth 100000 in
theorem bc_X6_deal : ab_cd m_X6_deal = .code yX6_deal cX6_deal 4 (some .int) := by rfl
theorem bB_X6_deal : ab_B m_X6_deal = cX6_deal := by unfold ab_B; rw [if_neg (by decide), bc_X6_deal]; rfl
set_option maxRecDepth 100000 in
theorem bc_X6_seed : ab_cd m_X6_seed = .code yX6_seed cX6_seed 3 (some .int) := by rfl
theorem bB_X6_seed : ab_B m_X6_seed = cX6_seed := by unfold ab_B; rw [if_neg (by decide), bc_X6_seed]; rfl
set_option maxRecDepth 100000 in
theorem bc_X6_evenings : ab_cd m_X6_evenings = .code yX6_evenings cX6_evenings 4 (some .int) := by rfl
theorem bB_X6_evenings : ab_B m_X6_evenings = cX6_evenings := by unfold ab_B; rw [if_neg (by decide), bc_X6_evenings]; rfl
set_option maxRecDepth 100000 in
theorem bc_X6_room : ab_cd m_X6_room = .code yX6_room cX6_room 2 (some .int) := by rfl
theorem bB_X6_room : ab_B m_X6_room = cX6_room := by unfold ab_B; rw [if_neg (by decide), bc_X6_room]; rfl
set_option maxRecDepth 100000 in
theorem bc_X6_behind : ab_cd m_X6_behind = .code yX6_behind cX6_behind 3 (some .int) := by rfl
theorem bB_X6_behind : ab_B m_X6_behind = cX6_behind := by unfold ab_B; rw [if_neg (by decide), bc_X6_behind]; rfl
set_option maxRecDepth 100000 in
theorem bc_X6_sinks : ab_cd m_X6_sinks = .code yX6_sinks cX6_sinks 3 (some .int) := by rfl
theorem bB_X6_sinks : ab_B m_X6_sinks = cX6_sinks := by unfold ab_B; rw [if_neg (by decide), bc_X6_sinks]; rfl
set_option maxRecDepth 100000 in
theorem bc_X6_hears : ab_cd m_X6_hears = .code yX6_hears cX6_hears 4 (some .int) := by rfl
theorem bB_X6_hears : ab_B m_X6_hears = cX6_hears := by unfold ab_B; rw [if_neg (by decide), bc_X6_hears]; rfl
set_option maxRecDepth 100000 in
theorem bc_X6_shine : ab_cd m_X6_shine = .code yX6_shine cX6_shine 5 (some .int) := by rfl
theorem bB_X6_shine : ab_B m_X6_shine = cX6_shine := by unfold ab_B; rw [if_neg (by decide), bc_X6_shine]; rfl
set_option maxRecDepth 100000 in
theorem bc_X6_isEnoughShine : ab_cd m_X6_isEnoughShine = .code yX6_isEnoughShine cX6_isEnoughShine 3 (some .boolean) := by rfl
theorem bB_X6_isEnoughShine : ab_B m_X6_isEnoughShine = cX6_isEnoughShine := by unfold ab_B; rw [if_neg (by decide), bc_X6_isEnoughShine]; rfl
set_option maxRecDepth 100000 in
theorem bc_X6_edge : ab_cd m_X6_edge = .code yX6_edge cX6_edge 5 (some .int) := by rfl
theorem bB_X6_edge : ab_B m_X6_edge = cX6_edge := by unfold ab_B; rw [if_neg (by decide), bc_X6_edge]; rfl
set_option maxRecDepth 100000 in
theorem bc_X6_place : ab_cd m_X6_place = .code yX6_place cX6_place 7 (some .int) := by rfl
theorem bB_X6_place : ab_B m_X6_place = cX6_place := by unfold ab_B; rw [if_neg (by decide), bc_X6_place]; rfl
set_option maxRecDepth 100000 in
theorem bc_X6_becomes : ab_cd m_X6_becomes = .code yX6_becomes cX6_becomes 7 (some .int) := by rfl
theorem bB_X6_becomes : ab_B m_X6_becomes = cX6_becomes := by unfold ab_B; rw [if_neg (by decide), bc_X6_becomes]; rfl
set_option maxRecDepth 100000 in
theorem bc_X6_like : ab_cd m_X6_like = .code yX6_like cX6_like 5 (some .int) := by rfl
theorem bB_X6_like : ab_B m_X6_like = cX6_like := by unfold ab_B; rw [if_neg (by decide), bc_X6_like]; rfl
set_option maxRecDepth 100000 in
theorem bc_X6_gatherDifferences : ab_cd m_X6_gatherDifferences = .code yX6_gatherDifferences cX6_gatherDifferences 4 none := by rfl
theorem bB_X6_gatherDifferences : ab_B m_X6_gatherDifferences = cX6_gatherDifferences := by unfold ab_B; rw [if_neg (by decide), bc_X6_gatherDifferences]; rfl
set_option maxRecDepth 100000 in
theorem bc_X6_fee : ab_cd m_X6_fee = .code yX6_fee cX6_fee 1 (some .int) := by rfl
theorem bB_X6_fee : ab_B m_X6_fee = cX6_fee := by unfold ab_B; rw [if_neg (by decide), bc_X6_fee]; rfl
set_option maxRecDepth 100000 in
theorem bc_X6_fine : ab_cd m_X6_fine = .code yX6_fine cX6_fine 2 (some .int) := by rfl
theorem bB_X6_fine : ab_B m_X6_fine = cX6_fine := by unfold ab_B; rw [if_neg (by decide), bc_X6_fine]; rfl
set_option maxRecDepth 100000 in
theorem bc_X6_feed : ab_cd m_X6_feed = .code yX6_feed cX6_feed 4 (some .int) := by rfl
theorem bB_X6_feed : ab_B m_X6_feed = cX6_feed := by unfold ab_B; rw [if_neg (by decide), bc_X6_feed]; rfl
set_option maxRecDepth 100000 in
theorem bc_X6_trim : ab_cd m_X6_trim = .code yX6_trim cX6_trim 2 (some .int) := by rfl
theorem bB_X6_trim : ab_B m_X6_trim = cX6_trim := by unfold ab_B; rw [if_neg (by decide), bc_X6_trim]; rfl
set_option maxRecDepth 100000 in
theorem bc_X6_text : ab_cd m_X6_text = .code yX6_text cX6_text 2 (some .int) := by rfl
theorem bB_X6_text : ab_B m_X6_text = cX6_text := by unfold ab_B; rw [if_neg (by decide), bc_X6_text]; rfl
set_option maxRecDepth 100000 in
theorem bc_X6_textTold : ab_cd m_X6_textTold = .code yX6_textTold cX6_textTold 3 (some .int) := by rfl
theorem bB_X6_textTold : ab_B m_X6_textTold = cX6_textTold := by unfold ab_B; rw [if_neg (by decide), bc_X6_textTold]; rfl
set_option maxRecDepth 100000 in
theorem bc_X6_why : ab_cd m_X6_why = .code yX6_why cX6_why 2 (some .int) := by rfl
theorem bB_X6_why : ab_B m_X6_why = cX6_why := by unfold ab_B; rw [if_neg (by decide), bc_X6_why]; rfl
set_option maxRecDepth 100000 in
theorem bc_X6_sheet : ab_cd m_X6_sheet = .code yX6_sheet cX6_sheet 4 (some .int) := by rfl
theorem bB_X6_sheet : ab_B m_X6_sheet = cX6_sheet := by unfold ab_B; rw [if_neg (by decide), bc_X6_sheet]; rfl
set_option maxRecDepth 100000 in
theorem bc_X6_mark : ab_cd m_X6_mark = .code yX6_mark cX6_mark 5 (some .int) := by rfl
theorem bB_X6_mark : ab_B m_X6_mark = cX6_mark := by unfold ab_B; rw [if_neg (by decide), bc_X6_mark]; rfl
set_option maxRecDepth 100000 in
theorem bc_X6_pour : ab_cd m_X6_pour = .code yX6_pour cX6_pour 6 (some .int) := by rfl
theorem bB_X6_pour : ab_B m_X6_pour = cX6_pour := by unfold ab_B; rw [if_neg (by decide), bc_X6_pour]; rfl
set_option maxRecDepth 100000 in
theorem bc_X6_reads : ab_cd m_X6_reads = .code yX6_reads cX6_reads 5 (some .int) := by rfl
theorem bB_X6_reads : ab_B m_X6_reads = cX6_reads := by unfold ab_B; rw [if_neg (by decide), bc_X6_reads]; rfl
set_option maxRecDepth 100000 in
theorem bc_X6_copy : ab_cd m_X6_copy = .code yX6_copy cX6_copy 8 (some .int) := by rfl
theorem bB_X6_copy : ab_B m_X6_copy = cX6_copy := by unfold ab_B; rw [if_neg (by decide), bc_X6_copy]; rfl
set_option maxRecDepth 100000 in
theorem bc_X6_lay : ab_cd m_X6_lay = .code yX6_lay cX6_lay 6 (some .int) := by rfl
theorem bB_X6_lay : ab_B m_X6_lay = cX6_lay := by unfold ab_B; rw [if_neg (by decide), bc_X6_lay]; rfl
set_option maxRecDepth 100000 in
theorem bc_X6_ask : ab_cd m_X6_ask = .code yX6_ask cX6_ask 4 (some .int) := by rfl
theorem bB_X6_ask : ab_B m_X6_ask = cX6_ask := by unfold ab_B; rw [if_neg (by decide), bc_X6_ask]; rfl
set_option maxRecDepth 100000 in
theorem bc_X6_item : ab_cd m_X6_item = .code yX6_item cX6_item 4 (some .int) := by rfl
theorem bB_X6_item : ab_B m_X6_item = cX6_item := by unfold ab_B; rw [if_neg (by decide), bc_X6_item]; rfl
set_option maxRecDepth 100000 in
theorem bc_X6_rest : ab_cd m_X6_rest = .code yX6_rest cX6_rest 4 (some .int) := by rfl
theorem bB_X6_rest : ab_B m_X6_rest = cX6_rest := by unfold ab_B; rw [if_neg (by decide), bc_X6_rest]; rfl
set_option maxRecDepth 100000 in
theorem bc_X6_tell : ab_cd m_X6_tell = .code yX6_tell cX6_tell 2 (some .int) := by rfl
theorem bB_X6_tell : ab_B m_X6_tell = cX6_tell := by unfold ab_B; rw [if_neg (by decide), bc_X6_tell]; rfl
set_option maxRecDepth 100000 in
theorem bc_X6_check : ab_cd m_X6_check = .code yX6_check cX6_check 5 (some .int) := by rfl
theorem bB_X6_check : ab_B m_X6_check = cX6_check := by unfold ab_B; rw [if_neg (by decide), bc_X6_check]; rfl
set_option maxRecDepth 100000 in
theorem bc_X6_keep : ab_cd m_X6_keep = .code yX6_keep cX6_keep 1 (some .int) := by rfl
theorem bB_X6_keep : ab_B m_X6_keep = cX6_keep := by unfold ab_B; rw [if_neg (by decide), bc_X6_keep]; rfl
set_option maxRecDepth 100000 in
theorem bc_X6_back : ab_cd m_X6_back = .code yX6_back cX6_back 1 (some .int) := by rfl
theorem bB_X6_back : ab_B m_X6_back = cX6_back := by unfold ab_B; rw [if_neg (by decide), bc_X6_back]; rfl
set_option maxRecDepth 100000 in
theorem bc_X6_count : ab_cd m_X6_count = .code yX6_count cX6_count 2 (some .int) := by rfl
theorem bB_X6_count : ab_B m_X6_count = cX6_count := by unfold ab_B; rw [if_neg (by decide), bc_X6_count]; rfl
set_option maxRecDepth 100000 in
theorem bc_X6_isWithin : ab_cd m_X6_isWithin = .code yX6_isWithin cX6_isWithin 3 (some .boolean) := by rfl
theorem bB_X6_isWithin : ab_B m_X6_isWithin = cX6_isWithin := by unfold ab_B; rw [if_neg (by decide), bc_X6_isWithin]; rfl
set_option maxRecDepth 100000 in
theorem bc_X6_isSheet : ab_cd m_X6_isSheet = .code yX6_isSheet cX6_isSheet 1 (some .boolean) := by rfl
theorem bB_X6_isSheet : ab_B m_X6_isSheet = cX6_isSheet := by unfold ab_B; rw [if_neg (by decide), bc_X6_isSheet]; rfl
set_option maxRecDepth 100000 in
theorem bc_X6_isSlot : ab_cd m_X6_isSlot = .code yX6_isSlot cX6_isSlot 1 (some .boolean) := by rfl
theorem bB_X6_isSlot : ab_B m_X6_isSlot = cX6_isSlot := by unfold ab_B; rw [if_neg (by decide), bc_X6_isSlot]; rfl
set_option maxRecDepth 100000 in
theorem bc_X7_in : ab_cd m_X7_in = .code yX7_in cX7_in 3 (some .boolean) := by rfl
theorem bB_X7_in : ab_B m_X7_in = cX7_in := by unfold ab_B; rw [if_neg (by decide), bc_X7_in]; rfl
set_option maxRecDepth 100000 in
theorem bc_X7_within : ab_cd m_X7_within = .code yX7_within cX7_within 3 (some .int) := by rfl
theorem bB_X7_within : ab_B m_X7_within = cX7_within := by unfold ab_B; rw [if_neg (by decide), bc_X7_within]; rfl
set_option maxRecDepth 100000 in
theorem bc_X7_copyAll : ab_cd m_X7_copyAll = .code yX7_copyAll cX7_copyAll 3 none := by rfl
theorem bB_X7_copyAll : ab_B m_X7_copyAll = cX7_copyAll := by unfold ab_B; rw [if_neg (by decide), bc_X7_copyAll]; rfl
set_option maxRecDepth 100000 in
theorem bc_X7_bits : ab_cd m_X7_bits = .code yX7_bits cX7_bits 3 (some .int) := by rfl
theorem bB_X7_bits : ab_B m_X7_bits = cX7_bits := by unfold ab_B; rw [if_neg (by decide), bc_X7_bits]; rfl
set_option maxRecDepth 100000 in
theorem bc_X7_isSaying : ab_cd m_X7_isSaying = .code yX7_isSaying cX7_isSaying 2 (some .boolean) := by rfl
theorem bB_X7_isSaying : ab_B m_X7_isSaying = cX7_isSaying := by unfold ab_B; rw [if_neg (by decide), bc_X7_isSaying]; rfl
set_option maxRecDepth 100000 in
theorem bc_X7_isCorner : ab_cd m_X7_isCorner = .code yX7_isCorner cX7_isCorner 1 (some .boolean) := by rfl
theorem bB_X7_isCorner : ab_B m_X7_isCorner = cX7_isCorner := by unfold ab_B; rw [if_neg (by decide), bc_X7_isCorner]; rfl
set_option maxRecDepth 100000 in
theorem bc_X7_of : ab_cd m_X7_of = .code yX7_of cX7_of 3 (some .int) := by rfl
theorem bB_X7_of : ab_B m_X7_of = cX7_of := by unfold ab_B; rw [if_neg (by decide), bc_X7_of]; rfl
set_option maxRecDepth 100000 in
theorem bc_X7_put : ab_cd m_X7_put = .code yX7_put cX7_put 4 none := by rfl
theorem bB_X7_put : ab_B m_X7_put = cX7_put := by unfold ab_B; rw [if_neg (by decide), bc_X7_put]; rfl
set_option maxRecDepth 100000 in
theorem bc_X7_swaps : ab_cd m_X7_swaps = .code yX7_swaps cX7_swaps 4 (some .int) := by rfl
theorem bB_X7_swaps : ab_B m_X7_swaps = cX7_swaps := by unfold ab_B; rw [if_neg (by decide), bc_X7_swaps]; rfl
set_option maxRecDepth 100000 in
theorem bc_X7_off : ab_cd m_X7_off = .code yX7_off cX7_off 1 (some .int) := by rfl
theorem bB_X7_off : ab_B m_X7_off = cX7_off := by unfold ab_B; rw [if_neg (by decide), bc_X7_off]; rfl
set_option maxRecDepth 100000 in
theorem bc_X7_saidIn : ab_cd m_X7_saidIn = .code yX7_saidIn cX7_saidIn 4 (some .int) := by rfl
theorem bB_X7_saidIn : ab_B m_X7_saidIn = cX7_saidIn := by unfold ab_B; rw [if_neg (by decide), bc_X7_saidIn]; rfl
set_option maxRecDepth 100000 in
theorem bc_X7_plainBloom : ab_cd m_X7_plainBloom = .code yX7_plainBloom cX7_plainBloom 4 (some .int) := by rfl
theorem bB_X7_plainBloom : ab_B m_X7_plainBloom = cX7_plainBloom := by unfold ab_B; rw [if_neg (by decide), bc_X7_plainBloom]; rfl
set_option maxRecDepth 100000 in
theorem bc_X7_fellows : ab_cd m_X7_fellows = .code yX7_fellows cX7_fellows 7 (some .int) := by rfl
theorem bB_X7_fellows : ab_B m_X7_fellows = cX7_fellows := by unfold ab_B; rw [if_neg (by decide), bc_X7_fellows]; rfl
set_option maxRecDepth 100000 in
theorem bc_X7_gathers : ab_cd m_X7_gathers = .code yX7_gathers cX7_gathers 4 (some .int) := by rfl
theorem bB_X7_gathers : ab_B m_X7_gathers = cX7_gathers := by unfold ab_B; rw [if_neg (by decide), bc_X7_gathers]; rfl
set_option maxRecDepth 100000 in
theorem bc_X7_draws : ab_cd m_X7_draws = .code yX7_draws cX7_draws 3 (some .int) := by rfl
theorem bB_X7_draws : ab_B m_X7_draws = cX7_draws := by unfold ab_B; rw [if_neg (by decide), bc_X7_draws]; rfl
set_option maxRecDepth 100000 in
theorem bc_X7_worthOf : ab_cd m_X7_worthOf = .code yX7_worthOf cX7_worthOf 3 (some .int) := by rfl
theorem bB_X7_worthOf : ab_B m_X7_worthOf = cX7_worthOf := by unfold ab_B; rw [if_neg (by decide), bc_X7_worthOf]; rfl
set_option maxRecDepth 100000 in
theorem bc_X7_comes : ab_cd m_X7_comes = .code yX7_comes cX7_comes 6 (some .int) := by rfl
theorem bB_X7_comes : ab_B m_X7_comes = cX7_comes := by unfold ab_B; rw [if_neg (by decide), bc_X7_comes]; rfl
set_option maxRecDepth 100000 in
theorem bc_X7_saying : ab_cd m_X7_saying = .code yX7_saying cX7_saying 4 (some .int) := by rfl
theorem bB_X7_saying : ab_B m_X7_saying = cX7_saying := by unfold ab_B; rw [if_neg (by decide), bc_X7_saying]; rfl
set_option maxRecDepth 100000 in
theorem bc_X7_told : ab_cd m_X7_told = .code yX7_told cX7_told 3 (some .int) := by rfl
theorem bB_X7_told : ab_B m_X7_told = cX7_told := by unfold ab_B; rw [if_neg (by decide), bc_X7_told]; rfl
set_option maxRecDepth 100000 in
theorem bc_X7_isUnder : ab_cd m_X7_isUnder = .code yX7_isUnder cX7_isUnder 2 (some .boolean) := by rfl
theorem bB_X7_isUnder : ab_B m_X7_isUnder = cX7_isUnder := by unfold ab_B; rw [if_neg (by decide), bc_X7_isUnder]; rfl
set_option maxRecDepth 100000 in
theorem bc_X7_as : ab_cd m_X7_as = .code yX7_as cX7_as 3 (some .int) := by rfl
theorem bB_X7_as : ab_B m_X7_as = cX7_as := by unfold ab_B; rw [if_neg (by decide), bc_X7_as]; rfl
set_option maxRecDepth 100000 in
theorem bc_X7_turns : ab_cd m_X7_turns = .code yX7_turns cX7_turns 3 (some .int) := by rfl
theorem bB_X7_turns : ab_B m_X7_turns = cX7_turns := by unfold ab_B; rw [if_neg (by decide), bc_X7_turns]; rfl
set_option maxRecDepth 100000 in
theorem bc_X7_set : ab_cd m_X7_set = .code yX7_set cX7_set 4 (some .int) := by rfl
theorem bB_X7_set : ab_B m_X7_set = cX7_set := by unfold ab_B; rw [if_neg (by decide), bc_X7_set]; rfl
set_option maxRecDepth 100000 in
theorem bc_X7_moves : ab_cd m_X7_moves = .code yX7_moves cX7_moves 3 (some .int) := by rfl
theorem bB_X7_moves : ab_B m_X7_moves = cX7_moves := by unfold ab_B; rw [if_neg (by decide), bc_X7_moves]; rfl
set_option maxRecDepth 100000 in
theorem bc_X7_goesOver : ab_cd m_X7_goesOver = .code yX7_goesOver cX7_goesOver 3 (some .int) := by rfl
theorem bB_X7_goesOver : ab_B m_X7_goesOver = cX7_goesOver := by unfold ab_B; rw [if_neg (by decide), bc_X7_goesOver]; rfl
set_option maxRecDepth 100000 in
theorem bc_X7_dusts : ab_cd m_X7_dusts = .code yX7_dusts cX7_dusts 2 (some .int) := by rfl
theorem bB_X7_dusts : ab_B m_X7_dusts = cX7_dusts := by unfold ab_B; rw [if_neg (by decide), bc_X7_dusts]; rfl
set_option maxRecDepth 100000 in
theorem bc_X7_heed : ab_cd m_X7_heed = .code yX7_heed cX7_heed 3 (some .int) := by rfl
theorem bB_X7_heed : ab_B m_X7_heed = cX7_heed := by unfold ab_B; rw [if_neg (by decide), bc_X7_heed]; rfl
set_option maxRecDepth 100000 in
theorem bc_X7_buriedOnes : ab_cd m_X7_buriedOnes = .code yX7_buriedOnes cX7_buriedOnes 3 (some .int) := by rfl
theorem bB_X7_buriedOnes : ab_B m_X7_buriedOnes = cX7_buriedOnes := by unfold ab_B; rw [if_neg (by decide), bc_X7_buriedOnes]; rfl
set_option maxRecDepth 100000 in
theorem bc_X7_drawn : ab_cd m_X7_drawn = .code yX7_drawn cX7_drawn 5 (some .int) := by rfl
theorem bB_X7_drawn : ab_B m_X7_drawn = cX7_drawn := by unfold ab_B; rw [if_neg (by decide), bc_X7_drawn]; rfl
set_option maxRecDepth 100000 in
theorem bc_X7_worthIn : ab_cd m_X7_worthIn = .code yX7_worthIn cX7_worthIn 5 (some .int) := by rfl
theorem bB_X7_worthIn : ab_B m_X7_worthIn = cX7_worthIn := by unfold ab_B; rw [if_neg (by decide), bc_X7_worthIn]; rfl
set_option maxRecDepth 100000 in
theorem bc_X7_cornerOf : ab_cd m_X7_cornerOf = .code yX7_cornerOf cX7_cornerOf 3 (some .int) := by rfl
theorem bB_X7_cornerOf : ab_B m_X7_cornerOf = cX7_cornerOf := by unfold ab_B; rw [if_neg (by decide), bc_X7_cornerOf]; rfl
set_option maxRecDepth 100000 in
theorem bc_X7_kicks : ab_cd m_X7_kicks = .code yX7_kicks cX7_kicks 2 (some .int) := by rfl
theorem bB_X7_kicks : ab_B m_X7_kicks = cX7_kicks := by unfold ab_B; rw [if_neg (by decide), bc_X7_kicks]; rfl
set_option maxRecDepth 100000 in
theorem bc_X7_draw : ab_cd m_X7_draw = .code yX7_draw cX7_draw 1 (some .int) := by rfl
theorem bB_X7_draw : ab_B m_X7_draw = cX7_draw := by unfold ab_B; rw [if_neg (by decide), bc_X7_draw]; rfl
set_option maxRecDepth 100000 in
theorem bc_X7_deal : ab_cd m_X7_deal = .code yX7_deal cX7_deal 7 (some .int) := by rfl
theorem bB_X7_deal : ab_B m_X7_deal = cX7_deal := by unfold ab_B; rw [if_neg (by decide), bc_X7_deal]; rfl
set_option maxRecDepth 100000 in
theorem bc_X7_seed : ab_cd m_X7_seed = .code yX7_seed cX7_seed 2 (some .int) := by rfl
theorem bB_X7_seed : ab_B m_X7_seed = cX7_seed := by unfold ab_B; rw [if_neg (by decide), bc_X7_seed]; rfl
set_option maxRecDepth 100000 in
theorem bc_X7_dustiest : ab_cd m_X7_dustiest = .code yX7_dustiest cX7_dustiest 4 (some .int) := by rfl
theorem bB_X7_dustiest : ab_B m_X7_dustiest = cX7_dustiest := by unfold ab_B; rw [if_neg (by decide), bc_X7_dustiest]; rfl
set_option maxRecDepth 100000 in
theorem bc_X7_maid : ab_cd m_X7_maid = .code yX7_maid cX7_maid 5 (some .int) := by rfl
theorem bB_X7_maid : ab_B m_X7_maid = cX7_maid := by unfold ab_B; rw [if_neg (by decide), bc_X7_maid]; rfl
set_option maxRecDepth 100000 in
theorem bc_X7_evening : ab_cd m_X7_evening = .code yX7_evening cX7_evening 5 none := by rfl
theorem bB_X7_evening : ab_B m_X7_evening = cX7_evening := by unfold ab_B; rw [if_neg (by decide), bc_X7_evening]; rfl
set_option maxRecDepth 100000 in
theorem bc_X7_goesOn : ab_cd m_X7_goesOn = .code yX7_goesOn cX7_goesOn 3 none := by rfl
theorem bB_X7_goesOn : ab_B m_X7_goesOn = cX7_goesOn := by unfold ab_B; rw [if_neg (by decide), bc_X7_goesOn]; rfl
set_option maxRecDepth 100000 in
theorem bc_X7_evenings : ab_cd m_X7_evenings = .code yX7_evenings cX7_evenings 3 (some .int) := by rfl
theorem bB_X7_evenings : ab_B m_X7_evenings = cX7_evenings := by unfold ab_B; rw [if_neg (by decide), bc_X7_evenings]; rfl
set_option maxRecDepth 100000 in
theorem bc_X7_allDust : ab_cd m_X7_allDust = .code yX7_allDust cX7_allDust 3 (some .int) := by rfl
theorem bB_X7_allDust : ab_B m_X7_allDust = cX7_allDust := by unfold ab_B; rw [if_neg (by decide), bc_X7_allDust]; rfl
set_option maxRecDepth 100000 in
theorem bc_X7_peopled : ab_cd m_X7_peopled = .code yX7_peopled cX7_peopled 3 (some .int) := by rfl
theorem bB_X7_peopled : ab_B m_X7_peopled = cX7_peopled := by unfold ab_B; rw [if_neg (by decide), bc_X7_peopled]; rfl
set_option maxRecDepth 100000 in
theorem bc_X7_deafest : ab_cd m_X7_deafest = .code yX7_deafest cX7_deafest 3 (some .int) := by rfl
theorem bB_X7_deafest : ab_B m_X7_deafest = cX7_deafest := by unfold ab_B; rw [if_neg (by decide), bc_X7_deafest]; rfl
set_option maxRecDepth 100000 in
theorem bc_X7_allHeed : ab_cd m_X7_allHeed = .code yX7_allHeed cX7_allHeed 3 (some .int) := by rfl
theorem bB_X7_allHeed : ab_B m_X7_allHeed = cX7_allHeed := by unfold ab_B; rw [if_neg (by decide), bc_X7_allHeed]; rfl
set_option maxRecDepth 100000 in
theorem bc_X7_room : ab_cd m_X7_room = .code yX7_room cX7_room 2 (some .int) := by rfl
theorem bB_X7_room : ab_B m_X7_room = cX7_room := by unfold ab_B; rw [if_neg (by decide), bc_X7_room]; rfl
set_option maxRecDepth 100000 in
theorem bc_X7_thinks : ab_cd m_X7_thinks = .code yX7_thinks cX7_thinks 1 none := by rfl
theorem bB_X7_thinks : ab_B m_X7_thinks = cX7_thinks := by unfold ab_B; rw [if_neg (by decide), bc_X7_thinks]; rfl
set_option maxRecDepth 100000 in
theorem bc_X7_putsBack : ab_cd m_X7_putsBack = .code yX7_putsBack cX7_putsBack 1 none := by rfl
theorem bB_X7_putsBack : ab_B m_X7_putsBack = cX7_putsBack := by unfold ab_B; rw [if_neg (by decide), bc_X7_putsBack]; rfl
set_option maxRecDepth 100000 in
theorem bc_X7_behind : ab_cd m_X7_behind = .code yX7_behind cX7_behind 4 (some .int) := by rfl
theorem bB_X7_behind : ab_B m_X7_behind = cX7_behind := by unfold ab_B; rw [if_neg (by decide), bc_X7_behind]; rfl
set_option maxRecDepth 100000 in
theorem bc_X7_sinks : ab_cd m_X7_sinks = .code yX7_sinks cX7_sinks 3 (some .int) := by rfl
theorem bB_X7_sinks : ab_B m_X7_sinks = cX7_sinks := by unfold ab_B; rw [if_neg (by decide), bc_X7_sinks]; rfl
set_option maxRecDepth 100000 in
theorem bc_X7_hears : ab_cd m_X7_hears = .code yX7_hears cX7_hears 4 (some .int) := by rfl
theorem bB_X7_hears : ab_B m_X7_hears = cX7_hears := by unfold ab_B; rw [if_neg (by decide), bc_X7_hears]; rfl
set_option maxRecDepth 100000 in
theorem bc_X7_isBright : ab_cd m_X7_isBright = .code yX7_isBright cX7_isBright 5 (some .boolean) := by rfl
theorem bB_X7_isBright : ab_B m_X7_isBright = cX7_isBright := by unfold ab_B; rw [if_neg (by decide), bc_X7_isBright]; rfl
set_option maxRecDepth 100000 in
theorem bc_X7_shine : ab_cd m_X7_shine = .code yX7_shine cX7_shine 5 (some .int) := by rfl
theorem bB_X7_shine : ab_B m_X7_shine = cX7_shine := by unfold ab_B; rw [if_neg (by decide), bc_X7_shine]; rfl
set_option maxRecDepth 100000 in
theorem bc_X7_dustOn : ab_cd m_X7_dustOn = .code yX7_dustOn cX7_dustOn 4 (some .int) := by rfl
theorem bB_X7_dustOn : ab_B m_X7_dustOn = cX7_dustOn := by unfold ab_B; rw [if_neg (by decide), bc_X7_dustOn]; rfl
set_option maxRecDepth 100000 in
theorem bc_X7_edge : ab_cd m_X7_edge = .code yX7_edge cX7_edge 5 (some .int) := by rfl
theorem bB_X7_edge : ab_B m_X7_edge = cX7_edge := by unfold ab_B; rw [if_neg (by decide), bc_X7_edge]; rfl
set_option maxRecDepth 100000 in
theorem bc_X7_place : ab_cd m_X7_place = .code yX7_place cX7_place 8 (some .int) := by rfl
theorem bB_X7_place : ab_B m_X7_place = cX7_place := by unfold ab_B; rw [if_neg (by decide), bc_X7_place]; rfl
set_option maxRecDepth 100000 in
theorem bc_X7_becomes : ab_cd m_X7_becomes = .code yX7_becomes cX7_becomes 8 (some .int) := by rfl
theorem bB_X7_becomes : ab_B m_X7_becomes = cX7_becomes := by unfold ab_B; rw [if_neg (by decide), bc_X7_becomes]; rfl
set_option maxRecDepth 100000 in
theorem bc_X7_like : ab_cd m_X7_like = .code yX7_like cX7_like 7 (some .int) := by rfl
theorem bB_X7_like : ab_B m_X7_like = cX7_like := by unfold ab_B; rw [if_neg (by decide), bc_X7_like]; rfl
set_option maxRecDepth 100000 in
theorem bc_X7_fee : ab_cd m_X7_fee = .code yX7_fee cX7_fee 2 (some .int) := by rfl
theorem bB_X7_fee : ab_B m_X7_fee = cX7_fee := by unfold ab_B; rw [if_neg (by decide), bc_X7_fee]; rfl
set_option maxRecDepth 100000 in
theorem bc_X7_fine : ab_cd m_X7_fine = .code yX7_fine cX7_fine 3 (some .int) := by rfl
theorem bB_X7_fine : ab_B m_X7_fine = cX7_fine := by unfold ab_B; rw [if_neg (by decide), bc_X7_fine]; rfl
set_option maxRecDepth 100000 in
theorem bc_X7_feed : ab_cd m_X7_feed = .code yX7_feed cX7_feed 6 (some .int) := by rfl
theorem bB_X7_feed : ab_B m_X7_feed = cX7_feed := by unfold ab_B; rw [if_neg (by decide), bc_X7_feed]; rfl
set_option maxRecDepth 100000 in
theorem bc_X7_trim : ab_cd m_X7_trim = .code yX7_trim cX7_trim 2 (some .int) := by rfl
theorem bB_X7_trim : ab_B m_X7_trim = cX7_trim := by unfold ab_B; rw [if_neg (by decide), bc_X7_trim]; rfl
set_option maxRecDepth 100000 in
theorem bc_X7_isLetter : ab_cd m_X7_isLetter = .code yX7_isLetter cX7_isLetter 2 (some .boolean) := by rfl
theorem bB_X7_isLetter : ab_B m_X7_isLetter = cX7_isLetter := by unfold ab_B; rw [if_neg (by decide), bc_X7_isLetter]; rfl
set_option maxRecDepth 100000 in
theorem bc_X7_isFigure : ab_cd m_X7_isFigure = .code yX7_isFigure cX7_isFigure 2 (some .boolean) := by rfl
theorem bB_X7_isFigure : ab_B m_X7_isFigure = cX7_isFigure := by unfold ab_B; rw [if_neg (by decide), bc_X7_isFigure]; rfl
set_option maxRecDepth 100000 in
theorem bc_X7_go : ab_cd m_X7_go = .code yX7_go cX7_go 2 none := by rfl
theorem bB_X7_go : ab_B m_X7_go = cX7_go := by unfold ab_B; rw [if_neg (by decide), bc_X7_go]; rfl
set_option maxRecDepth 100000 in
theorem bc_X7_takesKey : ab_cd m_X7_takesKey = .code yX7_takesKey cX7_takesKey 5 (some .boolean) := by rfl
theorem bB_X7_takesKey : ab_B m_X7_takesKey = cX7_takesKey := by unfold ab_B; rw [if_neg (by decide), bc_X7_takesKey]; rfl
set_option maxRecDepth 100000 in
theorem bc_X7_nameOf : ab_cd m_X7_nameOf = .code yX7_nameOf cX7_nameOf 2 (some .int) := by rfl
theorem bB_X7_nameOf : ab_B m_X7_nameOf = cX7_nameOf := by unfold ab_B; rw [if_neg (by decide), bc_X7_nameOf]; rfl
set_option maxRecDepth 100000 in
theorem bc_X7_rank : ab_cd m_X7_rank = .code yX7_rank cX7_rank 1 (some .int) := by rfl
theorem bB_X7_rank : ab_B m_X7_rank = cX7_rank := by unfold ab_B; rw [if_neg (by decide), bc_X7_rank]; rfl
set_option maxRecDepth 100000 in
theorem bc_X7_settle : ab_cd m_X7_settle = .code yX7_settle cX7_settle 2 none := by rfl
theorem bB_X7_settle : ab_B m_X7_settle = cX7_settle := by unfold ab_B; rw [if_neg (by decide), bc_X7_settle]; rfl
set_option maxRecDepth 100000 in
theorem bc_X7_signHere : ab_cd m_X7_signHere = .code yX7_signHere cX7_signHere 1 (some .int) := by rfl
theorem bB_X7_signHere : ab_B m_X7_signHere = cX7_signHere := by unfold ab_B; rw [if_neg (by decide), bc_X7_signHere]; rfl
set_option maxRecDepth 100000 in
theorem bc_X7_takesPart : ab_cd m_X7_takesPart = .code yX7_takesPart cX7_takesPart 2 (some .boolean) := by rfl
theorem bB_X7_takesPart : ab_B m_X7_takesPart = cX7_takesPart := by unfold ab_B; rw [if_neg (by decide), bc_X7_takesPart]; rfl
set_option maxRecDepth 100000 in
theorem bc_X7_takesE : ab_cd m_X7_takesE = .code yX7_takesE cX7_takesE 5 (some .boolean) := by rfl
theorem bB_X7_takesE : ab_B m_X7_takesE = cX7_takesE := by unfold ab_B; rw [if_neg (by decide), bc_X7_takesE]; rfl
set_option maxRecDepth 100000 in
theorem bc_X7_notsOpen : ab_cd m_X7_notsOpen = .code yX7_notsOpen cX7_notsOpen 3 (some .int) := by rfl
theorem bB_X7_notsOpen : ab_B m_X7_notsOpen = cX7_notsOpen := by unfold ab_B; rw [if_neg (by decide), bc_X7_notsOpen]; rfl
set_option maxRecDepth 100000 in
theorem bc_X7_text : ab_cd m_X7_text = .code yX7_text cX7_text 4 (some .int) := by rfl
theorem bB_X7_text : ab_B m_X7_text = cX7_text := by unfold ab_B; rw [if_neg (by decide), bc_X7_text]; rfl
set_option maxRecDepth 100000 in
theorem bc_X7_textTold : ab_cd m_X7_textTold = .code yX7_textTold cX7_textTold 3 (some .int) := by rfl
theorem bB_X7_textTold : ab_B m_X7_textTold = cX7_textTold := by unfold ab_B; rw [if_neg (by decide), bc_X7_textTold]; rfl
set_option maxRecDepth 100000 in
theorem bc_X7_counts : ab_cd m_X7_counts = .code yX7_counts cX7_counts 3 (some .int) := by rfl
theorem bB_X7_counts : ab_B m_X7_counts = cX7_counts := by unfold ab_B; rw [if_neg (by decide), bc_X7_counts]; rfl
set_option maxRecDepth 100000 in
theorem bc_X7_why : ab_cd m_X7_why = .code yX7_why cX7_why 3 (some .int) := by rfl
theorem bB_X7_why : ab_B m_X7_why = cX7_why := by unfold ab_B; rw [if_neg (by decide), bc_X7_why]; rfl
set_option maxRecDepth 100000 in
theorem bc_X7_two : ab_cd m_X7_two = .code yX7_two cX7_two 3 (some .int) := by rfl
theorem bB_X7_two : ab_B m_X7_two = cX7_two := by unfold ab_B; rw [if_neg (by decide), bc_X7_two]; rfl
set_option maxRecDepth 100000 in
theorem bc_X7_worksOut : ab_cd m_X7_worksOut = .code yX7_worksOut cX7_worksOut 6 (some .int) := by rfl
theorem bB_X7_worksOut : ab_B m_X7_worksOut = cX7_worksOut := by unfold ab_B; rw [if_neg (by decide), bc_X7_worksOut]; rfl
set_option maxRecDepth 100000 in
theorem bc_X7_isSheet : ab_cd m_X7_isSheet = .code yX7_isSheet cX7_isSheet 1 (some .boolean) := by rfl
theorem bB_X7_isSheet : ab_B m_X7_isSheet = cX7_isSheet := by unfold ab_B; rw [if_neg (by decide), bc_X7_isSheet]; rfl
set_option maxRecDepth 100000 in
theorem bc_X7_isSlot : ab_cd m_X7_isSlot = .code yX7_isSlot cX7_isSlot 1 (some .boolean) := by rfl
theorem bB_X7_isSlot : ab_B m_X7_isSlot = cX7_isSlot := by unfold ab_B; rw [if_neg (by decide), bc_X7_isSlot]; rfl
set_option maxRecDepth 100000 in
theorem bc_X7_sheet : ab_cd m_X7_sheet = .code yX7_sheet cX7_sheet 5 (some .int) := by rfl
theorem bB_X7_sheet : ab_B m_X7_sheet = cX7_sheet := by unfold ab_B; rw [if_neg (by decide), bc_X7_sheet]; rfl
set_option maxRecDepth 100000 in
theorem bc_X7_mark : ab_cd m_X7_mark = .code yX7_mark cX7_mark 4 (some .int) := by rfl
theorem bB_X7_mark : ab_B m_X7_mark = cX7_mark := by unfold ab_B; rw [if_neg (by decide), bc_X7_mark]; rfl
set_option maxRecDepth 100000 in
theorem bc_X7_pour : ab_cd m_X7_pour = .code yX7_pour cX7_pour 6 (some .int) := by rfl
theorem bB_X7_pour : ab_B m_X7_pour = cX7_pour := by unfold ab_B; rw [if_neg (by decide), bc_X7_pour]; rfl
set_option maxRecDepth 100000 in
theorem bc_X7_reads : ab_cd m_X7_reads = .code yX7_reads cX7_reads 4 (some .int) := by rfl
theorem bB_X7_reads : ab_B m_X7_reads = cX7_reads := by unfold ab_B; rw [if_neg (by decide), bc_X7_reads]; rfl
set_option maxRecDepth 100000 in
theorem bc_X7_copy : ab_cd m_X7_copy = .code yX7_copy cX7_copy 7 (some .int) := by rfl
theorem bB_X7_copy : ab_B m_X7_copy = cX7_copy := by unfold ab_B; rw [if_neg (by decide), bc_X7_copy]; rfl
set_option maxRecDepth 100000 in
theorem bc_X7_lay : ab_cd m_X7_lay = .code yX7_lay cX7_lay 6 (some .int) := by rfl
theorem bB_X7_lay : ab_B m_X7_lay = cX7_lay := by unfold ab_B; rw [if_neg (by decide), bc_X7_lay]; rfl
set_option maxRecDepth 100000 in
theorem bc_X7_ask : ab_cd m_X7_ask = .code yX7_ask cX7_ask 3 (some .int) := by rfl
theorem bB_X7_ask : ab_B m_X7_ask = cX7_ask := by unfold ab_B; rw [if_neg (by decide), bc_X7_ask]; rfl
set_option maxRecDepth 100000 in
theorem bc_X7_item : ab_cd m_X7_item = .code yX7_item cX7_item 4 (some .int) := by rfl
theorem bB_X7_item : ab_B m_X7_item = cX7_item := by unfold ab_B; rw [if_neg (by decide), bc_X7_item]; rfl
set_option maxRecDepth 100000 in
theorem bc_X7_rest : ab_cd m_X7_rest = .code yX7_rest cX7_rest 3 (some .int) := by rfl
theorem bB_X7_rest : ab_B m_X7_rest = cX7_rest := by unfold ab_B; rw [if_neg (by decide), bc_X7_rest]; rfl
set_option maxRecDepth 100000 in
theorem bc_X7_tell : ab_cd m_X7_tell = .code yX7_tell cX7_tell 2 (some .int) := by rfl
theorem bB_X7_tell : ab_B m_X7_tell = cX7_tell := by unfold ab_B; rw [if_neg (by decide), bc_X7_tell]; rfl
set_option maxRecDepth 100000 in
theorem bc_X7_check : ab_cd m_X7_check = .code yX7_check cX7_check 6 (some .int) := by rfl
theorem bB_X7_check : ab_B m_X7_check = cX7_check := by unfold ab_B; rw [if_neg (by decide), bc_X7_check]; rfl
set_option maxRecDepth 100000 in
theorem bc_X7_keep : ab_cd m_X7_keep = .code yX7_keep cX7_keep 1 (some .int) := by rfl
theorem bB_X7_keep : ab_B m_X7_keep = cX7_keep := by unfold ab_B; rw [if_neg (by decide), bc_X7_keep]; rfl
set_option maxRecDepth 100000 in
theorem bc_X7_back : ab_cd m_X7_back = .code yX7_back cX7_back 1 (some .int) := by rfl
theorem bB_X7_back : ab_B m_X7_back = cX7_back := by unfold ab_B; rw [if_neg (by decide), bc_X7_back]; rfl
set_option maxRecDepth 100000 in
theorem bc_X7_count : ab_cd m_X7_count = .code yX7_count cX7_count 2 (some .int) := by rfl
theorem bB_X7_count : ab_B m_X7_count = cX7_count := by unfold ab_B; rw [if_neg (by decide), bc_X7_count]; rfl
set_option maxRecDepth 100000 in
theorem bc_J6_bitCount_0f7a4 : ab_cd m_J6_bitCount_0f7a4 = .code yJ6_bitCount_0f7a4 cJ6_bitCount_0f7a4 1 (some .int) := by rfl
theorem bB_J6_bitCount_0f7a4 : ab_B m_J6_bitCount_0f7a4 = cJ6_bitCount_0f7a4 := by unfold ab_B; rw [if_neg (by decide), bc_J6_bitCount_0f7a4]; rfl
set_option maxRecDepth 100000 in
theorem bc_J9_abs_0f7a4 : ab_cd m_J9_abs_0f7a4 = .code yJ9_abs_0f7a4 cJ9_abs_0f7a4 1 (some .int) := by rfl
theorem bB_J9_abs_0f7a4 : ab_B m_J9_abs_0f7a4 = cJ9_abs_0f7a4 := by unfold ab_B; rw [if_neg (by decide), bc_J9_abs_0f7a4]; rfl
set_option maxRecDepth 100000 in
theorem bc_J9_max_7cf53 : ab_cd m_J9_max_7cf53 = .code yJ9_max_7cf53 cJ9_max_7cf53 2 (some .int) := by rfl
theorem bB_J9_max_7cf53 : ab_B m_J9_max_7cf53 = cJ9_max_7cf53 := by unfold ab_B; rw [if_neg (by decide), bc_J9_max_7cf53]; rfl
set_option maxRecDepth 100000 in
theorem bc_J9_min_7cf53 : ab_cd m_J9_min_7cf53 = .code yJ9_min_7cf53 cJ9_min_7cf53 2 (some .int) := by rfl
theorem bB_J9_min_7cf53 : ab_B m_J9_min_7cf53 = cJ9_min_7cf53 := by unfold ab_B; rw [if_neg (by decide), bc_J9_min_7cf53]; rfl
set_option maxRecDepth 100000 in
theorem bc_J0_length_8abf5 : ab_cd m_J0_length_8abf5 = .code yJ0_length_8abf5 cJ0_length_8abf5 1 (some .int) := by rfl
theorem bB_J0_length_8abf5 : ab_B m_J0_length_8abf5 = cJ0_length_8abf5 := by unfold ab_B; rw [if_neg (by decide), bc_J0_length_8abf5]; rfl
set_option maxRecDepth 100000 in
theorem bc_J0_charAt_5068e : ab_cd m_J0_charAt_5068e = .code yJ0_charAt_5068e cJ0_charAt_5068e 2 (some .char) := by rfl
theorem bB_J0_charAt_5068e : ab_B m_J0_charAt_5068e = cJ0_charAt_5068e := by unfold ab_B; rw [if_neg (by decide), bc_J0_charAt_5068e]; rfl
set_option maxRecDepth 100000 in
theorem bc_J0_indexOf_0f7a4 : ab_cd m_J0_indexOf_0f7a4 = .code yJ0_indexOf_0f7a4 cJ0_indexOf_0f7a4 2 (some .int) := by rfl
theorem bB_J0_indexOf_0f7a4 : ab_B m_J0_indexOf_0f7a4 = cJ0_indexOf_0f7a4 := by unfold ab_B; rw [if_neg (by decide), bc_J0_indexOf_0f7a4]; rfl
set_option maxRecDepth 100000 in
theorem bc_J0_indexOf_7cf53 : ab_cd m_J0_indexOf_7cf53 = .code yJ0_indexOf_7cf53 cJ0_indexOf_7cf53 3 (some .int) := by rfl
theorem bB_J0_indexOf_7cf53 : ab_B m_J0_indexOf_7cf53 = cJ0_indexOf_7cf53 := by unfold ab_B; rw [if_neg (by decide), bc_J0_indexOf_7cf53]; rfl
set_option maxRecDepth 100000 in
theorem bc_J0_coder_7d493 : ab_cd m_J0_coder_7d493 = .code yJ0_coder_7d493 cJ0_coder_7d493 1 (some .byte) := by rfl
theorem bB_J0_coder_7d493 : ab_B m_J0_coder_7d493 = cJ0_coder_7d493 := by unfold ab_B; rw [if_neg (by decide), bc_J0_coder_7d493]; rfl
set_option maxRecDepth 100000 in
theorem bc_J0_isLatin1_aae02 : ab_cd m_J0_isLatin1_aae02 = .code yJ0_isLatin1_aae02 cJ0_isLatin1_aae02 1 (some .boolean) := by rfl
theorem bB_J0_isLatin1_aae02 : ab_B m_J0_isLatin1_aae02 = cJ0_isLatin1_aae02 := by unfold ab_B; rw [if_neg (by decide), bc_J0_isLatin1_aae02]; rfl
set_option maxRecDepth 100000 in
theorem bc_J0_checkIndex_df160 : ab_cd m_J0_checkIndex_df160 = .code yJ0_checkIndex_df160 cJ0_checkIndex_df160 2 none := by rfl
theorem bB_J0_checkIndex_df160 : ab_B m_J0_checkIndex_df160 = cJ0_checkIndex_df160 := by unfold ab_B; rw [if_neg (by decide), bc_J0_checkIndex_df160]; rfl
set_option maxRecDepth 100000 in
theorem bc_J0_checkBoundsBeginEnd_23922 : ab_cd m_J0_checkBoundsBeginEnd_23922 = .code yJ0_checkBoundsBeginEnd_23922 cJ0_checkBoundsBeginEnd_23922 3 none := by rfl
theorem bB_J0_checkBoundsBeginEnd_23922 : ab_B m_J0_checkBoundsBeginEnd_23922 = cJ0_checkBoundsBeginEnd_23922 := by unfold ab_B; rw [if_neg (by decide), bc_J0_checkBoundsBeginEnd_23922]; rfl
set_option maxRecDepth 100000 in
theorem bc_J1_charAt_3b067 : ab_cd m_J1_charAt_3b067 = .code yJ1_charAt_3b067 cJ1_charAt_3b067 2 (some .char) := by rfl
theorem bB_J1_charAt_3b067 : ab_B m_J1_charAt_3b067 = cJ1_charAt_3b067 := by unfold ab_B; rw [if_neg (by decide), bc_J1_charAt_3b067]; rfl
set_option maxRecDepth 100000 in
theorem bc_J1_canEncode_9a6ad : ab_cd m_J1_canEncode_9a6ad = .code yJ1_canEncode_9a6ad cJ1_canEncode_9a6ad 1 (some .boolean) := by rfl
theorem bB_J1_canEncode_9a6ad : ab_B m_J1_canEncode_9a6ad = cJ1_canEncode_9a6ad := by unfold ab_B; rw [if_neg (by decide), bc_J1_canEncode_9a6ad]; rfl
set_option maxRecDepth 100000 in
theorem bc_J1_indexOf_4cfef : ab_cd m_J1_indexOf_4cfef = .code yJ1_indexOf_4cfef cJ1_indexOf_4cfef 4 (some .int) := by rfl
theorem bB_J1_indexOf_4cfef : ab_B m_J1_indexOf_4cfef = cJ1_indexOf_4cfef := by unfold ab_B; rw [if_neg (by decide), bc_J1_indexOf_4cfef]; rfl
set_option maxRecDepth 100000 in
theorem bc_J1_indexOfChar_4cfef : ab_cd m_J1_indexOfChar_4cfef = .code yJ1_indexOfChar_4cfef cJ1_indexOfChar_4cfef 6 (some .int) := by rfl
theorem bB_J1_indexOfChar_4cfef : ab_B m_J1_indexOfChar_4cfef = cJ1_indexOfChar_4cfef := by unfold ab_B; rw [if_neg (by decide), bc_J1_indexOfChar_4cfef]; rfl
set_option maxRecDepth 100000 in
theorem bc_J3_checkIndex_8e157 : ab_cd m_J3_checkIndex_8e157 = .code yJ3_checkIndex_8e157 cJ3_checkIndex_8e157 3 (some .int) := by rfl
theorem bB_J3_checkIndex_8e157 : ab_B m_J3_checkIndex_8e157 = cJ3_checkIndex_8e157 := by unfold ab_B; rw [if_neg (by decide), bc_J3_checkIndex_8e157]; rfl
set_option maxRecDepth 100000 in
theorem bc_J3_checkFromToIndex_8c36e : ab_cd m_J3_checkFromToIndex_8c36e = .code yJ3_checkFromToIndex_8c36e cJ3_checkFromToIndex_8c36e 4 (some .int) := by rfl
theorem bB_J3_checkFromToIndex_8c36e : ab_B m_J3_checkFromToIndex_8c36e = cJ3_checkFromToIndex_8c36e := by unfold ab_B; rw [if_neg (by decide), bc_J3_checkFromToIndex_8c36e]; rfl
theorem bB_law : ab_B m_law = code := by unfold ab_B; rw [if_pos (by decide)]
