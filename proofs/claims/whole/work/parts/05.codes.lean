/-! THE CODE WORDS, by their places -/
set_option maxRecDepth 100000 in
theorem jm_mc0 : lw_tbl[744]? = some (.code yX0_solve cX0_solve 4 (some .boolean)) := rfl
set_option maxRecDepth 100000 in
theorem jm_mc1 : lw_tbl[750]? = some (.code yX0_relaxAll cX0_relaxAll 8 (some .boolean)) := rfl
set_option maxRecDepth 100000 in
theorem jm_mc2 : lw_tbl[754]? = some (.code yX0_relax cX0_relax 5 (some .boolean)) := rfl
set_option maxRecDepth 100000 in
theorem jm_mc3 : lw_tbl[808]? = some (.code yX0_traceRing cX0_traceRing 6 none) := rfl
set_option maxRecDepth 100000 in
theorem jm_mc4 : lw_tbl[812]? = some (.code yX0_faceBefore cX0_faceBefore 3 (some .int)) := rfl
set_option maxRecDepth 100000 in
theorem jm_mc5 : lw_tbl[944]? = some (.code yX1_least cX1_least 6 (some .int)) := rfl
set_option maxRecDepth 100000 in
theorem jm_mc6 : lw_tbl[948]? = some (.code yX1_markLeft cX1_markLeft 6 none) := rfl
set_option maxRecDepth 100000 in
theorem jm_mc7 : lw_tbl[955]? = some (.code yX1_relaxAll cX1_relaxAll 7 (some .boolean)) := rfl
set_option maxRecDepth 100000 in
theorem jm_mc8 : lw_tbl[959]? = some (.code yX1_partOf cX1_partOf 3 (some .int)) := rfl
set_option maxRecDepth 100000 in
theorem jm_mc9 : lw_tbl[963]? = some (.code yX1_relax cX1_relax 4 (some .boolean)) := rfl
set_option maxRecDepth 100000 in
theorem jm_mc10 : lw_tbl[687]? = some (.code yX2_become cX2_become 2 none) := rfl
set_option maxRecDepth 100000 in
theorem jm_mc11 : lw_tbl[183]? = some (.code yX2_rebuild cX2_rebuild 3 none) := rfl
set_option maxRecDepth 100000 in
theorem jm_mc12 : lw_tbl[190]? = some (.code yX2_placeEdges cX2_placeEdges 7 none) := rfl
set_option maxRecDepth 100000 in
theorem jm_mc13 : lw_tbl[206]? = some (.code yX2_lowerFace cX2_lowerFace 2 (some .int)) := rfl
set_option maxRecDepth 100000 in
theorem jm_mc14 : lw_tbl[214]? = some (.code yX2_westFace cX2_westFace 2 (some .int)) := rfl
set_option maxRecDepth 100000 in
theorem jm_mc15 : lw_tbl[218]? = some (.code yX2_eastFace cX2_eastFace 2 (some .int)) := rfl
set_option maxRecDepth 100000 in
theorem jm_mc16 : lw_tbl[210]? = some (.code yX2_place cX2_place 7 none) := rfl
set_option maxRecDepth 100000 in
theorem jm_mc17 : lw_tbl[222]? = some (.code yX2_walkRim cX2_walkRim 5 none) := rfl
set_option maxRecDepth 100000 in
theorem jm_mc18 : lw_tbl[226]? = some (.code yX2_addToRim cX2_addToRim 3 none) := rfl
set_option maxRecDepth 100000 in
theorem jm_mc19 : lw_tbl[826]? = some (.code yX2_hasNode cX2_hasNode 2 (some .boolean)) := rfl
set_option maxRecDepth 100000 in
theorem jm_mc20 : lw_tbl[724]? = some (.code yX2_hasEdge cX2_hasEdge 2 (some .boolean)) := rfl
set_option maxRecDepth 100000 in
theorem jm_mc21 : lw_tbl[740]? = some (.code yX2_hasFace cX2_hasFace 2 (some .boolean)) := rfl
set_option maxRecDepth 100000 in
theorem jm_mc22 : lw_tbl[714]? = some (.code yX2_hasCell cX2_hasCell 2 (some .boolean)) := rfl
set_option maxRecDepth 100000 in
theorem jm_mc23 : lw_tbl[940]? = some (.code yX2_rimIndex cX2_rimIndex 3 (some .int)) := rfl
set_option maxRecDepth 100000 in
theorem jm_mc24 : lw_tbl[861]? = some (.code yX2_endBeyond cX2_endBeyond 3 (some .int)) := rfl
set_option maxRecDepth 100000 in
theorem jm_mc25 : lw_tbl[792]? = some (.code yX2_faceBeyond cX2_faceBeyond 3 (some .int)) := rfl
set_option maxRecDepth 100000 in
theorem jm_mc26 : lw_tbl[796]? = some (.code yX2_costFrom cX2_costFrom 3 (some .int)) := rfl
set_option maxRecDepth 100000 in
theorem jm_mc27 : lw_tbl[788]? = some (.code yX2_bounds cX2_bounds 3 (some .boolean)) := rfl
set_option maxRecDepth 100000 in
theorem jm_mc28 : lw_tbl[975]? = some (.code yX2_isAtFace cX2_isAtFace 5 (some .boolean)) := rfl
set_option maxRecDepth 100000 in
theorem jm_mc29 : lw_tbl[1030]? = some (.code yX2_allBorne cX2_allBorne 3 (some .int)) := rfl
set_option maxRecDepth 100000 in
theorem jm_mc30 : lw_tbl[1034]? = some (.code yX2_allSupplied cX2_allSupplied 4 (some .int)) := rfl
set_option maxRecDepth 100000 in
theorem jm_mc31 : lw_tbl[894]? = some (.code yX3_divide cX3_divide 6 none) := rfl
set_option maxRecDepth 100000 in
theorem jm_mc32 : lw_tbl[899]? = some (.code yX3_spread cX3_spread 9 (some .boolean)) := rfl
set_option maxRecDepth 100000 in
theorem jm_mc33 : lw_tbl[908]? = some (.code yX3_parts cX3_parts 3 (some .boolean)) := rfl
set_option maxRecDepth 100000 in
theorem jm_mc34 : lw_tbl[912]? = some (.code yX3_size cX3_size 4 (some .int)) := rfl
set_option maxRecDepth 100000 in
theorem jm_mc35 : lw_tbl[916]? = some (.code yX3_member cX3_member 6 (some .int)) := rfl
set_option maxRecDepth 100000 in
theorem jm_mc36 : lw_tbl[904]? = some (.code yX3_cost cX3_cost 6 (some .int)) := rfl
set_option maxRecDepth 100000 in
theorem jm_mc37 : lw_tbl[924]? = some (.code yX3_pieces cX3_pieces 5 (some .int)) := rfl
set_option maxRecDepth 100000 in
theorem jm_mc38 : lw_tbl[928]? = some (.code yX3_touch cX3_touch 2 (some .int)) := rfl
set_option maxRecDepth 100000 in
theorem jm_mc39 : lw_tbl[932]? = some (.code yX3_join cX3_join 6 (some .int)) := rfl
set_option maxRecDepth 100000 in
theorem jm_mc40 : lw_tbl[758]? = some (.code yX4_aim cX4_aim 5 none) := rfl
set_option maxRecDepth 100000 in
theorem jm_mc41 : lw_tbl[764]? = some (.code yX4_relaxAll cX4_relaxAll 5 (some .boolean)) := rfl
set_option maxRecDepth 100000 in
theorem jm_mc42 : lw_tbl[768]? = some (.code yX4_relax cX4_relax 4 (some .boolean)) := rfl
set_option maxRecDepth 100000 in
theorem jm_mc43 : lw_tbl[772]? = some (.code yX4_keyBy cX4_keyBy 3 (some .int)) := rfl
set_option maxRecDepth 100000 in
theorem jm_mc44 : lw_tbl[1121]? = some (.code yX4_costFrom cX4_costFrom 2 (some .int)) := rfl
set_option maxRecDepth 100000 in
theorem jm_mc45 : lw_tbl[776]? = some (.code yX4_hopsFrom cX4_hopsFrom 2 (some .int)) := rfl
set_option maxRecDepth 100000 in
theorem jm_mc46 : lw_tbl[780]? = some (.code yX4_crossing cX4_crossing 8 (some .int)) := rfl
set_option maxRecDepth 100000 in
theorem jm_mc47 : lw_tbl[784]? = some (.code yX4_firstEdge cX4_firstEdge 5 (some .int)) := rfl
set_option maxRecDepth 100000 in
theorem jm_mc48 : lw_tbl[869]? = some (.code yX5_nodeAt cX5_nodeAt 2 (some .int)) := rfl
set_option maxRecDepth 100000 in
theorem jm_mc49 : lw_tbl[876]? = some (.code yX5_edgeTo cX5_edgeTo 2 (some .int)) := rfl
set_option maxRecDepth 100000 in
theorem jm_mc50 : lw_tbl[844]? = some (.code yX5_find cX5_find 5 (some .boolean)) := rfl
set_option maxRecDepth 100000 in
theorem jm_mc51 : lw_tbl[853]? = some (.code yX5_advance cX5_advance 7 (some .boolean)) := rfl
set_option maxRecDepth 100000 in
theorem jm_mc52 : lw_tbl[849]? = some (.code yX5_enter cX5_enter 4 none) := rfl
set_option maxRecDepth 100000 in
theorem jm_mc53 : lw_tbl[698]? = some (.code yX6_forget cX6_forget 1 none) := rfl
set_option maxRecDepth 100000 in
theorem jm_mc54 : lw_tbl[830]? = some (.code yX6_runBetween cX6_runBetween 5 (some .int)) := rfl
set_option maxRecDepth 100000 in
theorem jm_mc55 : lw_tbl[971]? = some (.code yX6_runFromFace cX6_runFromFace 8 (some .int)) := rfl
set_option maxRecDepth 100000 in
theorem jm_mc56 : lw_tbl[992]? = some (.code yX6_runSupplies cX6_runSupplies 6 (some .int)) := rfl
set_option maxRecDepth 100000 in
theorem jm_mc57 : lw_tbl[834]? = some (.code yX6_begin cX6_begin 8 none) := rfl
set_option maxRecDepth 100000 in
theorem jm_mc58 : lw_tbl[840]? = some (.code yX6_pour cX6_pour 6 (some .int)) := rfl
set_option maxRecDepth 100000 in
theorem jm_mc59 : lw_tbl[865]? = some (.code yX6_push cX6_push 8 (some .int)) := rfl
set_option maxRecDepth 100000 in
theorem jm_mc60 : lw_tbl[857]? = some (.code yX6_spare cX6_spare 4 (some .int)) := rfl
set_option maxRecDepth 100000 in
theorem jm_mc61 : lw_tbl[1157]? = some (.code yX6_gain cX6_gain 6 (some .int)) := rfl
set_option maxRecDepth 100000 in
theorem jm_mc62 : lw_tbl[557]? = some (.code yX7_put cX7_put 3 none) := rfl
set_option maxRecDepth 100000 in
theorem jm_mc63 : lw_tbl[565]? = some (.code yX7_read cX7_read 6 (some .int)) := rfl
set_option maxRecDepth 100000 in
theorem jm_mc64 : lw_tbl[569]? = some (.code yX7_readHead cX7_readHead 3 (some .boolean)) := rfl
set_option maxRecDepth 100000 in
theorem jm_mc65 : lw_tbl[651]? = some (.code yX7_readLine cX7_readLine 2 (some .boolean)) := rfl
set_option maxRecDepth 100000 in
theorem jm_mc66 : lw_tbl[656]? = some (.code yX7_readAll cX7_readAll 5 (some .boolean)) := rfl
set_option maxRecDepth 100000 in
theorem jm_mc67 : lw_tbl[663]? = some (.code yX7_loadAt cX7_loadAt 8 none) := rfl
set_option maxRecDepth 100000 in
theorem jm_mc68 : lw_tbl[673]? = some (.code yX7_readOne cX7_readOne 7 (some .boolean)) := rfl
set_option maxRecDepth 100000 in
theorem jm_mc69 : lw_tbl[642]? = some (.code yX7_readWhole cX7_readWhole 3 (some .boolean)) := rfl
set_option maxRecDepth 100000 in
theorem jm_mc70 : lw_tbl[638]? = some (.code yX7_fail cX7_fail 2 (some .boolean)) := rfl
set_option maxRecDepth 100000 in
theorem jm_mc71 : lw_tbl[573]? = some (.code yX7_next cX7_next 1 none) := rfl
set_option maxRecDepth 100000 in
theorem jm_mc72 : lw_tbl[581]? = some (.code yX7_scanWhole cX7_scanWhole 3 (some .boolean)) := rfl
set_option maxRecDepth 100000 in
theorem jm_mc73 : lw_tbl[577]? = some (.code yX7_isLetter cX7_isLetter 2 (some .boolean)) := rfl
set_option maxRecDepth 100000 in
theorem jm_mc74 : lw_tbl[586]? = some (.code yX7_isWord cX7_isWord 3 (some .boolean)) := rfl
set_option maxRecDepth 100000 in
theorem jm_mc75 : lw_tbl[646]? = some (.code yX8_reset cX8_reset 3 none) := rfl
set_option maxRecDepth 100000 in
theorem jm_mc76 : lw_tbl[691]? = some (.code yX8_take cX8_take 2 none) := rfl
set_option maxRecDepth 100000 in
theorem jm_mc77 : lw_tbl[668]? = some (.code yX8_load cX8_load 4 none) := rfl
set_option maxRecDepth 100000 in
theorem jm_mc78 : lw_tbl[679]? = some (.code yX8_lean cX8_lean 4 (some .int)) := rfl
set_option maxRecDepth 100000 in
theorem jm_mc79 : lw_tbl[984]? = some (.code yX8_stock cX8_stock 4 (some .int)) := rfl
set_option maxRecDepth 100000 in
theorem jm_mc80 : lw_tbl[194]? = some (.code yX8_fits cX8_fits 4 (some .boolean)) := rfl
set_option maxRecDepth 100000 in
theorem jm_mc81 : lw_tbl[198]? = some (.code yX8_lastX cX8_lastX 2 (some .int)) := rfl
set_option maxRecDepth 100000 in
theorem jm_mc82 : lw_tbl[202]? = some (.code yX8_lastY cX8_lastY 2 (some .int)) := rfl
set_option maxRecDepth 100000 in
theorem jm_mc83 : lw_tbl[553]? = some (.code yX9_feed cX9_feed 6 (some .int)) := rfl
set_option maxRecDepth 100000 in
theorem jm_mc84 : lw_tbl[561]? = some (.code yX9_text cX9_text 3 (some .int)) := rfl
set_option maxRecDepth 100000 in
theorem jm_mc85 : lw_tbl[702]? = some (.code yX9_grid cX9_grid 3 (some .int)) := rfl
set_option maxRecDepth 100000 in
theorem jm_mc86 : lw_tbl[710]? = some (.code yX9_slant cX9_slant 4 (some .int)) := rfl
set_option maxRecDepth 100000 in
theorem jm_mc87 : lw_tbl[720]? = some (.code yX9_bears cX9_bears 4 (some .boolean)) := rfl
set_option maxRecDepth 100000 in
theorem jm_mc88 : lw_tbl[732]? = some (.code yX9_edge cX9_edge 3 (some .int)) := rfl
set_option maxRecDepth 100000 in
theorem jm_mc89 : lw_tbl[1043]? = some (.code yX9_around cX9_around 2 (some .int)) := rfl
set_option maxRecDepth 100000 in
theorem jm_mc90 : lw_tbl[1115]? = some (.code yX9_distance cX9_distance 3 (some .int)) := rfl
set_option maxRecDepth 100000 in
theorem jm_mc91 : lw_tbl[736]? = some (.code yX9_route cX9_route 4 (some .int)) := rfl
set_option maxRecDepth 100000 in
theorem jm_mc92 : lw_tbl[800]? = some (.code yX9_circulates cX9_circulates 1 (some .int)) := rfl
set_option maxRecDepth 100000 in
theorem jm_mc93 : lw_tbl[1128]? = some (.code yX9_potential cX9_potential 2 (some .int)) := rfl
set_option maxRecDepth 100000 in
theorem jm_mc94 : lw_tbl[804]? = some (.code yX9_ring cX9_ring 2 (some .int)) := rfl
set_option maxRecDepth 100000 in
theorem jm_mc95 : lw_tbl[818]? = some (.code yX9_flow cX9_flow 3 (some .int)) := rfl
set_option maxRecDepth 100000 in
theorem jm_mc96 : lw_tbl[1135]? = some (.code yX9_on cX9_on 2 (some .int)) := rfl
set_option maxRecDepth 100000 in
theorem jm_mc97 : lw_tbl[1143]? = some (.code yX9_left cX9_left 3 (some .int)) := rfl
set_option maxRecDepth 100000 in
theorem jm_mc98 : lw_tbl[882]? = some (.code yX9_ways cX9_ways 2 (some .int)) := rfl
set_option maxRecDepth 100000 in
theorem jm_mc99 : lw_tbl[1152]? = some (.code yX9_excess cX9_excess 2 (some .int)) := rfl
set_option maxRecDepth 100000 in
theorem jm_mc100 : lw_tbl[886]? = some (.code yX9_cut cX9_cut 4 (some .int)) := rfl
set_option maxRecDepth 100000 in
theorem jm_mc101 : lw_tbl[920]? = some (.code yX9_rings cX9_rings 2 (some .int)) := rfl
set_option maxRecDepth 100000 in
theorem jm_mc102 : lw_tbl[936]? = some (.code yX9_shared cX9_shared 3 (some .int)) := rfl
set_option maxRecDepth 100000 in
theorem jm_mc103 : lw_tbl[967]? = some (.code yX9_gather cX9_gather 4 (some .int)) := rfl
set_option maxRecDepth 100000 in
theorem jm_mc104 : lw_tbl[980]? = some (.code yX9_supply cX9_supply 3 (some .int)) := rfl
set_option maxRecDepth 100000 in
theorem jm_mc105 : lw_tbl[988]? = some (.code yX9_meet cX9_meet 1 (some .int)) := rfl
set_option maxRecDepth 100000 in
theorem jm_mc106 : lw_tbl[996]? = some (.code yX9_gave cX9_gave 3 (some .int)) := rfl
set_option maxRecDepth 100000 in
theorem jm_mc107 : lw_tbl[1000]? = some (.code yX9_were cX9_were 7 (some .int)) := rfl
set_option maxRecDepth 100000 in
theorem jm_mc108 : lw_tbl[1008]? = some (.code yX9_counts cX9_counts 8 (some .int)) := rfl
set_option maxRecDepth 100000 in
theorem jm_mc109 : lw_tbl[1012]? = some (.code yX9_worst cX9_worst 7 (some .int)) := rfl
set_option maxRecDepth 100000 in
theorem jm_mc110 : lw_tbl[1017]? = some (.code yX9_image cX9_image 2 (some .boolean)) := rfl
set_option maxRecDepth 100000 in
theorem jm_mc111 : lw_tbl[1022]? = some (.code yX9_back cX9_back 2 (some .boolean)) := rfl
set_option maxRecDepth 100000 in
theorem jm_mc112 : lw_tbl[1026]? = some (.code yX9_count cX9_count 2 (some .int)) := rfl
set_option maxRecDepth 100000 in
theorem jm_mc113 : lw_tbl[822]? = some (.code yX9_isPair cX9_isPair 3 (some .boolean)) := rfl
set_option maxRecDepth 100000 in
theorem jm_mc114 : lw_tbl[890]? = some (.code yX9_hasCut cX9_hasCut 2 (some .boolean)) := rfl
set_option maxRecDepth 100000 in
theorem jm_mc115 : lw_tbl[705]? = some (.code yX9_isSide cX9_isSide 1 (some .boolean)) := rfl
set_option maxRecDepth 100000 in
theorem jm_mc116 : lw_tbl[727]? = some (.code yX9_isBearable cX9_isBearable 1 (some .boolean)) := rfl
set_option maxRecDepth 100000 in
theorem jm_mc117 : lw_tbl[1004]? = some (.code yX9_valueWith cX9_valueWith 9 (some .int)) := rfl
set_option maxRecDepth 100000 in
theorem jm_mc118 : lw_tbl[1161]? = some (.code yX10_thrown cX10_thrown 1 (some .int)) := rfl
set_option maxRecDepth 100000 in
theorem jm_mc119 : lw_tbl[1343]? = some (.code yX10_within cX10_within 3 (some .boolean)) := rfl
set_option maxRecDepth 100000 in
theorem jm_mc120 : lw_tbl[1171]? = some (.code yX10_begins cX10_begins 4 none) := rfl
set_option maxRecDepth 100000 in
theorem jm_mc121 : lw_tbl[1407]? = some (.code yX10_nodes cX10_nodes 1 (some .int)) := rfl
set_option maxRecDepth 100000 in
theorem jm_mc122 : lw_tbl[1403]? = some (.code yX10_isNode cX10_isNode 2 (some .boolean)) := rfl
set_option maxRecDepth 100000 in
theorem jm_mc123 : lw_tbl[1411]? = some (.code yX10_isCell cX10_isCell 2 (some .boolean)) := rfl
set_option maxRecDepth 100000 in
theorem jm_mc124 : lw_tbl[1399]? = some (.code yX10_isEdge cX10_isEdge 3 (some .boolean)) := rfl
set_option maxRecDepth 100000 in
theorem jm_mc125 : lw_tbl[1435]? = some (.code yX10_fromOf cX10_fromOf 2 (some .int)) := rfl
set_option maxRecDepth 100000 in
theorem jm_mc126 : lw_tbl[1439]? = some (.code yX10_toOf cX10_toOf 3 (some .int)) := rfl
set_option maxRecDepth 100000 in
theorem jm_mc127 : lw_tbl[1447]? = some (.code yX10_faceAt cX10_faceAt 6 (some .int)) := rfl
set_option maxRecDepth 100000 in
theorem jm_mc128 : lw_tbl[1443]? = some (.code yX10_leftOf cX10_leftOf 5 (some .int)) := rfl
set_option maxRecDepth 100000 in
theorem jm_mc129 : lw_tbl[1451]? = some (.code yX10_rightOf cX10_rightOf 5 (some .int)) := rfl
set_option maxRecDepth 100000 in
theorem jm_mc130 : lw_tbl[1459]? = some (.code yX10_isFace cX10_isFace 2 (some .boolean)) := rfl
set_option maxRecDepth 100000 in
theorem jm_mc131 : lw_tbl[1521]? = some (.code yX10_faces cX10_faces 3 (some .int)) := rfl
set_option maxRecDepth 100000 in
theorem jm_mc132 : lw_tbl[1419]? = some (.code yX10_edges cX10_edges 3 (some .int)) := rfl
set_option maxRecDepth 100000 in
theorem jm_mc133 : lw_tbl[1332]? = some (.code yX10_feed cX10_feed 6 (some .int)) := rfl
set_option maxRecDepth 100000 in
theorem jm_mc134 : lw_tbl[1336]? = some (.code yX10_puts cX10_puts 3 none) := rfl
set_option maxRecDepth 100000 in
theorem jm_mc135 : lw_tbl[1351]? = some (.code yX10_byteAt cX10_byteAt 2 (some .int)) := rfl
set_option maxRecDepth 100000 in
theorem jm_mc136 : lw_tbl[1354]? = some (.code yX10_isLetter cX10_isLetter 1 (some .boolean)) := rfl
set_option maxRecDepth 100000 in
theorem jm_mc137 : lw_tbl[1360]? = some (.code yX10_isDigit cX10_isDigit 1 (some .boolean)) := rfl
set_option maxRecDepth 100000 in
theorem jm_mc138 : lw_tbl[1364]? = some (.code yX10_number cX10_number 3 none) := rfl
set_option maxRecDepth 100000 in
theorem jm_mc139 : lw_tbl[1347]? = some (.code yX10_go cX10_go 2 none) := rfl
set_option maxRecDepth 100000 in
theorem jm_mc140 : lw_tbl[1371]? = some (.code yX10_isWord cX10_isWord 3 (some .boolean)) := rfl
set_option maxRecDepth 100000 in
theorem jm_mc141 : lw_tbl[1375]? = some (.code yX10_wrong cX10_wrong 2 (some .boolean)) := rfl
set_option maxRecDepth 100000 in
theorem jm_mc142 : lw_tbl[1379]? = some (.code yX10_number_ cX10_number_ 3 (some .boolean)) := rfl
set_option maxRecDepth 100000 in
theorem jm_mc143 : lw_tbl[1387]? = some (.code yX10_whichHere cX10_whichHere 1 (some .int)) := rfl
set_option maxRecDepth 100000 in
theorem jm_mc144 : lw_tbl[1391]? = some (.code yX10_keeps cX10_keeps 5 (some .boolean)) := rfl
set_option maxRecDepth 100000 in
theorem jm_mc145 : lw_tbl[1383]? = some (.code yX10_line cX10_line 4 (some .boolean)) := rfl
set_option maxRecDepth 100000 in
theorem jm_mc146 : lw_tbl[1395]? = some (.code yX10_bears cX10_bears 6 none) := rfl
set_option maxRecDepth 100000 in
theorem jm_mc147 : lw_tbl[1340]? = some (.code yX10_text cX10_text 4 (some .int)) := rfl
set_option maxRecDepth 100000 in
theorem jm_mc148 : lw_tbl[1415]? = some (.code yX10_grid cX10_grid 3 (some .int)) := rfl
set_option maxRecDepth 100000 in
theorem jm_mc149 : lw_tbl[1423]? = some (.code yX10_slant cX10_slant 4 (some .int)) := rfl
set_option maxRecDepth 100000 in
theorem jm_mc150 : lw_tbl[1427]? = some (.code yX10_bears_ cX10_bears_ 4 (some .boolean)) := rfl
set_option maxRecDepth 100000 in
theorem jm_mc151 : lw_tbl[1431]? = some (.code yX10_edge cX10_edge 3 (some .int)) := rfl
set_option maxRecDepth 100000 in
theorem jm_mc152 : lw_tbl[1463]? = some (.code yX10_isAround cX10_isAround 3 (some .boolean)) := rfl
set_option maxRecDepth 100000 in
theorem jm_mc153 : lw_tbl[1455]? = some (.code yX10_around cX10_around 4 (some .int)) := rfl
set_option maxRecDepth 100000 in
theorem jm_mc154 : lw_tbl[1480]? = some (.code yX10_leftNow cX10_leftNow 3 (some .int)) := rfl
set_option maxRecDepth 100000 in
theorem jm_mc155 : lw_tbl[1484]? = some (.code yX10_rightNow cX10_rightNow 3 (some .int)) := rfl
set_option maxRecDepth 100000 in
theorem jm_mc156 : lw_tbl[1492]? = some (.code yX10_isLess cX10_isLess 4 (some .boolean)) := rfl
set_option maxRecDepth 100000 in
theorem jm_mc157 : lw_tbl[1488]? = some (.code yX10_relaxes cX10_relaxes 4 (some .boolean)) := rfl
set_option maxRecDepth 100000 in
theorem jm_mc158 : lw_tbl[1475]? = some (.code yX10_laysCosts cX10_laysCosts 10 (some .boolean)) := rfl
set_option maxRecDepth 100000 in
theorem jm_mc159 : lw_tbl[1471]? = some (.code yX10_canCirculate cX10_canCirculate 1 (some .boolean)) := rfl
set_option maxRecDepth 100000 in
theorem jm_mc160 : lw_tbl[1467]? = some (.code yX10_distance cX10_distance 4 (some .int)) := rfl
set_option maxRecDepth 100000 in
theorem jm_mc161 : lw_tbl[1501]? = some (.code yX10_nextEdge cX10_nextEdge 7 (some .int)) := rfl
set_option maxRecDepth 100000 in
theorem jm_mc162 : lw_tbl[1497]? = some (.code yX10_route cX10_route 8 (some .int)) := rfl
set_option maxRecDepth 100000 in
theorem jm_mc163 : lw_tbl[1505]? = some (.code yX10_circulates cX10_circulates 1 (some .int)) := rfl
set_option maxRecDepth 100000 in
theorem jm_mc164 : lw_tbl[1509]? = some (.code yX10_potential cX10_potential 2 (some .int)) := rfl
set_option maxRecDepth 100000 in
theorem jm_mc165 : lw_tbl[1525]? = some (.code yX10_betters cX10_betters 5 (some .boolean)) := rfl
set_option maxRecDepth 100000 in
theorem jm_mc166 : lw_tbl[1533]? = some (.code yX10_ahead cX10_ahead 3 (some .int)) := rfl
set_option maxRecDepth 100000 in
theorem jm_mc167 : lw_tbl[1529]? = some (.code yX10_firstBetter cX10_firstBetter 2 (some .int)) := rfl
set_option maxRecDepth 100000 in
theorem jm_mc168 : lw_tbl[1517]? = some (.code yX10_laysRing cX10_laysRing 6 (some .boolean)) := rfl
set_option maxRecDepth 100000 in
theorem jm_mc169 : lw_tbl[1513]? = some (.code yX10_ring cX10_ring 2 (some .int)) := rfl
set_option maxRecDepth 100000 in
theorem jm_mc170 : lw_tbl[1549]? = some (.code yX10_circulates0 cX10_circulates0 2 (some .boolean)) := rfl
set_option maxRecDepth 100000 in
theorem jm_mc171 : lw_tbl[1569]? = some (.code yX10_leftOn cX10_leftOn 3 (some .int)) := rfl
set_option maxRecDepth 100000 in
theorem jm_mc172 : lw_tbl[1561]? = some (.code yX10_edgeAt cX10_edgeAt 6 (some .int)) := rfl
set_option maxRecDepth 100000 in
theorem jm_mc173 : lw_tbl[1565]? = some (.code yX10_otherEnd cX10_otherEnd 3 (some .int)) := rfl
set_option maxRecDepth 100000 in
theorem jm_mc174 : lw_tbl[1573]? = some (.code yX10_isEnd cX10_isEnd 3 (some .boolean)) := rfl
set_option maxRecDepth 100000 in
theorem jm_mc175 : lw_tbl[1557]? = some (.code yX10_search cX10_search 8 (some .boolean)) := rfl
set_option maxRecDepth 100000 in
theorem jm_mc176 : lw_tbl[1577]? = some (.code yX10_leastOnWay cX10_leastOnWay 4 (some .int)) := rfl
set_option maxRecDepth 100000 in
theorem jm_mc177 : lw_tbl[1581]? = some (.code yX10_pushes cX10_pushes 3 none) := rfl
set_option maxRecDepth 100000 in
theorem jm_mc178 : lw_tbl[1553]? = some (.code yX10_flowsMore cX10_flowsMore 6 (some .int)) := rfl
set_option maxRecDepth 100000 in
theorem jm_mc179 : lw_tbl[1589]? = some (.code yX10_isTold cX10_isTold 4 none) := rfl
set_option maxRecDepth 100000 in
theorem jm_mc180 : lw_tbl[1585]? = some (.code yX10_givesNothing cX10_givesNothing 2 none) := rfl
set_option maxRecDepth 100000 in
theorem jm_mc181 : lw_tbl[1541]? = some (.code yX10_areTwo cX10_areTwo 3 (some .boolean)) := rfl
set_option maxRecDepth 100000 in
theorem jm_mc182 : lw_tbl[1545]? = some (.code yX10_valueOf cX10_valueOf 3 (some .int)) := rfl
set_option maxRecDepth 100000 in
theorem jm_mc183 : lw_tbl[1537]? = some (.code yX10_flow cX10_flow 4 (some .int)) := rfl
set_option maxRecDepth 100000 in
theorem jm_mc184 : lw_tbl[1593]? = some (.code yX10_on cX10_on 2 (some .int)) := rfl
set_option maxRecDepth 100000 in
theorem jm_mc185 : lw_tbl[1597]? = some (.code yX10_left cX10_left 3 (some .int)) := rfl
set_option maxRecDepth 100000 in
theorem jm_mc186 : lw_tbl[1601]? = some (.code yX10_ways cX10_ways 2 (some .int)) := rfl
set_option maxRecDepth 100000 in
theorem jm_mc187 : lw_tbl[1605]? = some (.code yX10_excess cX10_excess 4 (some .int)) := rfl
set_option maxRecDepth 100000 in
theorem jm_mc188 : lw_tbl[1625]? = some (.code yX10_leftTold cX10_leftTold 3 (some .int)) := rfl
set_option maxRecDepth 100000 in
theorem jm_mc189 : lw_tbl[1621]? = some (.code yX10_laysSet cX10_laysSet 6 none) := rfl
set_option maxRecDepth 100000 in
theorem jm_mc190 : lw_tbl[1617]? = some (.code yX10_laysSide cX10_laysSide 3 none) := rfl
set_option maxRecDepth 100000 in
theorem jm_mc191 : lw_tbl[1629]? = some (.code yX10_isCut cX10_isCut 2 (some .boolean)) := rfl
set_option maxRecDepth 100000 in
theorem jm_mc192 : lw_tbl[1613]? = some (.code yX10_canCut cX10_canCut 2 (some .boolean)) := rfl
set_option maxRecDepth 100000 in
theorem jm_mc193 : lw_tbl[1609]? = some (.code yX10_cut cX10_cut 6 (some .int)) := rfl
set_option maxRecDepth 100000 in
theorem jm_mc194 : lw_tbl[1637]? = some (.code yX10_areBeside cX10_areBeside 3 (some .boolean)) := rfl
set_option maxRecDepth 100000 in
theorem jm_mc195 : lw_tbl[1633]? = some (.code yX10_rings cX10_rings 8 (some .int)) := rfl
set_option maxRecDepth 100000 in
theorem jm_mc196 : lw_tbl[1645]? = some (.code yX10_isOutside cX10_isOutside 2 (some .boolean)) := rfl
set_option maxRecDepth 100000 in
theorem jm_mc197 : lw_tbl[1649]? = some (.code yX10_edgeClockwise cX10_edgeClockwise 4 (some .int)) := rfl
set_option maxRecDepth 100000 in
theorem jm_mc198 : lw_tbl[1641]? = some (.code yX10_shared cX10_shared 5 (some .int)) := rfl
set_option maxRecDepth 100000 in
theorem jm_mc199 : lw_tbl[1657]? = some (.code yX10_isAt cX10_isAt 5 (some .boolean)) := rfl
set_option maxRecDepth 100000 in
theorem jm_mc200 : lw_tbl[1653]? = some (.code yX10_gather cX10_gather 6 (some .int)) := rfl
set_option maxRecDepth 100000 in
theorem jm_mc201 : lw_tbl[1661]? = some (.code yX10_supply cX10_supply 4 (some .int)) := rfl
set_option maxRecDepth 100000 in
theorem jm_mc202 : lw_tbl[1669]? = some (.code yX10_meets cX10_meets 5 (some .int)) := rfl
set_option maxRecDepth 100000 in
theorem jm_mc203 : lw_tbl[1665]? = some (.code yX10_meet cX10_meet 3 (some .int)) := rfl
set_option maxRecDepth 100000 in
theorem jm_mc204 : lw_tbl[1673]? = some (.code yX10_gave cX10_gave 2 (some .int)) := rfl
set_option maxRecDepth 100000 in
theorem jm_mc205 : lw_tbl[1681]? = some (.code yX10_valueBy cX10_valueBy 9 (some .int)) := rfl
set_option maxRecDepth 100000 in
theorem jm_mc206 : lw_tbl[1677]? = some (.code yX10_were cX10_were 5 (some .int)) := rfl
set_option maxRecDepth 100000 in
theorem jm_mc207 : lw_tbl[1685]? = some (.code yX10_counts cX10_counts 8 (some .int)) := rfl
set_option maxRecDepth 100000 in
theorem jm_mc208 : lw_tbl[1689]? = some (.code yX10_worst cX10_worst 7 (some .int)) := rfl
set_option maxRecDepth 100000 in
theorem jm_mc209 : lw_tbl[1693]? = some (.code yX10_image cX10_image 4 (some .boolean)) := rfl
set_option maxRecDepth 100000 in
theorem jm_mc210 : lw_tbl[1697]? = some (.code yX10_back cX10_back 4 (some .boolean)) := rfl
set_option maxRecDepth 100000 in
theorem jm_mc211 : lw_tbl[1709]? = some (.code yX10_allBears cX10_allBears 3 (some .int)) := rfl
set_option maxRecDepth 100000 in
theorem jm_mc212 : lw_tbl[1705]? = some (.code yX10_aslant cX10_aslant 3 (some .int)) := rfl
set_option maxRecDepth 100000 in
theorem jm_mc213 : lw_tbl[1713]? = some (.code yX10_supplied cX10_supplied 4 (some .int)) := rfl
set_option maxRecDepth 100000 in
theorem jm_mc214 : lw_tbl[1701]? = some (.code yX10_count cX10_count 2 (some .int)) := rfl
set_option maxRecDepth 100000 in
theorem jm_mc215 : lw_tbl[186]? = some (.code yJ7_fill_53178 cJ7_fill_53178 4 none) := rfl
