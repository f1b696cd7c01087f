theorem gw_838 : Cond.code yX11_sky prog_1_method_4_code 1 (some .int) ∈ GT := gt_in 838 (by decide +kernel) rfl
theorem gw_835 : Cond.methodLink RL 7 yX11_sky ∈ GT := gt_in 835 (by decide +kernel) rfl
theorem gw_836 : Cond.instanceMethod yX11_sky ∈ GT := gt_in 836 (by decide +kernel) rfl
theorem gw_837 : Cond.selects RX11 yX11_sky yX11_sky ∈ GT := gt_in 837 (by decide +kernel) rfl
theorem gw_1144 : Cond.code yX11_law prog_1_method_5_code 1 (some .int) ∈ GT := gt_in 1144 (by decide +kernel) rfl
theorem gw_1141 : Cond.methodLink RL 17 yX11_law ∈ GT := gt_in 1141 (by decide +kernel) rfl
theorem gw_1142 : Cond.instanceMethod yX11_law ∈ GT := gt_in 1142 (by decide +kernel) rfl
theorem gw_1143 : Cond.selects RX11 yX11_law yX11_law ∈ GT := gt_in 1143 (by decide +kernel) rfl
theorem gw_1160 : Cond.code yX11_place prog_1_method_7_code 3 (some .int) ∈ GT := gt_in 1160 (by decide +kernel) rfl
theorem gw_1157 : Cond.methodLink RL 20 yX11_place ∈ GT := gt_in 1157 (by decide +kernel) rfl
theorem gw_1158 : Cond.instanceMethod yX11_place ∈ GT := gt_in 1158 (by decide +kernel) rfl
theorem gw_1159 : Cond.selects RX11 yX11_place yX11_place ∈ GT := gt_in 1159 (by decide +kernel) rfl
theorem gw_1205 : Cond.code yX11_pinner prog_1_method_8_code 3 (some .int) ∈ GT := gt_in 1205 (by decide +kernel) rfl
theorem gw_1202 : Cond.methodLink RL 28 yX11_pinner ∈ GT := gt_in 1202 (by decide +kernel) rfl
theorem gw_1203 : Cond.instanceMethod yX11_pinner ∈ GT := gt_in 1203 (by decide +kernel) rfl
theorem gw_1204 : Cond.selects RX11 yX11_pinner yX11_pinner ∈ GT := gt_in 1204 (by decide +kernel) rfl
theorem gw_1216 : Cond.code yX11_rusts prog_1_method_9_code 2 (some .int) ∈ GT := gt_in 1216 (by decide +kernel) rfl
theorem gw_1213 : Cond.methodLink RL 31 yX11_rusts ∈ GT := gt_in 1213 (by decide +kernel) rfl
theorem gw_1214 : Cond.instanceMethod yX11_rusts ∈ GT := gt_in 1214 (by decide +kernel) rfl
theorem gw_1215 : Cond.selects RX11 yX11_rusts yX11_rusts ∈ GT := gt_in 1215 (by decide +kernel) rfl
theorem gw_1225 : Cond.code yX11_pin prog_1_method_10_code 3 (some .int) ∈ GT := gt_in 1225 (by decide +kernel) rfl
theorem gw_1222 : Cond.methodLink RL 35 yX11_pin ∈ GT := gt_in 1222 (by decide +kernel) rfl
theorem gw_1223 : Cond.instanceMethod yX11_pin ∈ GT := gt_in 1223 (by decide +kernel) rfl
theorem gw_1224 : Cond.selects RX11 yX11_pin yX11_pin ∈ GT := gt_in 1224 (by decide +kernel) rfl
theorem gw_1254 : Cond.code yX11_change prog_1_method_11_code 4 (some .int) ∈ GT := gt_in 1254 (by decide +kernel) rfl
theorem gw_1251 : Cond.methodLink RL 40 yX11_change ∈ GT := gt_in 1251 (by decide +kernel) rfl
theorem gw_1252 : Cond.instanceMethod yX11_change ∈ GT := gt_in 1252 (by decide +kernel) rfl
theorem gw_1253 : Cond.selects RX11 yX11_change yX11_change ∈ GT := gt_in 1253 (by decide +kernel) rfl
theorem gw_1261 : Cond.code yX11_go prog_1_method_12_code 4 (some .int) ∈ GT := gt_in 1261 (by decide +kernel) rfl
theorem gw_1258 : Cond.methodLink RL 43 yX11_go ∈ GT := gt_in 1258 (by decide +kernel) rfl
theorem gw_1259 : Cond.instanceMethod yX11_go ∈ GT := gt_in 1259 (by decide +kernel) rfl
theorem gw_1260 : Cond.selects RX11 yX11_go yX11_go ∈ GT := gt_in 1260 (by decide +kernel) rfl
theorem gw_1271 : Cond.code yX11_pull prog_1_method_13_code 3 (some .int) ∈ GT := gt_in 1271 (by decide +kernel) rfl
theorem gw_1268 : Cond.methodLink RL 46 yX11_pull ∈ GT := gt_in 1268 (by decide +kernel) rfl
theorem gw_1269 : Cond.instanceMethod yX11_pull ∈ GT := gt_in 1269 (by decide +kernel) rfl
theorem gw_1270 : Cond.selects RX11 yX11_pull yX11_pull ∈ GT := gt_in 1270 (by decide +kernel) rfl
theorem gw_1280 : Cond.code yX11_hand prog_1_method_14_code 3 (some .int) ∈ GT := gt_in 1280 (by decide +kernel) rfl
theorem gw_1277 : Cond.methodLink RL 49 yX11_hand ∈ GT := gt_in 1277 (by decide +kernel) rfl
theorem gw_1278 : Cond.instanceMethod yX11_hand ∈ GT := gt_in 1278 (by decide +kernel) rfl
theorem gw_1279 : Cond.selects RX11 yX11_hand yX11_hand ∈ GT := gt_in 1279 (by decide +kernel) rfl
theorem gw_1290 : Cond.code yX11_fell prog_1_method_15_code 3 (some .int) ∈ GT := gt_in 1290 (by decide +kernel) rfl
theorem gw_1287 : Cond.methodLink RL 52 yX11_fell ∈ GT := gt_in 1287 (by decide +kernel) rfl
theorem gw_1288 : Cond.instanceMethod yX11_fell ∈ GT := gt_in 1288 (by decide +kernel) rfl
theorem gw_1289 : Cond.selects RX11 yX11_fell yX11_fell ∈ GT := gt_in 1289 (by decide +kernel) rfl
theorem gw_1297 : Cond.code yX11_height prog_1_method_16_code 3 (some .int) ∈ GT := gt_in 1297 (by decide +kernel) rfl
theorem gw_1294 : Cond.methodLink RL 55 yX11_height ∈ GT := gt_in 1294 (by decide +kernel) rfl
theorem gw_1295 : Cond.instanceMethod yX11_height ∈ GT := gt_in 1295 (by decide +kernel) rfl
theorem gw_1296 : Cond.selects RX11 yX11_height yX11_height ∈ GT := gt_in 1296 (by decide +kernel) rfl
theorem gw_1304 : Cond.code yX11_days prog_1_method_17_code 2 (some .int) ∈ GT := gt_in 1304 (by decide +kernel) rfl
theorem gw_1301 : Cond.methodLink RL 58 yX11_days ∈ GT := gt_in 1301 (by decide +kernel) rfl
theorem gw_1302 : Cond.instanceMethod yX11_days ∈ GT := gt_in 1302 (by decide +kernel) rfl
theorem gw_1303 : Cond.selects RX11 yX11_days yX11_days ∈ GT := gt_in 1303 (by decide +kernel) rfl
theorem gw_1317 : Cond.code yX11_round prog_1_method_26_code 10 (some .int) ∈ GT := gt_in 1317 (by decide +kernel) rfl
theorem gw_1314 : Cond.methodLink RL 61 yX11_round ∈ GT := gt_in 1314 (by decide +kernel) rfl
theorem gw_1315 : Cond.instanceMethod yX11_round ∈ GT := gt_in 1315 (by decide +kernel) rfl
theorem gw_1316 : Cond.selects RX11 yX11_round yX11_round ∈ GT := gt_in 1316 (by decide +kernel) rfl
theorem gw_1327 : Cond.code yX11_goes prog_1_method_27_code 2 (some .int) ∈ GT := gt_in 1327 (by decide +kernel) rfl
theorem gw_1324 : Cond.methodLink RL 65 yX11_goes ∈ GT := gt_in 1324 (by decide +kernel) rfl
theorem gw_1325 : Cond.instanceMethod yX11_goes ∈ GT := gt_in 1325 (by decide +kernel) rfl
theorem gw_1326 : Cond.selects RX11 yX11_goes yX11_goes ∈ GT := gt_in 1326 (by decide +kernel) rfl
theorem gw_1356 : Cond.code yX11_before prog_1_method_28_code 5 (some .int) ∈ GT := gt_in 1356 (by decide +kernel) rfl
theorem gw_1353 : Cond.methodLink RL 68 yX11_before ∈ GT := gt_in 1353 (by decide +kernel) rfl
theorem gw_1354 : Cond.instanceMethod yX11_before ∈ GT := gt_in 1354 (by decide +kernel) rfl
theorem gw_1355 : Cond.selects RX11 yX11_before yX11_before ∈ GT := gt_in 1355 (by decide +kernel) rfl
theorem gw_1363 : Cond.code yX11_seen prog_1_method_29_code 5 (some .int) ∈ GT := gt_in 1363 (by decide +kernel) rfl
theorem gw_1360 : Cond.methodLink RL 71 yX11_seen ∈ GT := gt_in 1360 (by decide +kernel) rfl
theorem gw_1361 : Cond.instanceMethod yX11_seen ∈ GT := gt_in 1361 (by decide +kernel) rfl
theorem gw_1362 : Cond.selects RX11 yX11_seen yX11_seen ∈ GT := gt_in 1362 (by decide +kernel) rfl
theorem gw_1384 : Cond.code yX11_climb prog_1_method_30_code 6 (some .int) ∈ GT := gt_in 1384 (by decide +kernel) rfl
theorem gw_1381 : Cond.methodLink RL 75 yX11_climb ∈ GT := gt_in 1381 (by decide +kernel) rfl
theorem gw_1382 : Cond.instanceMethod yX11_climb ∈ GT := gt_in 1382 (by decide +kernel) rfl
theorem gw_1383 : Cond.selects RX11 yX11_climb yX11_climb ∈ GT := gt_in 1383 (by decide +kernel) rfl
theorem gw_1396 : Cond.code yX11_pay prog_1_method_32_code 4 (some .int) ∈ GT := gt_in 1396 (by decide +kernel) rfl
theorem gw_1393 : Cond.methodLink RL 78 yX11_pay ∈ GT := gt_in 1393 (by decide +kernel) rfl
theorem gw_1394 : Cond.instanceMethod yX11_pay ∈ GT := gt_in 1394 (by decide +kernel) rfl
theorem gw_1395 : Cond.selects RX11 yX11_pay yX11_pay ∈ GT := gt_in 1395 (by decide +kernel) rfl
theorem gw_1403 : Cond.code yX11_stars prog_1_method_36_code 5 (some .int) ∈ GT := gt_in 1403 (by decide +kernel) rfl
theorem gw_1400 : Cond.methodLink RL 81 yX11_stars ∈ GT := gt_in 1400 (by decide +kernel) rfl
theorem gw_1401 : Cond.instanceMethod yX11_stars ∈ GT := gt_in 1401 (by decide +kernel) rfl
theorem gw_1402 : Cond.selects RX11 yX11_stars yX11_stars ∈ GT := gt_in 1402 (by decide +kernel) rfl
theorem gw_1410 : Cond.code yX11_ahead prog_1_method_38_code 4 (some .int) ∈ GT := gt_in 1410 (by decide +kernel) rfl
theorem gw_1407 : Cond.methodLink RL 84 yX11_ahead ∈ GT := gt_in 1407 (by decide +kernel) rfl
theorem gw_1408 : Cond.instanceMethod yX11_ahead ∈ GT := gt_in 1408 (by decide +kernel) rfl
theorem gw_1409 : Cond.selects RX11 yX11_ahead yX11_ahead ∈ GT := gt_in 1409 (by decide +kernel) rfl
theorem gw_1417 : Cond.code yX11_odds prog_1_method_39_code 7 (some .int) ∈ GT := gt_in 1417 (by decide +kernel) rfl
theorem gw_1414 : Cond.methodLink RL 87 yX11_odds ∈ GT := gt_in 1414 (by decide +kernel) rfl
theorem gw_1415 : Cond.instanceMethod yX11_odds ∈ GT := gt_in 1415 (by decide +kernel) rfl
theorem gw_1416 : Cond.selects RX11 yX11_odds yX11_odds ∈ GT := gt_in 1416 (by decide +kernel) rfl
theorem gw_1432 : Cond.code yX11_needs prog_1_method_40_code 2 (some .int) ∈ GT := gt_in 1432 (by decide +kernel) rfl
theorem gw_1429 : Cond.methodLink RL 90 yX11_needs ∈ GT := gt_in 1429 (by decide +kernel) rfl
theorem gw_1430 : Cond.instanceMethod yX11_needs ∈ GT := gt_in 1430 (by decide +kernel) rfl
theorem gw_1431 : Cond.selects RX11 yX11_needs yX11_needs ∈ GT := gt_in 1431 (by decide +kernel) rfl
theorem gw_1439 : Cond.code yX11_trial prog_1_method_41_code 4 (some .int) ∈ GT := gt_in 1439 (by decide +kernel) rfl
theorem gw_1436 : Cond.methodLink RL 93 yX11_trial ∈ GT := gt_in 1436 (by decide +kernel) rfl
theorem gw_1437 : Cond.instanceMethod yX11_trial ∈ GT := gt_in 1437 (by decide +kernel) rfl
theorem gw_1438 : Cond.selects RX11 yX11_trial yX11_trial ∈ GT := gt_in 1438 (by decide +kernel) rfl
theorem gw_1446 : Cond.code yX11_span prog_1_method_42_code 7 (some .int) ∈ GT := gt_in 1446 (by decide +kernel) rfl
theorem gw_1443 : Cond.methodLink RL 97 yX11_span ∈ GT := gt_in 1443 (by decide +kernel) rfl
theorem gw_1444 : Cond.instanceMethod yX11_span ∈ GT := gt_in 1444 (by decide +kernel) rfl
theorem gw_1445 : Cond.selects RX11 yX11_span yX11_span ∈ GT := gt_in 1445 (by decide +kernel) rfl
theorem gw_1453 : Cond.code yX11_led prog_1_method_43_code 3 (some .int) ∈ GT := gt_in 1453 (by decide +kernel) rfl
theorem gw_1450 : Cond.methodLink RL 100 yX11_led ∈ GT := gt_in 1450 (by decide +kernel) rfl
theorem gw_1451 : Cond.instanceMethod yX11_led ∈ GT := gt_in 1451 (by decide +kernel) rfl
theorem gw_1452 : Cond.selects RX11 yX11_led yX11_led ∈ GT := gt_in 1452 (by decide +kernel) rfl
theorem gw_1476 : Cond.code yX11_log prog_1_method_44_code 3 (some .int) ∈ GT := gt_in 1476 (by decide +kernel) rfl
theorem gw_1473 : Cond.methodLink RL 103 yX11_log ∈ GT := gt_in 1473 (by decide +kernel) rfl
theorem gw_1474 : Cond.instanceMethod yX11_log ∈ GT := gt_in 1474 (by decide +kernel) rfl
theorem gw_1475 : Cond.selects RX11 yX11_log yX11_log ∈ GT := gt_in 1475 (by decide +kernel) rfl
theorem cw_L_7 : CWV RL 7 yX11_sky cX11_sky 1 (some .int) 0 := ⟨gw_838, gw_160, ⟨by decide, by decide, by decide +kernel⟩, gw_835, gw_836, gw_837⟩
theorem cw_L_17 : CWV RL 17 yX11_law cX11_law 1 (some .int) 0 := ⟨gw_1144, gw_160, ⟨by decide, by decide, by decide +kernel⟩, gw_1141, gw_1142, gw_1143⟩
theorem cw_L_20 : CWV RL 20 yX11_place cX11_place 3 (some .int) 2 := ⟨gw_1160, gw_160, ⟨by decide, by decide, by decide +kernel⟩, gw_1157, gw_1158, gw_1159⟩
theorem cw_L_28 : CWV RL 28 yX11_pinner cX11_pinner 3 (some .int) 2 := ⟨gw_1205, gw_160, ⟨by decide, by decide, by decide +kernel⟩, gw_1202, gw_1203, gw_1204⟩
theorem cw_L_31 : CWV RL 31 yX11_rusts cX11_rusts 2 (some .int) 1 := ⟨gw_1216, gw_160, ⟨by decide, by decide, by decide +kernel⟩, gw_1213, gw_1214, gw_1215⟩
theorem cw_L_35 : CWV RL 35 yX11_pin cX11_pin 3 (some .int) 1 := ⟨gw_1225, gw_160, ⟨by decide, by decide, by decide +kernel⟩, gw_1222, gw_1223, gw_1224⟩
theorem cw_L_40 : CWV RL 40 yX11_change cX11_change 4 (some .int) 1 := ⟨gw_1254, gw_160, ⟨by decide, by decide, by decide +kernel⟩, gw_1251, gw_1252, gw_1253⟩
theorem cw_L_43 : CWV RL 43 yX11_go cX11_go 4 (some .int) 2 := ⟨gw_1261, gw_160, ⟨by decide, by decide, by decide +kernel⟩, gw_1258, gw_1259, gw_1260⟩
theorem cw_L_46 : CWV RL 46 yX11_pull cX11_pull 3 (some .int) 1 := ⟨gw_1271, gw_160, ⟨by decide, by decide, by decide +kernel⟩, gw_1268, gw_1269, gw_1270⟩
theorem cw_L_49 : CWV RL 49 yX11_hand cX11_hand 3 (some .int) 2 := ⟨gw_1280, gw_160, ⟨by decide, by decide, by decide +kernel⟩, gw_1277, gw_1278, gw_1279⟩
theorem cw_L_52 : CWV RL 52 yX11_fell cX11_fell 3 (some .int) 1 := ⟨gw_1290, gw_160, ⟨by decide, by decide, by decide +kernel⟩, gw_1287, gw_1288, gw_1289⟩
theorem cw_L_55 : CWV RL 55 yX11_height cX11_height 3 (some .int) 1 := ⟨gw_1297, gw_160, ⟨by decide, by decide, by decide +kernel⟩, gw_1294, gw_1295, gw_1296⟩
theorem cw_L_58 : CWV RL 58 yX11_days cX11_days 2 (some .int) 1 := ⟨gw_1304, gw_160, ⟨by decide, by decide, by decide +kernel⟩, gw_1301, gw_1302, gw_1303⟩
theorem cw_L_61 : CWV RL 61 yX11_round cX11_round 10 (some .int) 3 := ⟨gw_1317, gw_160, ⟨by decide, by decide, by decide +kernel⟩, gw_1314, gw_1315, gw_1316⟩
theorem cw_L_65 : CWV RL 65 yX11_goes cX11_goes 2 (some .int) 1 := ⟨gw_1327, gw_160, ⟨by decide, by decide, by decide +kernel⟩, gw_1324, gw_1325, gw_1326⟩
theorem cw_L_68 : CWV RL 68 yX11_before cX11_before 5 (some .int) 1 := ⟨gw_1356, gw_160, ⟨by decide, by decide, by decide +kernel⟩, gw_1353, gw_1354, gw_1355⟩
theorem cw_L_71 : CWV RL 71 yX11_seen cX11_seen 5 (some .int) 1 := ⟨gw_1363, gw_160, ⟨by decide, by decide, by decide +kernel⟩, gw_1360, gw_1361, gw_1362⟩
theorem cw_L_75 : CWV RL 75 yX11_climb cX11_climb 6 (some .int) 0 := ⟨gw_1384, gw_160, ⟨by decide, by decide, by decide +kernel⟩, gw_1381, gw_1382, gw_1383⟩
theorem cw_L_78 : CWV RL 78 yX11_pay cX11_pay 4 (some .int) 1 := ⟨gw_1396, gw_160, ⟨by decide, by decide, by decide +kernel⟩, gw_1393, gw_1394, gw_1395⟩
theorem cw_L_81 : CWV RL 81 yX11_stars cX11_stars 5 (some .int) 2 := ⟨gw_1403, gw_160, ⟨by decide, by decide, by decide +kernel⟩, gw_1400, gw_1401, gw_1402⟩
theorem cw_L_84 : CWV RL 84 yX11_ahead cX11_ahead 4 (some .int) 3 := ⟨gw_1410, gw_160, ⟨by decide, by decide, by decide +kernel⟩, gw_1407, gw_1408, gw_1409⟩
theorem cw_L_87 : CWV RL 87 yX11_odds cX11_odds 7 (some .int) 2 := ⟨gw_1417, gw_160, ⟨by decide, by decide, by decide +kernel⟩, gw_1414, gw_1415, gw_1416⟩
theorem cw_L_90 : CWV RL 90 yX11_needs cX11_needs 2 (some .int) 1 := ⟨gw_1432, gw_160, ⟨by decide, by decide, by decide +kernel⟩, gw_1429, gw_1430, gw_1431⟩
theorem cw_L_93 : CWV RL 93 yX11_trial cX11_trial 4 (some .int) 2 := ⟨gw_1439, gw_160, ⟨by decide, by decide, by decide +kernel⟩, gw_1436, gw_1437, gw_1438⟩
theorem cw_L_97 : CWV RL 97 yX11_span cX11_span 7 (some .int) 2 := ⟨gw_1446, gw_160, ⟨by decide, by decide, by decide +kernel⟩, gw_1443, gw_1444, gw_1445⟩
theorem cw_L_100 : CWV RL 100 yX11_led cX11_led 3 (some .int) 2 := ⟨gw_1453, gw_160, ⟨by decide, by decide, by decide +kernel⟩, gw_1450, gw_1451, gw_1452⟩
theorem cw_L_103 : CWV RL 103 yX11_log cX11_log 3 (some .int) 2 := ⟨gw_1476, gw_160, ⟨by decide, by decide, by decide +kernel⟩, gw_1473, gw_1474, gw_1475⟩
def fL_sky (h : Hp)  : Option (Int32 × Hp) := cl3 (fX11_sky h) (fun r k h1 => if k = 0 then lt9 (up2 h1 221 0 r) (fun h2 => some ((0 : Int32), h2)) else if k = 3 then some ((1 : Int32), h1) else if k = 5 then some ((2 : Int32), h1) else none)
set_option maxHeartbeats 4000000 in
set_option maxRecDepth 100000 in
theorem kL_sky (G : Gx) {h : Hp}  {rr : Int32} {hh : Hp} (hf : fL_sky h = some (rr, hh)) : MCW G yL_sky cL_sky 3 (some .int) [(0, 8, 11, 13), (0, 8, 14, 15)] 11 704 h [.ref (gad G 0), .ref (gad G 221)] (some (.int rr)) hh := by
  refine MCW.of RL (by decide) rfl (Nat.le_of_ble_eq_true rfl) rfl (fun X C hTb hG hR hF => ?_)
  subst hG
  unfold fL_sky at hf
  obtain ⟨r, k, h1, e1, hf⟩ := cl3_of hf
  refine r_aload_n (i := 1) C dL_sky_0 rfl 1 rfl ?_
  refine r_iconst (v := 0) C dL_sky_1 (by decide) ?_
  refine r_aload_n (i := 0) C dL_sky_2 rfl 0 rfl ?_
  by_cases c0 : k = 0
  · rw [if_pos c0] at hf
    obtain ⟨h2, eh2, hf⟩ := lt_of hf
    refine r_callC0 (As := []) (st := [.int 0, .ref (gad (xG X) 221)]) C rfl rfl (kX11_sky (xG X) e1) cw_L_7 rfl rfl (Nat.le_of_ble_eq_true rfl) (zw2 hR rfl rfl) (zwc hR) dL_sky_3 c0 ?_
    refine r_i2l C dL_sky_6 ?_
    refine r_last C eh2 dL_sky_7 ?_
    refine r_goto C 17 dL_sky_8 (by decide) ?_
    refine r_iconst (v := 0) C dL_sky_17 (by decide) ?_
    cases hf
    exact r_iretW C (by decide) (by decide) hF dL_sky_18
  · rw [if_neg c0] at hf
    by_cases c1 : k = 3
    · subst c1
      rw [if_pos rfl] at hf
      refine r_callCx (As := []) (st := [.int 0, .ref (gad (xG X) 221)]) C hTb rfl rfl (kX11_sky (xG X) e1) cw_L_7 rfl rfl (Nat.le_of_ble_eq_true rfl) (zw2 hR rfl rfl) (zwc hR) dL_sky_3 (by decide) (tableOf []) (tableOf [(0, 8, 14, 15)]) ⟨0, 8, 11, 13⟩ rfl (fun z hz => absurd hz List.not_mem_nil) (by decide) (by decide) xl_3 xk_3 xe_3 (fun q9 => ?_)
      refine r_astore_n (i := 2) (lv' := [(0, .ref (gad (xG X) 0)), (1, .ref (gad (xG X) 221)), (2, .ref q9)]) C dL_sky_11 rfl (by decide) [1, 2, 0] rfl ?_
      refine r_iconst (v := 1) C dL_sky_12 (by decide) ?_
      cases hf
      exact r_iretW C (by decide) (by decide) hF dL_sky_13
    · rw [if_neg c1] at hf
      by_cases c2 : k = 5
      · subst c2
        rw [if_pos rfl] at hf
        refine r_callCx (As := []) (st := [.int 0, .ref (gad (xG X) 221)]) C hTb rfl rfl (kX11_sky (xG X) e1) cw_L_7 rfl rfl (Nat.le_of_ble_eq_true rfl) (zw2 hR rfl rfl) (zwc hR) dL_sky_3 (by decide) (tableOf [(0, 8, 11, 13)]) (tableOf []) ⟨0, 8, 14, 15⟩ rfl (fun z hz => by rcases List.mem_singleton.mp hz with rfl; exact ⟨3, by decide, xl_3, xe_3, by decide⟩) (by decide) (by decide) xl_5 xk_5 xe_5 (fun q9 => ?_)
        refine r_astore_n (i := 2) (lv' := [(0, .ref (gad (xG X) 0)), (1, .ref (gad (xG X) 221)), (2, .ref q9)]) C dL_sky_14 rfl (by decide) [1, 2, 0] rfl ?_
        refine r_iconst (v := 2) C dL_sky_15 (by decide) ?_
        cases hf
        exact r_iretW C (by decide) (by decide) hF dL_sky_16
      · rw [if_neg c2] at hf
        cases hf
def fL_law (h : Hp)  : Option (Int32 × Hp) := cl3 (fX11_law h) (fun r k h1 => if k = 0 then lt9 (up2 h1 221 0 r) (fun h2 => some ((0 : Int32), h2)) else if k = 3 then some ((1 : Int32), h1) else none)
set_option maxHeartbeats 4000000 in
set_option maxRecDepth 100000 in
theorem kL_law (G : Gx) {h : Hp}  {rr : Int32} {hh : Hp} (hf : fL_law h = some (rr, hh)) : MCW G yL_law cL_law 3 (some .int) [(0, 8, 11, 13)] 88 5632 h [.ref (gad G 0), .ref (gad G 221)] (some (.int rr)) hh := by
  refine MCW.of RL (by decide) rfl (Nat.le_of_ble_eq_true rfl) rfl (fun X C hTb hG hR hF => ?_)
  subst hG
  unfold fL_law at hf
  obtain ⟨r, k, h1, e1, hf⟩ := cl3_of hf
  refine r_aload_n (i := 1) C dL_law_0 rfl 1 rfl ?_
  refine r_iconst (v := 0) C dL_law_1 (by decide) ?_
  refine r_aload_n (i := 0) C dL_law_2 rfl 0 rfl ?_
  by_cases c0 : k = 0
  · rw [if_pos c0] at hf
    obtain ⟨h2, eh2, hf⟩ := lt_of hf
    refine r_callC0 (As := []) (st := [.int 0, .ref (gad (xG X) 221)]) C rfl rfl (kX11_law (xG X) e1) cw_L_17 rfl rfl (Nat.le_of_ble_eq_true rfl) (zw2 hR rfl rfl) (zwc hR) dL_law_3 c0 ?_
    refine r_i2l C dL_law_6 ?_
    refine r_last C eh2 dL_law_7 ?_
    refine r_goto C 14 dL_law_8 (by decide) ?_
    refine r_iconst (v := 0) C dL_law_14 (by decide) ?_
    cases hf
    exact r_iretW C (by decide) (by decide) hF dL_law_15
  · rw [if_neg c0] at hf
    by_cases c1 : k = 3
    · subst c1
      rw [if_pos rfl] at hf
      refine r_callCx (As := []) (st := [.int 0, .ref (gad (xG X) 221)]) C hTb rfl rfl (kX11_law (xG X) e1) cw_L_17 rfl rfl (Nat.le_of_ble_eq_true rfl) (zw2 hR rfl rfl) (zwc hR) dL_law_3 (by decide) (tableOf []) (tableOf []) ⟨0, 8, 11, 13⟩ rfl (fun z hz => absurd hz List.not_mem_nil) (by decide) (by decide) xl_3 xk_3 xe_3 (fun q9 => ?_)
      refine r_astore_n (i := 2) (lv' := [(0, .ref (gad (xG X) 0)), (1, .ref (gad (xG X) 221)), (2, .ref q9)]) C dL_law_11 rfl (by decide) [1, 2, 0] rfl ?_
      refine r_iconst (v := 1) C dL_law_12 (by decide) ?_
      cases hf
      exact r_iretW C (by decide) (by decide) hF dL_law_13
    · rw [if_neg c1] at hf
      cases hf
def fL_place (h : Hp) (a1 : Int32) (a2 : Int32) : Option (Int32 × Hp) := cl3 (fX11_place h a1 a2) (fun r k h1 => if k = 0 then lt9 (up2 h1 221 0 r) (fun h2 => some ((0 : Int32), h2)) else if k = 1 then some ((1 : Int32), h1) else if k = 2 then some ((2 : Int32), h1) else none)
set_option maxHeartbeats 4000000 in
set_option maxRecDepth 100000 in
theorem kL_place (G : Gx) {h : Hp} {a1 : Int32} {a2 : Int32} {rr : Int32} {hh : Hp} (hf : fL_place h a1 a2 = some (rr, hh)) : MCW G yL_place cL_place 5 (some .int) [(0, 10, 13, 24), (0, 10, 17, 26)] 9 576 h [.ref (gad G 0), .int a1, .int a2, .ref (gad G 221)] (some (.int rr)) hh := by
  refine MCW.of RL (by decide) rfl (Nat.le_of_ble_eq_true rfl) rfl (fun X C hTb hG hR hF => ?_)
  subst hG
  unfold fL_place at hf
  obtain ⟨r, k, h1, e1, hf⟩ := cl3_of hf
  refine r_aload_n (i := 3) C dL_place_0 rfl 3 rfl ?_
  refine r_iconst (v := 0) C dL_place_1 (by decide) ?_
  refine r_aload_n (i := 0) C dL_place_2 rfl 0 rfl ?_
  refine r_iload_n (i := 1) C dL_place_3 rfl 1 rfl ?_
  refine r_iload_n (i := 2) C dL_place_4 rfl 2 rfl ?_
  by_cases c0 : k = 0
  · rw [if_pos c0] at hf
    obtain ⟨h2, eh2, hf⟩ := lt_of hf
    refine r_callC0 (As := [.int a1, .int a2]) (st := [.int 0, .ref (gad (xG X) 221)]) C rfl rfl (kX11_place (xG X) e1) cw_L_20 rfl rfl (Nat.le_of_ble_eq_true rfl) (zw2 hR rfl rfl) (zwc hR) dL_place_5 c0 ?_
    refine r_i2l C dL_place_8 ?_
    refine r_last C eh2 dL_place_9 ?_
    refine r_goto C 21 dL_place_10 (by decide) ?_
    refine r_iconst (v := 0) C dL_place_21 (by decide) ?_
    cases hf
    exact r_iretW C (by decide) (by decide) hF dL_place_22
  · rw [if_neg c0] at hf
    by_cases c1 : k = 1
    · subst c1
      rw [if_pos rfl] at hf
      refine r_callCx (As := [.int a1, .int a2]) (st := [.int 0, .ref (gad (xG X) 221)]) C hTb rfl rfl (kX11_place (xG X) e1) cw_L_20 rfl rfl (Nat.le_of_ble_eq_true rfl) (zw2 hR rfl rfl) (zwc hR) dL_place_5 (by decide) (tableOf []) (tableOf [(0, 10, 17, 26)]) ⟨0, 10, 13, 24⟩ rfl (fun z hz => absurd hz List.not_mem_nil) (by decide) (by decide) xl_1 xk_1 xe_1 (fun q9 => ?_)
      refine r_astore (i := 4) (lv' := [(0, .ref (gad (xG X) 0)), (1, .int a1), (2, .int a2), (3, .ref (gad (xG X) 221)), (4, .ref q9)]) C dL_place_13 (by decide) [1, 2, 3, 4, 0] rfl ?_
      refine r_iconst (v := 1) C dL_place_15 (by decide) ?_
      cases hf
      exact r_iretW C (by decide) (by decide) hF dL_place_16
    · rw [if_neg c1] at hf
      by_cases c2 : k = 2
      · subst c2
        rw [if_pos rfl] at hf
        refine r_callCx (As := [.int a1, .int a2]) (st := [.int 0, .ref (gad (xG X) 221)]) C hTb rfl rfl (kX11_place (xG X) e1) cw_L_20 rfl rfl (Nat.le_of_ble_eq_true rfl) (zw2 hR rfl rfl) (zwc hR) dL_place_5 (by decide) (tableOf [(0, 10, 13, 24)]) (tableOf []) ⟨0, 10, 17, 26⟩ rfl (fun z hz => by rcases List.mem_singleton.mp hz with rfl; exact ⟨1, by decide, xl_1, xe_1, by decide⟩) (by decide) (by decide) xl_2 xk_2 xe_2 (fun q9 => ?_)
        refine r_astore (i := 4) (lv' := [(0, .ref (gad (xG X) 0)), (1, .int a1), (2, .int a2), (3, .ref (gad (xG X) 221)), (4, .ref q9)]) C dL_place_17 (by decide) [1, 2, 3, 4, 0] rfl ?_
        refine r_iconst (v := 2) C dL_place_19 (by decide) ?_
        cases hf
        exact r_iretW C (by decide) (by decide) hF dL_place_20
      · rw [if_neg c2] at hf
        cases hf
def fL_pinner (h : Hp) (a1 : Int32) (a2 : Int32) : Option (Int32 × Hp) := cl3 (fX11_pinner h a1 a2) (fun r k h1 => if k = 0 then lt9 (up2 h1 221 0 r) (fun h2 => some ((0 : Int32), h2)) else if k = 1 then some ((1 : Int32), h1) else if k = 2 then some ((2 : Int32), h1) else none)
set_option maxHeartbeats 4000000 in
set_option maxRecDepth 100000 in
theorem kL_pinner (G : Gx) {h : Hp} {a1 : Int32} {a2 : Int32} {rr : Int32} {hh : Hp} (hf : fL_pinner h a1 a2 = some (rr, hh)) : MCW G yL_pinner cL_pinner 5 (some .int) [(0, 10, 13, 24), (0, 10, 17, 26)] 8 512 h [.ref (gad G 0), .int a1, .int a2, .ref (gad G 221)] (some (.int rr)) hh := by
  refine MCW.of RL (by decide) rfl (Nat.le_of_ble_eq_true rfl) rfl (fun X C hTb hG hR hF => ?_)
  subst hG
  unfold fL_pinner at hf
  obtain ⟨r, k, h1, e1, hf⟩ := cl3_of hf
  refine r_aload_n (i := 3) C dL_pinner_0 rfl 3 rfl ?_
  refine r_iconst (v := 0) C dL_pinner_1 (by decide) ?_
  refine r_aload_n (i := 0) C dL_pinner_2 rfl 0 rfl ?_
  refine r_iload_n (i := 1) C dL_pinner_3 rfl 1 rfl ?_
  refine r_iload_n (i := 2) C dL_pinner_4 rfl 2 rfl ?_
  by_cases c0 : k = 0
  · rw [if_pos c0] at hf
    obtain ⟨h2, eh2, hf⟩ := lt_of hf
    refine r_callC0 (As := [.int a1, .int a2]) (st := [.int 0, .ref (gad (xG X) 221)]) C rfl rfl (kX11_pinner (xG X) e1) cw_L_28 rfl rfl (Nat.le_of_ble_eq_true rfl) (zw2 hR rfl rfl) (zwc hR) dL_pinner_5 c0 ?_
    refine r_i2l C dL_pinner_8 ?_
    refine r_last C eh2 dL_pinner_9 ?_
    refine r_goto C 21 dL_pinner_10 (by decide) ?_
    refine r_iconst (v := 0) C dL_pinner_21 (by decide) ?_
    cases hf
    exact r_iretW C (by decide) (by decide) hF dL_pinner_22
  · rw [if_neg c0] at hf
    by_cases c1 : k = 1
    · subst c1
      rw [if_pos rfl] at hf
      refine r_callCx (As := [.int a1, .int a2]) (st := [.int 0, .ref (gad (xG X) 221)]) C hTb rfl rfl (kX11_pinner (xG X) e1) cw_L_28 rfl rfl (Nat.le_of_ble_eq_true rfl) (zw2 hR rfl rfl) (zwc hR) dL_pinner_5 (by decide) (tableOf []) (tableOf [(0, 10, 17, 26)]) ⟨0, 10, 13, 24⟩ rfl (fun z hz => absurd hz List.not_mem_nil) (by decide) (by decide) xl_1 xk_1 xe_1 (fun q9 => ?_)
      refine r_astore (i := 4) (lv' := [(0, .ref (gad (xG X) 0)), (1, .int a1), (2, .int a2), (3, .ref (gad (xG X) 221)), (4, .ref q9)]) C dL_pinner_13 (by decide) [1, 2, 3, 4, 0] rfl ?_
      refine r_iconst (v := 1) C dL_pinner_15 (by decide) ?_
      cases hf
      exact r_iretW C (by decide) (by decide) hF dL_pinner_16
    · rw [if_neg c1] at hf
      by_cases c2 : k = 2
      · subst c2
        rw [if_pos rfl] at hf
        refine r_callCx (As := [.int a1, .int a2]) (st := [.int 0, .ref (gad (xG X) 221)]) C hTb rfl rfl (kX11_pinner (xG X) e1) cw_L_28 rfl rfl (Nat.le_of_ble_eq_true rfl) (zw2 hR rfl rfl) (zwc hR) dL_pinner_5 (by decide) (tableOf [(0, 10, 13, 24)]) (tableOf []) ⟨0, 10, 17, 26⟩ rfl (fun z hz => by rcases List.mem_singleton.mp hz with rfl; exact ⟨1, by decide, xl_1, xe_1, by decide⟩) (by decide) (by decide) xl_2 xk_2 xe_2 (fun q9 => ?_)
        refine r_astore (i := 4) (lv' := [(0, .ref (gad (xG X) 0)), (1, .int a1), (2, .int a2), (3, .ref (gad (xG X) 221)), (4, .ref q9)]) C dL_pinner_17 (by decide) [1, 2, 3, 4, 0] rfl ?_
        refine r_iconst (v := 2) C dL_pinner_19 (by decide) ?_
        cases hf
        exact r_iretW C (by decide) (by decide) hF dL_pinner_20
      · rw [if_neg c2] at hf
        cases hf
def fL_rusts (h : Hp) (a1 : Int32) : Option (Int32 × Hp) := cl3 (fX11_rusts h a1) (fun r k h1 => if k = 0 then lt9 (up2 h1 221 0 r) (fun h2 => some ((0 : Int32), h2)) else if k = 1 then some ((1 : Int32), h1) else none)
set_option maxHeartbeats 4000000 in
set_option maxRecDepth 100000 in
theorem kL_rusts (G : Gx) {h : Hp} {a1 : Int32} {rr : Int32} {hh : Hp} (hf : fL_rusts h a1 = some (rr, hh)) : MCW G yL_rusts cL_rusts 4 (some .int) [(0, 9, 12, 24)] 8 512 h [.ref (gad G 0), .int a1, .ref (gad G 221)] (some (.int rr)) hh := by
  refine MCW.of RL (by decide) rfl (Nat.le_of_ble_eq_true rfl) rfl (fun X C hTb hG hR hF => ?_)
  subst hG
  unfold fL_rusts at hf
  obtain ⟨r, k, h1, e1, hf⟩ := cl3_of hf
  refine r_aload_n (i := 2) C dL_rusts_0 rfl 2 rfl ?_
  refine r_iconst (v := 0) C dL_rusts_1 (by decide) ?_
  refine r_aload_n (i := 0) C dL_rusts_2 rfl 0 rfl ?_
  refine r_iload_n (i := 1) C dL_rusts_3 rfl 1 rfl ?_
  by_cases c0 : k = 0
  · rw [if_pos c0] at hf
    obtain ⟨h2, eh2, hf⟩ := lt_of hf
    refine r_callC0 (As := [.int a1]) (st := [.int 0, .ref (gad (xG X) 221)]) C rfl rfl (kX11_rusts (xG X) e1) cw_L_31 rfl rfl (Nat.le_of_ble_eq_true rfl) (zw2 hR rfl rfl) (zwc hR) dL_rusts_4 c0 ?_
    refine r_i2l C dL_rusts_7 ?_
    refine r_last C eh2 dL_rusts_8 ?_
    refine r_goto C 15 dL_rusts_9 (by decide) ?_
    refine r_iconst (v := 0) C dL_rusts_15 (by decide) ?_
    cases hf
    exact r_iretW C (by decide) (by decide) hF dL_rusts_16
  · rw [if_neg c0] at hf
    by_cases c1 : k = 1
    · subst c1
      rw [if_pos rfl] at hf
      refine r_callCx (As := [.int a1]) (st := [.int 0, .ref (gad (xG X) 221)]) C hTb rfl rfl (kX11_rusts (xG X) e1) cw_L_31 rfl rfl (Nat.le_of_ble_eq_true rfl) (zw2 hR rfl rfl) (zwc hR) dL_rusts_4 (by decide) (tableOf []) (tableOf []) ⟨0, 9, 12, 24⟩ rfl (fun z hz => absurd hz List.not_mem_nil) (by decide) (by decide) xl_1 xk_1 xe_1 (fun q9 => ?_)
      refine r_astore_n (i := 3) (lv' := [(0, .ref (gad (xG X) 0)), (1, .int a1), (2, .ref (gad (xG X) 221)), (3, .ref q9)]) C dL_rusts_12 rfl (by decide) [1, 2, 3, 0] rfl ?_
      refine r_iconst (v := 1) C dL_rusts_13 (by decide) ?_
      cases hf
      exact r_iretW C (by decide) (by decide) hF dL_rusts_14
    · rw [if_neg c1] at hf
      cases hf
def fL_pin (h : Hp) (a1 : Int32) : Option (Int32 × Hp) := cl3 (fX11_pin h a1) (fun r k h1 => if k = 0 then lt9 (up2 h1 221 0 r) (fun h2 => some ((0 : Int32), h2)) else if k = 1 then some ((1 : Int32), h1) else if k = 4 then some ((2 : Int32), h1) else none)
set_option maxHeartbeats 4000000 in
set_option maxRecDepth 100000 in
theorem kL_pin (G : Gx) {h : Hp} {a1 : Int32} {rr : Int32} {hh : Hp} (hf : fL_pin h a1 = some (rr, hh)) : MCW G yL_pin cL_pin 4 (some .int) [(0, 9, 12, 24), (0, 9, 15, 38)] 8 512 h [.ref (gad G 0), .int a1, .ref (gad G 221)] (some (.int rr)) hh := by
  refine MCW.of RL (by decide) rfl (Nat.le_of_ble_eq_true rfl) rfl (fun X C hTb hG hR hF => ?_)
  subst hG
  unfold fL_pin at hf
  obtain ⟨r, k, h1, e1, hf⟩ := cl3_of hf
  refine r_aload_n (i := 2) C dL_pin_0 rfl 2 rfl ?_
  refine r_iconst (v := 0) C dL_pin_1 (by decide) ?_
  refine r_aload_n (i := 0) C dL_pin_2 rfl 0 rfl ?_
  refine r_iload_n (i := 1) C dL_pin_3 rfl 1 rfl ?_
  by_cases c0 : k = 0
  · rw [if_pos c0] at hf
    obtain ⟨h2, eh2, hf⟩ := lt_of hf
    refine r_callC0 (As := [.int a1]) (st := [.int 0, .ref (gad (xG X) 221)]) C rfl rfl (kX11_pin (xG X) e1) cw_L_35 rfl rfl (Nat.le_of_ble_eq_true rfl) (zw2 hR rfl rfl) (zwc hR) dL_pin_4 c0 ?_
    refine r_i2l C dL_pin_7 ?_
    refine r_last C eh2 dL_pin_8 ?_
    refine r_goto C 18 dL_pin_9 (by decide) ?_
    refine r_iconst (v := 0) C dL_pin_18 (by decide) ?_
    cases hf
    exact r_iretW C (by decide) (by decide) hF dL_pin_19
  · rw [if_neg c0] at hf
    by_cases c1 : k = 1
    · subst c1
      rw [if_pos rfl] at hf
      refine r_callCx (As := [.int a1]) (st := [.int 0, .ref (gad (xG X) 221)]) C hTb rfl rfl (kX11_pin (xG X) e1) cw_L_35 rfl rfl (Nat.le_of_ble_eq_true rfl) (zw2 hR rfl rfl) (zwc hR) dL_pin_4 (by decide) (tableOf []) (tableOf [(0, 9, 15, 38)]) ⟨0, 9, 12, 24⟩ rfl (fun z hz => absurd hz List.not_mem_nil) (by decide) (by decide) xl_1 xk_1 xe_1 (fun q9 => ?_)
      refine r_astore_n (i := 3) (lv' := [(0, .ref (gad (xG X) 0)), (1, .int a1), (2, .ref (gad (xG X) 221)), (3, .ref q9)]) C dL_pin_12 rfl (by decide) [1, 2, 3, 0] rfl ?_
      refine r_iconst (v := 1) C dL_pin_13 (by decide) ?_
      cases hf
      exact r_iretW C (by decide) (by decide) hF dL_pin_14
    · rw [if_neg c1] at hf
      by_cases c2 : k = 4
      · subst c2
        rw [if_pos rfl] at hf
        refine r_callCx (As := [.int a1]) (st := [.int 0, .ref (gad (xG X) 221)]) C hTb rfl rfl (kX11_pin (xG X) e1) cw_L_35 rfl rfl (Nat.le_of_ble_eq_true rfl) (zw2 hR rfl rfl) (zwc hR) dL_pin_4 (by decide) (tableOf [(0, 9, 12, 24)]) (tableOf []) ⟨0, 9, 15, 38⟩ rfl (fun z hz => by rcases List.mem_singleton.mp hz with rfl; exact ⟨1, by decide, xl_1, xe_1, by decide⟩) (by decide) (by decide) xl_4 xk_4 xe_4 (fun q9 => ?_)
        refine r_astore_n (i := 3) (lv' := [(0, .ref (gad (xG X) 0)), (1, .int a1), (2, .ref (gad (xG X) 221)), (3, .ref q9)]) C dL_pin_15 rfl (by decide) [1, 2, 3, 0] rfl ?_
        refine r_iconst (v := 2) C dL_pin_16 (by decide) ?_
        cases hf
        exact r_iretW C (by decide) (by decide) hF dL_pin_17
      · rw [if_neg c2] at hf
        cases hf
def fL_change (h : Hp) (a1 : Int32) : Option (Int32 × Hp) := cl3 (fX11_change h a1) (fun r k h1 => if k = 0 then lt9 (up2 h1 221 0 r) (fun h2 => some ((0 : Int32), h2)) else if k = 1 then some ((1 : Int32), h1) else if k = 4 then some ((2 : Int32), h1) else none)
set_option maxHeartbeats 4000000 in
set_option maxRecDepth 100000 in
theorem kL_change (G : Gx) {h : Hp} {a1 : Int32} {rr : Int32} {hh : Hp} (hf : fL_change h a1 = some (rr, hh)) : MCW G yL_change cL_change 4 (some .int) [(0, 9, 12, 24), (0, 9, 15, 38)] 8 512 h [.ref (gad G 0), .int a1, .ref (gad G 221)] (some (.int rr)) hh := by
  refine MCW.of RL (by decide) rfl (Nat.le_of_ble_eq_true rfl) rfl (fun X C hTb hG hR hF => ?_)
  subst hG
  unfold fL_change at hf
  obtain ⟨r, k, h1, e1, hf⟩ := cl3_of hf
  refine r_aload_n (i := 2) C dL_change_0 rfl 2 rfl ?_
  refine r_iconst (v := 0) C dL_change_1 (by decide) ?_
  refine r_aload_n (i := 0) C dL_change_2 rfl 0 rfl ?_
  refine r_iload_n (i := 1) C dL_change_3 rfl 1 rfl ?_
  by_cases c0 : k = 0
  · rw [if_pos c0] at hf
    obtain ⟨h2, eh2, hf⟩ := lt_of hf
    refine r_callC0 (As := [.int a1]) (st := [.int 0, .ref (gad (xG X) 221)]) C rfl rfl (kX11_change (xG X) e1) cw_L_40 rfl rfl (Nat.le_of_ble_eq_true rfl) (zw2 hR rfl rfl) (zwc hR) dL_change_4 c0 ?_
    refine r_i2l C dL_change_7 ?_
    refine r_last C eh2 dL_change_8 ?_
    refine r_goto C 18 dL_change_9 (by decide) ?_
    refine r_iconst (v := 0) C dL_change_18 (by decide) ?_
    cases hf
    exact r_iretW C (by decide) (by decide) hF dL_change_19
  · rw [if_neg c0] at hf
    by_cases c1 : k = 1
    · subst c1
      rw [if_pos rfl] at hf
      refine r_callCx (As := [.int a1]) (st := [.int 0, .ref (gad (xG X) 221)]) C hTb rfl rfl (kX11_change (xG X) e1) cw_L_40 rfl rfl (Nat.le_of_ble_eq_true rfl) (zw2 hR rfl rfl) (zwc hR) dL_change_4 (by decide) (tableOf []) (tableOf [(0, 9, 15, 38)]) ⟨0, 9, 12, 24⟩ rfl (fun z hz => absurd hz List.not_mem_nil) (by decide) (by decide) xl_1 xk_1 xe_1 (fun q9 => ?_)
      refine r_astore_n (i := 3) (lv' := [(0, .ref (gad (xG X) 0)), (1, .int a1), (2, .ref (gad (xG X) 221)), (3, .ref q9)]) C dL_change_12 rfl (by decide) [1, 2, 3, 0] rfl ?_
      refine r_iconst (v := 1) C dL_change_13 (by decide) ?_
      cases hf
      exact r_iretW C (by decide) (by decide) hF dL_change_14
    · rw [if_neg c1] at hf
      by_cases c2 : k = 4
      · subst c2
        rw [if_pos rfl] at hf
        refine r_callCx (As := [.int a1]) (st := [.int 0, .ref (gad (xG X) 221)]) C hTb rfl rfl (kX11_change (xG X) e1) cw_L_40 rfl rfl (Nat.le_of_ble_eq_true rfl) (zw2 hR rfl rfl) (zwc hR) dL_change_4 (by decide) (tableOf [(0, 9, 12, 24)]) (tableOf []) ⟨0, 9, 15, 38⟩ rfl (fun z hz => by rcases List.mem_singleton.mp hz with rfl; exact ⟨1, by decide, xl_1, xe_1, by decide⟩) (by decide) (by decide) xl_4 xk_4 xe_4 (fun q9 => ?_)
        refine r_astore_n (i := 3) (lv' := [(0, .ref (gad (xG X) 0)), (1, .int a1), (2, .ref (gad (xG X) 221)), (3, .ref q9)]) C dL_change_15 rfl (by decide) [1, 2, 3, 0] rfl ?_
        refine r_iconst (v := 2) C dL_change_16 (by decide) ?_
        cases hf
        exact r_iretW C (by decide) (by decide) hF dL_change_17
      · rw [if_neg c2] at hf
        cases hf
def fL_go (h : Hp) (a1 : Int32) (a2 : Int32) : Option (Int32 × Hp) := cl3 (fX11_go h a1 a2) (fun r k h1 => if k = 0 then lt9 (up2 h1 221 0 r) (fun h2 => some ((0 : Int32), h2)) else if k = 1 then some ((1 : Int32), h1) else if k = 3 then some ((2 : Int32), h1) else none)
set_option maxHeartbeats 4000000 in
set_option maxRecDepth 100000 in
theorem kL_go (G : Gx) {h : Hp} {a1 : Int32} {a2 : Int32} {rr : Int32} {hh : Hp} (hf : fL_go h a1 a2 = some (rr, hh)) : MCW G yL_go cL_go 5 (some .int) [(0, 10, 13, 24), (0, 10, 17, 13)] 9 576 h [.ref (gad G 0), .int a1, .int a2, .ref (gad G 221)] (some (.int rr)) hh := by
  refine MCW.of RL (by decide) rfl (Nat.le_of_ble_eq_true rfl) rfl (fun X C hTb hG hR hF => ?_)
  subst hG
  unfold fL_go at hf
  obtain ⟨r, k, h1, e1, hf⟩ := cl3_of hf
  refine r_aload_n (i := 3) C dL_go_0 rfl 3 rfl ?_
  refine r_iconst (v := 0) C dL_go_1 (by decide) ?_
  refine r_aload_n (i := 0) C dL_go_2 rfl 0 rfl ?_
  refine r_iload_n (i := 1) C dL_go_3 rfl 1 rfl ?_
  refine r_iload_n (i := 2) C dL_go_4 rfl 2 rfl ?_
  by_cases c0 : k = 0
  · rw [if_pos c0] at hf
    obtain ⟨h2, eh2, hf⟩ := lt_of hf
    refine r_callC0 (As := [.int a1, .int a2]) (st := [.int 0, .ref (gad (xG X) 221)]) C rfl rfl (kX11_go (xG X) e1) cw_L_43 rfl rfl (Nat.le_of_ble_eq_true rfl) (zw2 hR rfl rfl) (zwc hR) dL_go_5 c0 ?_
    refine r_i2l C dL_go_8 ?_
    refine r_last C eh2 dL_go_9 ?_
    refine r_goto C 21 dL_go_10 (by decide) ?_
    refine r_iconst (v := 0) C dL_go_21 (by decide) ?_
    cases hf
    exact r_iretW C (by decide) (by decide) hF dL_go_22
  · rw [if_neg c0] at hf
    by_cases c1 : k = 1
    · subst c1
      rw [if_pos rfl] at hf
      refine r_callCx (As := [.int a1, .int a2]) (st := [.int 0, .ref (gad (xG X) 221)]) C hTb rfl rfl (kX11_go (xG X) e1) cw_L_43 rfl rfl (Nat.le_of_ble_eq_true rfl) (zw2 hR rfl rfl) (zwc hR) dL_go_5 (by decide) (tableOf []) (tableOf [(0, 10, 17, 13)]) ⟨0, 10, 13, 24⟩ rfl (fun z hz => absurd hz List.not_mem_nil) (by decide) (by decide) xl_1 xk_1 xe_1 (fun q9 => ?_)
      refine r_astore (i := 4) (lv' := [(0, .ref (gad (xG X) 0)), (1, .int a1), (2, .int a2), (3, .ref (gad (xG X) 221)), (4, .ref q9)]) C dL_go_13 (by decide) [1, 2, 3, 4, 0] rfl ?_
      refine r_iconst (v := 1) C dL_go_15 (by decide) ?_
      cases hf
      exact r_iretW C (by decide) (by decide) hF dL_go_16
    · rw [if_neg c1] at hf
      by_cases c2 : k = 3
      · subst c2
        rw [if_pos rfl] at hf
        refine r_callCx (As := [.int a1, .int a2]) (st := [.int 0, .ref (gad (xG X) 221)]) C hTb rfl rfl (kX11_go (xG X) e1) cw_L_43 rfl rfl (Nat.le_of_ble_eq_true rfl) (zw2 hR rfl rfl) (zwc hR) dL_go_5 (by decide) (tableOf [(0, 10, 13, 24)]) (tableOf []) ⟨0, 10, 17, 13⟩ rfl (fun z hz => by rcases List.mem_singleton.mp hz with rfl; exact ⟨1, by decide, xl_1, xe_1, by decide⟩) (by decide) (by decide) xl_3 xk_3 xe_3 (fun q9 => ?_)
        refine r_astore (i := 4) (lv' := [(0, .ref (gad (xG X) 0)), (1, .int a1), (2, .int a2), (3, .ref (gad (xG X) 221)), (4, .ref q9)]) C dL_go_17 (by decide) [1, 2, 3, 4, 0] rfl ?_
        refine r_iconst (v := 2) C dL_go_19 (by decide) ?_
        cases hf
        exact r_iretW C (by decide) (by decide) hF dL_go_20
      · rw [if_neg c2] at hf
        cases hf
def fL_pull (h : Hp) (a1 : Int32) : Option (Int32 × Hp) := cl3 (fX11_pull h a1) (fun r k h1 => if k = 0 then lt9 (up2 h1 221 0 r) (fun h2 => some ((0 : Int32), h2)) else if k = 1 then some ((1 : Int32), h1) else if k = 4 then some ((2 : Int32), h1) else none)
set_option maxHeartbeats 4000000 in
set_option maxRecDepth 100000 in
theorem kL_pull (G : Gx) {h : Hp} {a1 : Int32} {rr : Int32} {hh : Hp} (hf : fL_pull h a1 = some (rr, hh)) : MCW G yL_pull cL_pull 4 (some .int) [(0, 9, 12, 24), (0, 9, 15, 38)] 9 576 h [.ref (gad G 0), .int a1, .ref (gad G 221)] (some (.int rr)) hh := by
  refine MCW.of RL (by decide) rfl (Nat.le_of_ble_eq_true rfl) rfl (fun X C hTb hG hR hF => ?_)
  subst hG
  unfold fL_pull at hf
  obtain ⟨r, k, h1, e1, hf⟩ := cl3_of hf
  refine r_aload_n (i := 2) C dL_pull_0 rfl 2 rfl ?_
  refine r_iconst (v := 0) C dL_pull_1 (by decide) ?_
  refine r_aload_n (i := 0) C dL_pull_2 rfl 0 rfl ?_
  refine r_iload_n (i := 1) C dL_pull_3 rfl 1 rfl ?_
  by_cases c0 : k = 0
  · rw [if_pos c0] at hf
    obtain ⟨h2, eh2, hf⟩ := lt_of hf
    refine r_callC0 (As := [.int a1]) (st := [.int 0, .ref (gad (xG X) 221)]) C rfl rfl (kX11_pull (xG X) e1) cw_L_46 rfl rfl (Nat.le_of_ble_eq_true rfl) (zw2 hR rfl rfl) (zwc hR) dL_pull_4 c0 ?_
    refine r_i2l C dL_pull_7 ?_
    refine r_last C eh2 dL_pull_8 ?_
    refine r_goto C 18 dL_pull_9 (by decide) ?_
    refine r_iconst (v := 0) C dL_pull_18 (by decide) ?_
    cases hf
    exact r_iretW C (by decide) (by decide) hF dL_pull_19
  · rw [if_neg c0] at hf
    by_cases c1 : k = 1
    · subst c1
      rw [if_pos rfl] at hf
      refine r_callCx (As := [.int a1]) (st := [.int 0, .ref (gad (xG X) 221)]) C hTb rfl rfl (kX11_pull (xG X) e1) cw_L_46 rfl rfl (Nat.le_of_ble_eq_true rfl) (zw2 hR rfl rfl) (zwc hR) dL_pull_4 (by decide) (tableOf []) (tableOf [(0, 9, 15, 38)]) ⟨0, 9, 12, 24⟩ rfl (fun z hz => absurd hz List.not_mem_nil) (by decide) (by decide) xl_1 xk_1 xe_1 (fun q9 => ?_)
      refine r_astore_n (i := 3) (lv' := [(0, .ref (gad (xG X) 0)), (1, .int a1), (2, .ref (gad (xG X) 221)), (3, .ref q9)]) C dL_pull_12 rfl (by decide) [1, 2, 3, 0] rfl ?_
      refine r_iconst (v := 1) C dL_pull_13 (by decide) ?_
      cases hf
      exact r_iretW C (by decide) (by decide) hF dL_pull_14
    · rw [if_neg c1] at hf
      by_cases c2 : k = 4
      · subst c2
        rw [if_pos rfl] at hf
        refine r_callCx (As := [.int a1]) (st := [.int 0, .ref (gad (xG X) 221)]) C hTb rfl rfl (kX11_pull (xG X) e1) cw_L_46 rfl rfl (Nat.le_of_ble_eq_true rfl) (zw2 hR rfl rfl) (zwc hR) dL_pull_4 (by decide) (tableOf [(0, 9, 12, 24)]) (tableOf []) ⟨0, 9, 15, 38⟩ rfl (fun z hz => by rcases List.mem_singleton.mp hz with rfl; exact ⟨1, by decide, xl_1, xe_1, by decide⟩) (by decide) (by decide) xl_4 xk_4 xe_4 (fun q9 => ?_)
        refine r_astore_n (i := 3) (lv' := [(0, .ref (gad (xG X) 0)), (1, .int a1), (2, .ref (gad (xG X) 221)), (3, .ref q9)]) C dL_pull_15 rfl (by decide) [1, 2, 3, 0] rfl ?_
        refine r_iconst (v := 2) C dL_pull_16 (by decide) ?_
        cases hf
        exact r_iretW C (by decide) (by decide) hF dL_pull_17
      · rw [if_neg c2] at hf
        cases hf
def fL_hand (h : Hp) (a1 : Int32) (a2 : Int32) : Option (Int32 × Hp) := cl3 (fX11_hand h a1 a2) (fun r k h1 => if k = 0 then lt9 (up2 h1 221 0 r) (fun h2 => some ((0 : Int32), h2)) else if k = 1 then some ((1 : Int32), h1) else if k = 3 then some ((2 : Int32), h1) else if k = 4 then some ((3 : Int32), h1) else none)
set_option maxHeartbeats 4000000 in
set_option maxRecDepth 100000 in
theorem kL_hand (G : Gx) {h : Hp} {a1 : Int32} {a2 : Int32} {rr : Int32} {hh : Hp} (hf : fL_hand h a1 a2 = some (rr, hh)) : MCW G yL_hand cL_hand 5 (some .int) [(0, 10, 13, 24), (0, 10, 17, 13), (0, 10, 21, 38)] 8 512 h [.ref (gad G 0), .int a1, .int a2, .ref (gad G 221)] (some (.int rr)) hh := by
  refine MCW.of RL (by decide) rfl (Nat.le_of_ble_eq_true rfl) rfl (fun X C hTb hG hR hF => ?_)
  subst hG
  unfold fL_hand at hf
  obtain ⟨r, k, h1, e1, hf⟩ := cl3_of hf
  refine r_aload_n (i := 3) C dL_hand_0 rfl 3 rfl ?_
  refine r_iconst (v := 0) C dL_hand_1 (by decide) ?_
  refine r_aload_n (i := 0) C dL_hand_2 rfl 0 rfl ?_
  refine r_iload_n (i := 1) C dL_hand_3 rfl 1 rfl ?_
  refine r_iload_n (i := 2) C dL_hand_4 rfl 2 rfl ?_
  by_cases c0 : k = 0
  · rw [if_pos c0] at hf
    obtain ⟨h2, eh2, hf⟩ := lt_of hf
    refine r_callC0 (As := [.int a1, .int a2]) (st := [.int 0, .ref (gad (xG X) 221)]) C rfl rfl (kX11_hand (xG X) e1) cw_L_49 rfl rfl (Nat.le_of_ble_eq_true rfl) (zw2 hR rfl rfl) (zwc hR) dL_hand_5 c0 ?_
    refine r_i2l C dL_hand_8 ?_
    refine r_last C eh2 dL_hand_9 ?_
    refine r_goto C 25 dL_hand_10 (by decide) ?_
    refine r_iconst (v := 0) C dL_hand_25 (by decide) ?_
    cases hf
    exact r_iretW C (by decide) (by decide) hF dL_hand_26
  · rw [if_neg c0] at hf
    by_cases c1 : k = 1
    · subst c1
      rw [if_pos rfl] at hf
      refine r_callCx (As := [.int a1, .int a2]) (st := [.int 0, .ref (gad (xG X) 221)]) C hTb rfl rfl (kX11_hand (xG X) e1) cw_L_49 rfl rfl (Nat.le_of_ble_eq_true rfl) (zw2 hR rfl rfl) (zwc hR) dL_hand_5 (by decide) (tableOf []) (tableOf [(0, 10, 17, 13), (0, 10, 21, 38)]) ⟨0, 10, 13, 24⟩ rfl (fun z hz => absurd hz List.not_mem_nil) (by decide) (by decide) xl_1 xk_1 xe_1 (fun q9 => ?_)
      refine r_astore (i := 4) (lv' := [(0, .ref (gad (xG X) 0)), (1, .int a1), (2, .int a2), (3, .ref (gad (xG X) 221)), (4, .ref q9)]) C dL_hand_13 (by decide) [1, 2, 3, 4, 0] rfl ?_
      refine r_iconst (v := 1) C dL_hand_15 (by decide) ?_
      cases hf
      exact r_iretW C (by decide) (by decide) hF dL_hand_16
    · rw [if_neg c1] at hf
      by_cases c2 : k = 3
      · subst c2
        rw [if_pos rfl] at hf
        refine r_callCx (As := [.int a1, .int a2]) (st := [.int 0, .ref (gad (xG X) 221)]) C hTb rfl rfl (kX11_hand (xG X) e1) cw_L_49 rfl rfl (Nat.le_of_ble_eq_true rfl) (zw2 hR rfl rfl) (zwc hR) dL_hand_5 (by decide) (tableOf [(0, 10, 13, 24)]) (tableOf [(0, 10, 21, 38)]) ⟨0, 10, 17, 13⟩ rfl (fun z hz => by rcases List.mem_singleton.mp hz with rfl; exact ⟨1, by decide, xl_1, xe_1, by decide⟩) (by decide) (by decide) xl_3 xk_3 xe_3 (fun q9 => ?_)
        refine r_astore (i := 4) (lv' := [(0, .ref (gad (xG X) 0)), (1, .int a1), (2, .int a2), (3, .ref (gad (xG X) 221)), (4, .ref q9)]) C dL_hand_17 (by decide) [1, 2, 3, 4, 0] rfl ?_
        refine r_iconst (v := 2) C dL_hand_19 (by decide) ?_
        cases hf
        exact r_iretW C (by decide) (by decide) hF dL_hand_20
      · rw [if_neg c2] at hf
        by_cases c3 : k = 4
        · subst c3
          rw [if_pos rfl] at hf
          refine r_callCx (As := [.int a1, .int a2]) (st := [.int 0, .ref (gad (xG X) 221)]) C hTb rfl rfl (kX11_hand (xG X) e1) cw_L_49 rfl rfl (Nat.le_of_ble_eq_true rfl) (zw2 hR rfl rfl) (zwc hR) dL_hand_5 (by decide) (tableOf [(0, 10, 13, 24), (0, 10, 17, 13)]) (tableOf []) ⟨0, 10, 21, 38⟩ rfl (fun z hz => by rcases List.mem_cons.mp hz with rfl | hz; exact ⟨1, by decide, xl_1, xe_1, by decide⟩; rcases List.mem_singleton.mp hz with rfl; exact ⟨3, by decide, xl_3, xe_3, by decide⟩) (by decide) (by decide) xl_4 xk_4 xe_4 (fun q9 => ?_)
          refine r_astore (i := 4) (lv' := [(0, .ref (gad (xG X) 0)), (1, .int a1), (2, .int a2), (3, .ref (gad (xG X) 221)), (4, .ref q9)]) C dL_hand_21 (by decide) [1, 2, 3, 4, 0] rfl ?_
          refine r_iconst (v := 3) C dL_hand_23 (by decide) ?_
          cases hf
          exact r_iretW C (by decide) (by decide) hF dL_hand_24
        · rw [if_neg c3] at hf
          cases hf
def fL_fell (h : Hp) (a1 : Int32) : Option (Int32 × Hp) := cl3 (fX11_fell h a1) (fun r k h1 => if k = 0 then lt9 (up2 h1 221 0 r) (fun h2 => some ((0 : Int32), h2)) else if k = 1 then some ((1 : Int32), h1) else none)
set_option maxHeartbeats 4000000 in
set_option maxRecDepth 100000 in
theorem kL_fell (G : Gx) {h : Hp} {a1 : Int32} {rr : Int32} {hh : Hp} (hf : fL_fell h a1 = some (rr, hh)) : MCW G yL_fell cL_fell 4 (some .int) [(0, 9, 12, 24)] 8 512 h [.ref (gad G 0), .int a1, .ref (gad G 221)] (some (.int rr)) hh := by
  refine MCW.of RL (by decide) rfl (Nat.le_of_ble_eq_true rfl) rfl (fun X C hTb hG hR hF => ?_)
  subst hG
  unfold fL_fell at hf
  obtain ⟨r, k, h1, e1, hf⟩ := cl3_of hf
  refine r_aload_n (i := 2) C dL_fell_0 rfl 2 rfl ?_
  refine r_iconst (v := 0) C dL_fell_1 (by decide) ?_
  refine r_aload_n (i := 0) C dL_fell_2 rfl 0 rfl ?_
  refine r_iload_n (i := 1) C dL_fell_3 rfl 1 rfl ?_
  by_cases c0 : k = 0
  · rw [if_pos c0] at hf
    obtain ⟨h2, eh2, hf⟩ := lt_of hf
    refine r_callC0 (As := [.int a1]) (st := [.int 0, .ref (gad (xG X) 221)]) C rfl rfl (kX11_fell (xG X) e1) cw_L_52 rfl rfl (Nat.le_of_ble_eq_true rfl) (zw2 hR rfl rfl) (zwc hR) dL_fell_4 c0 ?_
    refine r_i2l C dL_fell_7 ?_
    refine r_last C eh2 dL_fell_8 ?_
    refine r_goto C 15 dL_fell_9 (by decide) ?_
    refine r_iconst (v := 0) C dL_fell_15 (by decide) ?_
    cases hf
    exact r_iretW C (by decide) (by decide) hF dL_fell_16
  · rw [if_neg c0] at hf
    by_cases c1 : k = 1
    · subst c1
      rw [if_pos rfl] at hf
      refine r_callCx (As := [.int a1]) (st := [.int 0, .ref (gad (xG X) 221)]) C hTb rfl rfl (kX11_fell (xG X) e1) cw_L_52 rfl rfl (Nat.le_of_ble_eq_true rfl) (zw2 hR rfl rfl) (zwc hR) dL_fell_4 (by decide) (tableOf []) (tableOf []) ⟨0, 9, 12, 24⟩ rfl (fun z hz => absurd hz List.not_mem_nil) (by decide) (by decide) xl_1 xk_1 xe_1 (fun q9 => ?_)
      refine r_astore_n (i := 3) (lv' := [(0, .ref (gad (xG X) 0)), (1, .int a1), (2, .ref (gad (xG X) 221)), (3, .ref q9)]) C dL_fell_12 rfl (by decide) [1, 2, 3, 0] rfl ?_
      refine r_iconst (v := 1) C dL_fell_13 (by decide) ?_
      cases hf
      exact r_iretW C (by decide) (by decide) hF dL_fell_14
    · rw [if_neg c1] at hf
      cases hf
def fL_height (h : Hp) (a1 : Int32) : Option (Int32 × Hp) := cl3 (fX11_height h a1) (fun r k h1 => if k = 0 then lt9 (up2 h1 221 0 r) (fun h2 => some ((0 : Int32), h2)) else if k = 3 then some ((1 : Int32), h1) else none)
set_option maxHeartbeats 4000000 in
set_option maxRecDepth 100000 in
theorem kL_height (G : Gx) {h : Hp} {a1 : Int32} {rr : Int32} {hh : Hp} (hf : fL_height h a1 = some (rr, hh)) : MCW G yL_height cL_height 4 (some .int) [(0, 9, 12, 13)] 8 512 h [.ref (gad G 0), .int a1, .ref (gad G 221)] (some (.int rr)) hh := by
  refine MCW.of RL (by decide) rfl (Nat.le_of_ble_eq_true rfl) rfl (fun X C hTb hG hR hF => ?_)
  subst hG
  unfold fL_height at hf
  obtain ⟨r, k, h1, e1, hf⟩ := cl3_of hf
  refine r_aload_n (i := 2) C dL_height_0 rfl 2 rfl ?_
  refine r_iconst (v := 0) C dL_height_1 (by decide) ?_
  refine r_aload_n (i := 0) C dL_height_2 rfl 0 rfl ?_
  refine r_iload_n (i := 1) C dL_height_3 rfl 1 rfl ?_
  by_cases c0 : k = 0
  · rw [if_pos c0] at hf
    obtain ⟨h2, eh2, hf⟩ := lt_of hf
    refine r_callC0 (As := [.int a1]) (st := [.int 0, .ref (gad (xG X) 221)]) C rfl rfl (kX11_height (xG X) e1) cw_L_55 rfl rfl (Nat.le_of_ble_eq_true rfl) (zw2 hR rfl rfl) (zwc hR) dL_height_4 c0 ?_
    refine r_i2l C dL_height_7 ?_
    refine r_last C eh2 dL_height_8 ?_
    refine r_goto C 15 dL_height_9 (by decide) ?_
    refine r_iconst (v := 0) C dL_height_15 (by decide) ?_
    cases hf
    exact r_iretW C (by decide) (by decide) hF dL_height_16
  · rw [if_neg c0] at hf
    by_cases c1 : k = 3
    · subst c1
      rw [if_pos rfl] at hf
      refine r_callCx (As := [.int a1]) (st := [.int 0, .ref (gad (xG X) 221)]) C hTb rfl rfl (kX11_height (xG X) e1) cw_L_55 rfl rfl (Nat.le_of_ble_eq_true rfl) (zw2 hR rfl rfl) (zwc hR) dL_height_4 (by decide) (tableOf []) (tableOf []) ⟨0, 9, 12, 13⟩ rfl (fun z hz => absurd hz List.not_mem_nil) (by decide) (by decide) xl_3 xk_3 xe_3 (fun q9 => ?_)
      refine r_astore_n (i := 3) (lv' := [(0, .ref (gad (xG X) 0)), (1, .int a1), (2, .ref (gad (xG X) 221)), (3, .ref q9)]) C dL_height_12 rfl (by decide) [1, 2, 3, 0] rfl ?_
      refine r_iconst (v := 1) C dL_height_13 (by decide) ?_
      cases hf
      exact r_iretW C (by decide) (by decide) hF dL_height_14
    · rw [if_neg c1] at hf
      cases hf
def fL_days (h : Hp) (a1 : Int32) : Option (Int32 × Hp) := cl3 (fX11_days h a1) (fun r k h1 => if k = 0 then lt9 (up2 h1 221 0 r) (fun h2 => some ((0 : Int32), h2)) else if k = 3 then some ((1 : Int32), h1) else none)
set_option maxHeartbeats 4000000 in
set_option maxRecDepth 100000 in
theorem kL_days (G : Gx) {h : Hp} {a1 : Int32} {rr : Int32} {hh : Hp} (hf : fL_days h a1 = some (rr, hh)) : MCW G yL_days cL_days 4 (some .int) [(0, 9, 12, 13)] 9 576 h [.ref (gad G 0), .int a1, .ref (gad G 221)] (some (.int rr)) hh := by
  refine MCW.of RL (by decide) rfl (Nat.le_of_ble_eq_true rfl) rfl (fun X C hTb hG hR hF => ?_)
  subst hG
  unfold fL_days at hf
  obtain ⟨r, k, h1, e1, hf⟩ := cl3_of hf
  refine r_aload_n (i := 2) C dL_days_0 rfl 2 rfl ?_
  refine r_iconst (v := 0) C dL_days_1 (by decide) ?_
  refine r_aload_n (i := 0) C dL_days_2 rfl 0 rfl ?_
  refine r_iload_n (i := 1) C dL_days_3 rfl 1 rfl ?_
  by_cases c0 : k = 0
  · rw [if_pos c0] at hf
    obtain ⟨h2, eh2, hf⟩ := lt_of hf
    refine r_callC0 (As := [.int a1]) (st := [.int 0, .ref (gad (xG X) 221)]) C rfl rfl (kX11_days (xG X) e1) cw_L_58 rfl rfl (Nat.le_of_ble_eq_true rfl) (zw2 hR rfl rfl) (zwc hR) dL_days_4 c0 ?_
    refine r_i2l C dL_days_7 ?_
    refine r_last C eh2 dL_days_8 ?_
    refine r_goto C 15 dL_days_9 (by decide) ?_
    refine r_iconst (v := 0) C dL_days_15 (by decide) ?_
    cases hf
    exact r_iretW C (by decide) (by decide) hF dL_days_16
  · rw [if_neg c0] at hf
    by_cases c1 : k = 3
    · subst c1
      rw [if_pos rfl] at hf
      refine r_callCx (As := [.int a1]) (st := [.int 0, .ref (gad (xG X) 221)]) C hTb rfl rfl (kX11_days (xG X) e1) cw_L_58 rfl rfl (Nat.le_of_ble_eq_true rfl) (zw2 hR rfl rfl) (zwc hR) dL_days_4 (by decide) (tableOf []) (tableOf []) ⟨0, 9, 12, 13⟩ rfl (fun z hz => absurd hz List.not_mem_nil) (by decide) (by decide) xl_3 xk_3 xe_3 (fun q9 => ?_)
      refine r_astore_n (i := 3) (lv' := [(0, .ref (gad (xG X) 0)), (1, .int a1), (2, .ref (gad (xG X) 221)), (3, .ref q9)]) C dL_days_12 rfl (by decide) [1, 2, 3, 0] rfl ?_
      refine r_iconst (v := 1) C dL_days_13 (by decide) ?_
      cases hf
      exact r_iretW C (by decide) (by decide) hF dL_days_14
    · rw [if_neg c1] at hf
      cases hf
def fL_round (h : Hp) (a1 : Int32) (a2 : Int32) (a3 : Int32) : Option (Int32 × Hp) := cl3 (fX11_round h a1 a2 a3) (fun r k h1 => if k = 0 then lt9 (up2 h1 221 0 r) (fun h2 => some ((0 : Int32), h2)) else if k = 1 then some ((1 : Int32), h1) else none)
set_option maxHeartbeats 4000000 in
set_option maxRecDepth 100000 in
theorem kL_round (G : Gx) {h : Hp} {a1 : Int32} {a2 : Int32} {a3 : Int32} {rr : Int32} {hh : Hp} (hf : fL_round h a1 a2 a3 = some (rr, hh)) : MCW G yL_round cL_round 6 (some .int) [(0, 12, 15, 24)] 9 576 h [.ref (gad G 0), .int a1, .int a2, .int a3, .ref (gad G 221)] (some (.int rr)) hh := by
  refine MCW.of RL (by decide) rfl (Nat.le_of_ble_eq_true rfl) rfl (fun X C hTb hG hR hF => ?_)
  subst hG
  unfold fL_round at hf
  obtain ⟨r, k, h1, e1, hf⟩ := cl3_of hf
  refine r_aload (i := 4) C dL_round_0 4 rfl ?_
  refine r_iconst (v := 0) C dL_round_2 (by decide) ?_
  refine r_aload_n (i := 0) C dL_round_3 rfl 0 rfl ?_
  refine r_iload_n (i := 1) C dL_round_4 rfl 1 rfl ?_
  refine r_iload_n (i := 2) C dL_round_5 rfl 2 rfl ?_
  refine r_iload_n (i := 3) C dL_round_6 rfl 3 rfl ?_
  by_cases c0 : k = 0
  · rw [if_pos c0] at hf
    obtain ⟨h2, eh2, hf⟩ := lt_of hf
    refine r_callC0 (As := [.int a1, .int a2, .int a3]) (st := [.int 0, .ref (gad (xG X) 221)]) C rfl rfl (kX11_round (xG X) e1) cw_L_61 rfl rfl (Nat.le_of_ble_eq_true rfl) (zw2 hR rfl rfl) (zwc hR) dL_round_7 c0 ?_
    refine r_i2l C dL_round_10 ?_
    refine r_last C eh2 dL_round_11 ?_
    refine r_goto C 19 dL_round_12 (by decide) ?_
    refine r_iconst (v := 0) C dL_round_19 (by decide) ?_
    cases hf
    exact r_iretW C (by decide) (by decide) hF dL_round_20
  · rw [if_neg c0] at hf
    by_cases c1 : k = 1
    · subst c1
      rw [if_pos rfl] at hf
      refine r_callCx (As := [.int a1, .int a2, .int a3]) (st := [.int 0, .ref (gad (xG X) 221)]) C hTb rfl rfl (kX11_round (xG X) e1) cw_L_61 rfl rfl (Nat.le_of_ble_eq_true rfl) (zw2 hR rfl rfl) (zwc hR) dL_round_7 (by decide) (tableOf []) (tableOf []) ⟨0, 12, 15, 24⟩ rfl (fun z hz => absurd hz List.not_mem_nil) (by decide) (by decide) xl_1 xk_1 xe_1 (fun q9 => ?_)
      refine r_astore (i := 5) (lv' := [(0, .ref (gad (xG X) 0)), (1, .int a1), (2, .int a2), (3, .int a3), (4, .ref (gad (xG X) 221)), (5, .ref q9)]) C dL_round_15 (by decide) [1, 2, 3, 4, 5, 0] rfl ?_
      refine r_iconst (v := 1) C dL_round_17 (by decide) ?_
      cases hf
      exact r_iretW C (by decide) (by decide) hF dL_round_18
    · rw [if_neg c1] at hf
      cases hf
def fL_goes (h : Hp) (a1 : Int32) : Option (Int32 × Hp) := cl3 (fX11_goes h a1) (fun r k h1 => if k = 0 then lt9 (up2 h1 221 0 r) (fun h2 => some ((0 : Int32), h2)) else if k = 1 then some ((1 : Int32), h1) else if k = 3 then some ((2 : Int32), h1) else none)
set_option maxHeartbeats 4000000 in
set_option maxRecDepth 100000 in
theorem kL_goes (G : Gx) {h : Hp} {a1 : Int32} {rr : Int32} {hh : Hp} (hf : fL_goes h a1 = some (rr, hh)) : MCW G yL_goes cL_goes 4 (some .int) [(0, 9, 12, 24), (0, 9, 15, 13)] 87 5568 h [.ref (gad G 0), .int a1, .ref (gad G 221)] (some (.int rr)) hh := by
  refine MCW.of RL (by decide) rfl (Nat.le_of_ble_eq_true rfl) rfl (fun X C hTb hG hR hF => ?_)
  subst hG
  unfold fL_goes at hf
  obtain ⟨r, k, h1, e1, hf⟩ := cl3_of hf
  refine r_aload_n (i := 2) C dL_goes_0 rfl 2 rfl ?_
  refine r_iconst (v := 0) C dL_goes_1 (by decide) ?_
  refine r_aload_n (i := 0) C dL_goes_2 rfl 0 rfl ?_
  refine r_iload_n (i := 1) C dL_goes_3 rfl 1 rfl ?_
  by_cases c0 : k = 0
  · rw [if_pos c0] at hf
    obtain ⟨h2, eh2, hf⟩ := lt_of hf
    refine r_callC0 (As := [.int a1]) (st := [.int 0, .ref (gad (xG X) 221)]) C rfl rfl (kX11_goes (xG X) e1) cw_L_65 rfl rfl (Nat.le_of_ble_eq_true rfl) (zw2 hR rfl rfl) (zwc hR) dL_goes_4 c0 ?_
    refine r_i2l C dL_goes_7 ?_
    refine r_last C eh2 dL_goes_8 ?_
    refine r_goto C 18 dL_goes_9 (by decide) ?_
    refine r_iconst (v := 0) C dL_goes_18 (by decide) ?_
    cases hf
    exact r_iretW C (by decide) (by decide) hF dL_goes_19
  · rw [if_neg c0] at hf
    by_cases c1 : k = 1
    · subst c1
      rw [if_pos rfl] at hf
      refine r_callCx (As := [.int a1]) (st := [.int 0, .ref (gad (xG X) 221)]) C hTb rfl rfl (kX11_goes (xG X) e1) cw_L_65 rfl rfl (Nat.le_of_ble_eq_true rfl) (zw2 hR rfl rfl) (zwc hR) dL_goes_4 (by decide) (tableOf []) (tableOf [(0, 9, 15, 13)]) ⟨0, 9, 12, 24⟩ rfl (fun z hz => absurd hz List.not_mem_nil) (by decide) (by decide) xl_1 xk_1 xe_1 (fun q9 => ?_)
      refine r_astore_n (i := 3) (lv' := [(0, .ref (gad (xG X) 0)), (1, .int a1), (2, .ref (gad (xG X) 221)), (3, .ref q9)]) C dL_goes_12 rfl (by decide) [1, 2, 3, 0] rfl ?_
      refine r_iconst (v := 1) C dL_goes_13 (by decide) ?_
      cases hf
      exact r_iretW C (by decide) (by decide) hF dL_goes_14
    · rw [if_neg c1] at hf
      by_cases c2 : k = 3
      · subst c2
        rw [if_pos rfl] at hf
        refine r_callCx (As := [.int a1]) (st := [.int 0, .ref (gad (xG X) 221)]) C hTb rfl rfl (kX11_goes (xG X) e1) cw_L_65 rfl rfl (Nat.le_of_ble_eq_true rfl) (zw2 hR rfl rfl) (zwc hR) dL_goes_4 (by decide) (tableOf [(0, 9, 12, 24)]) (tableOf []) ⟨0, 9, 15, 13⟩ rfl (fun z hz => by rcases List.mem_singleton.mp hz with rfl; exact ⟨1, by decide, xl_1, xe_1, by decide⟩) (by decide) (by decide) xl_3 xk_3 xe_3 (fun q9 => ?_)
        refine r_astore_n (i := 3) (lv' := [(0, .ref (gad (xG X) 0)), (1, .int a1), (2, .ref (gad (xG X) 221)), (3, .ref q9)]) C dL_goes_15 rfl (by decide) [1, 2, 3, 0] rfl ?_
        refine r_iconst (v := 2) C dL_goes_16 (by decide) ?_
        cases hf
        exact r_iretW C (by decide) (by decide) hF dL_goes_17
      · rw [if_neg c2] at hf
        cases hf
def fL_before (h : Hp) (a1 : Int32) : Option (Int32 × Hp) := cl3 (fX11_before h a1) (fun r k h1 => if k = 0 then lt9 (up2 h1 221 0 r) (fun h2 => some ((0 : Int32), h2)) else if k = 3 then some ((1 : Int32), h1) else none)
set_option maxHeartbeats 4000000 in
set_option maxRecDepth 100000 in
theorem kL_before (G : Gx) {h : Hp} {a1 : Int32} {rr : Int32} {hh : Hp} (hf : fL_before h a1 = some (rr, hh)) : MCW G yL_before cL_before 4 (some .int) [(0, 9, 12, 13)] 9 576 h [.ref (gad G 0), .int a1, .ref (gad G 221)] (some (.int rr)) hh := by
  refine MCW.of RL (by decide) rfl (Nat.le_of_ble_eq_true rfl) rfl (fun X C hTb hG hR hF => ?_)
  subst hG
  unfold fL_before at hf
  obtain ⟨r, k, h1, e1, hf⟩ := cl3_of hf
  refine r_aload_n (i := 2) C dL_before_0 rfl 2 rfl ?_
  refine r_iconst (v := 0) C dL_before_1 (by decide) ?_
  refine r_aload_n (i := 0) C dL_before_2 rfl 0 rfl ?_
  refine r_iload_n (i := 1) C dL_before_3 rfl 1 rfl ?_
  by_cases c0 : k = 0
  · rw [if_pos c0] at hf
    obtain ⟨h2, eh2, hf⟩ := lt_of hf
    refine r_callC0 (As := [.int a1]) (st := [.int 0, .ref (gad (xG X) 221)]) C rfl rfl (kX11_before (xG X) e1) cw_L_68 rfl rfl (Nat.le_of_ble_eq_true rfl) (zw2 hR rfl rfl) (zwc hR) dL_before_4 c0 ?_
    refine r_i2l C dL_before_7 ?_
    refine r_last C eh2 dL_before_8 ?_
    refine r_goto C 15 dL_before_9 (by decide) ?_
    refine r_iconst (v := 0) C dL_before_15 (by decide) ?_
    cases hf
    exact r_iretW C (by decide) (by decide) hF dL_before_16
  · rw [if_neg c0] at hf
    by_cases c1 : k = 3
    · subst c1
      rw [if_pos rfl] at hf
      refine r_callCx (As := [.int a1]) (st := [.int 0, .ref (gad (xG X) 221)]) C hTb rfl rfl (kX11_before (xG X) e1) cw_L_68 rfl rfl (Nat.le_of_ble_eq_true rfl) (zw2 hR rfl rfl) (zwc hR) dL_before_4 (by decide) (tableOf []) (tableOf []) ⟨0, 9, 12, 13⟩ rfl (fun z hz => absurd hz List.not_mem_nil) (by decide) (by decide) xl_3 xk_3 xe_3 (fun q9 => ?_)
      refine r_astore_n (i := 3) (lv' := [(0, .ref (gad (xG X) 0)), (1, .int a1), (2, .ref (gad (xG X) 221)), (3, .ref q9)]) C dL_before_12 rfl (by decide) [1, 2, 3, 0] rfl ?_
      refine r_iconst (v := 1) C dL_before_13 (by decide) ?_
      cases hf
      exact r_iretW C (by decide) (by decide) hF dL_before_14
    · rw [if_neg c1] at hf
      cases hf
def fL_seen (h : Hp) (a1 : Int32) : Option (Int32 × Hp) := cl3 (fX11_seen h a1) (fun r k h1 => if k = 0 then lt9 (up2 h1 221 0 r) (fun h2 => some ((0 : Int32), h2)) else if k = 3 then some ((1 : Int32), h1) else none)
set_option maxHeartbeats 4000000 in
set_option maxRecDepth 100000 in
theorem kL_seen (G : Gx) {h : Hp} {a1 : Int32} {rr : Int32} {hh : Hp} (hf : fL_seen h a1 = some (rr, hh)) : MCW G yL_seen cL_seen 4 (some .int) [(0, 9, 12, 13)] 9 576 h [.ref (gad G 0), .int a1, .ref (gad G 221)] (some (.int rr)) hh := by
  refine MCW.of RL (by decide) rfl (Nat.le_of_ble_eq_true rfl) rfl (fun X C hTb hG hR hF => ?_)
  subst hG
  unfold fL_seen at hf
  obtain ⟨r, k, h1, e1, hf⟩ := cl3_of hf
  refine r_aload_n (i := 2) C dL_seen_0 rfl 2 rfl ?_
  refine r_iconst (v := 0) C dL_seen_1 (by decide) ?_
  refine r_aload_n (i := 0) C dL_seen_2 rfl 0 rfl ?_
  refine r_iload_n (i := 1) C dL_seen_3 rfl 1 rfl ?_
  by_cases c0 : k = 0
  · rw [if_pos c0] at hf
    obtain ⟨h2, eh2, hf⟩ := lt_of hf
    refine r_callC0 (As := [.int a1]) (st := [.int 0, .ref (gad (xG X) 221)]) C rfl rfl (kX11_seen (xG X) e1) cw_L_71 rfl rfl (Nat.le_of_ble_eq_true rfl) (zw2 hR rfl rfl) (zwc hR) dL_seen_4 c0 ?_
    refine r_i2l C dL_seen_7 ?_
    refine r_last C eh2 dL_seen_8 ?_
    refine r_goto C 15 dL_seen_9 (by decide) ?_
    refine r_iconst (v := 0) C dL_seen_15 (by decide) ?_
    cases hf
    exact r_iretW C (by decide) (by decide) hF dL_seen_16
  · rw [if_neg c0] at hf
    by_cases c1 : k = 3
    · subst c1
      rw [if_pos rfl] at hf
      refine r_callCx (As := [.int a1]) (st := [.int 0, .ref (gad (xG X) 221)]) C hTb rfl rfl (kX11_seen (xG X) e1) cw_L_71 rfl rfl (Nat.le_of_ble_eq_true rfl) (zw2 hR rfl rfl) (zwc hR) dL_seen_4 (by decide) (tableOf []) (tableOf []) ⟨0, 9, 12, 13⟩ rfl (fun z hz => absurd hz List.not_mem_nil) (by decide) (by decide) xl_3 xk_3 xe_3 (fun q9 => ?_)
      refine r_astore_n (i := 3) (lv' := [(0, .ref (gad (xG X) 0)), (1, .int a1), (2, .ref (gad (xG X) 221)), (3, .ref q9)]) C dL_seen_12 rfl (by decide) [1, 2, 3, 0] rfl ?_
      refine r_iconst (v := 1) C dL_seen_13 (by decide) ?_
      cases hf
      exact r_iretW C (by decide) (by decide) hF dL_seen_14
    · rw [if_neg c1] at hf
      cases hf
def fL_climb (h : Hp)  : Option (Int32 × Hp) := cl3 (fX11_climb h) (fun r k h1 => if k = 0 then lt9 (up2 h1 221 0 r) (fun h2 => some ((0 : Int32), h2)) else if k = 3 then some ((1 : Int32), h1) else none)
set_option maxHeartbeats 4000000 in
set_option maxRecDepth 100000 in
theorem kL_climb (G : Gx) {h : Hp}  {rr : Int32} {hh : Hp} (hf : fL_climb h = some (rr, hh)) : MCW G yL_climb cL_climb 3 (some .int) [(0, 8, 11, 13)] 9 576 h [.ref (gad G 0), .ref (gad G 221)] (some (.int rr)) hh := by
  refine MCW.of RL (by decide) rfl (Nat.le_of_ble_eq_true rfl) rfl (fun X C hTb hG hR hF => ?_)
  subst hG
  unfold fL_climb at hf
  obtain ⟨r, k, h1, e1, hf⟩ := cl3_of hf
  refine r_aload_n (i := 1) C dL_climb_0 rfl 1 rfl ?_
  refine r_iconst (v := 0) C dL_climb_1 (by decide) ?_
  refine r_aload_n (i := 0) C dL_climb_2 rfl 0 rfl ?_
  by_cases c0 : k = 0
  · rw [if_pos c0] at hf
    obtain ⟨h2, eh2, hf⟩ := lt_of hf
    refine r_callC0 (As := []) (st := [.int 0, .ref (gad (xG X) 221)]) C rfl rfl (kX11_climb (xG X) e1) cw_L_75 rfl rfl (Nat.le_of_ble_eq_true rfl) (zw2 hR rfl rfl) (zwc hR) dL_climb_3 c0 ?_
    refine r_i2l C dL_climb_6 ?_
    refine r_last C eh2 dL_climb_7 ?_
    refine r_goto C 14 dL_climb_8 (by decide) ?_
    refine r_iconst (v := 0) C dL_climb_14 (by decide) ?_
    cases hf
    exact r_iretW C (by decide) (by decide) hF dL_climb_15
  · rw [if_neg c0] at hf
    by_cases c1 : k = 3
    · subst c1
      rw [if_pos rfl] at hf
      refine r_callCx (As := []) (st := [.int 0, .ref (gad (xG X) 221)]) C hTb rfl rfl (kX11_climb (xG X) e1) cw_L_75 rfl rfl (Nat.le_of_ble_eq_true rfl) (zw2 hR rfl rfl) (zwc hR) dL_climb_3 (by decide) (tableOf []) (tableOf []) ⟨0, 8, 11, 13⟩ rfl (fun z hz => absurd hz List.not_mem_nil) (by decide) (by decide) xl_3 xk_3 xe_3 (fun q9 => ?_)
      refine r_astore_n (i := 2) (lv' := [(0, .ref (gad (xG X) 0)), (1, .ref (gad (xG X) 221)), (2, .ref q9)]) C dL_climb_11 rfl (by decide) [1, 2, 0] rfl ?_
      refine r_iconst (v := 1) C dL_climb_12 (by decide) ?_
      cases hf
      exact r_iretW C (by decide) (by decide) hF dL_climb_13
    · rw [if_neg c1] at hf
      cases hf
def fL_pay (h : Hp) (a1 : Int32) : Option (Int32 × Hp) := cl3 (fX11_pay h a1) (fun r k h1 => if k = 0 then lt9 (up2 h1 221 0 r) (fun h2 => some ((0 : Int32), h2)) else if k = 3 then some ((1 : Int32), h1) else none)
set_option maxHeartbeats 4000000 in
set_option maxRecDepth 100000 in
theorem kL_pay (G : Gx) {h : Hp} {a1 : Int32} {rr : Int32} {hh : Hp} (hf : fL_pay h a1 = some (rr, hh)) : MCW G yL_pay cL_pay 4 (some .int) [(0, 9, 12, 13)] 8 512 h [.ref (gad G 0), .int a1, .ref (gad G 221)] (some (.int rr)) hh := by
  refine MCW.of RL (by decide) rfl (Nat.le_of_ble_eq_true rfl) rfl (fun X C hTb hG hR hF => ?_)
  subst hG
  unfold fL_pay at hf
  obtain ⟨r, k, h1, e1, hf⟩ := cl3_of hf
  refine r_aload_n (i := 2) C dL_pay_0 rfl 2 rfl ?_
  refine r_iconst (v := 0) C dL_pay_1 (by decide) ?_
  refine r_aload_n (i := 0) C dL_pay_2 rfl 0 rfl ?_
  refine r_iload_n (i := 1) C dL_pay_3 rfl 1 rfl ?_
  by_cases c0 : k = 0
  · rw [if_pos c0] at hf
    obtain ⟨h2, eh2, hf⟩ := lt_of hf
    refine r_callC0 (As := [.int a1]) (st := [.int 0, .ref (gad (xG X) 221)]) C rfl rfl (kX11_pay (xG X) e1) cw_L_78 rfl rfl (Nat.le_of_ble_eq_true rfl) (zw2 hR rfl rfl) (zwc hR) dL_pay_4 c0 ?_
    refine r_i2l C dL_pay_7 ?_
    refine r_last C eh2 dL_pay_8 ?_
    refine r_goto C 15 dL_pay_9 (by decide) ?_
    refine r_iconst (v := 0) C dL_pay_15 (by decide) ?_
    cases hf
    exact r_iretW C (by decide) (by decide) hF dL_pay_16
  · rw [if_neg c0] at hf
    by_cases c1 : k = 3
    · subst c1
      rw [if_pos rfl] at hf
      refine r_callCx (As := [.int a1]) (st := [.int 0, .ref (gad (xG X) 221)]) C hTb rfl rfl (kX11_pay (xG X) e1) cw_L_78 rfl rfl (Nat.le_of_ble_eq_true rfl) (zw2 hR rfl rfl) (zwc hR) dL_pay_4 (by decide) (tableOf []) (tableOf []) ⟨0, 9, 12, 13⟩ rfl (fun z hz => absurd hz List.not_mem_nil) (by decide) (by decide) xl_3 xk_3 xe_3 (fun q9 => ?_)
      refine r_astore_n (i := 3) (lv' := [(0, .ref (gad (xG X) 0)), (1, .int a1), (2, .ref (gad (xG X) 221)), (3, .ref q9)]) C dL_pay_12 rfl (by decide) [1, 2, 3, 0] rfl ?_
      refine r_iconst (v := 1) C dL_pay_13 (by decide) ?_
      cases hf
      exact r_iretW C (by decide) (by decide) hF dL_pay_14
    · rw [if_neg c1] at hf
      cases hf
def fL_stars (h : Hp) (a1 : Int32) (a2 : Int32) : Option (Int32 × Hp) := cl3 (fX11_stars h a1 a2) (fun r k h1 => if k = 0 then lt9 (up2 h1 221 0 r) (fun h2 => some ((0 : Int32), h2)) else if k = 1 then some ((1 : Int32), h1) else if k = 3 then some ((2 : Int32), h1) else none)
set_option maxHeartbeats 4000000 in
set_option maxRecDepth 100000 in
theorem kL_stars (G : Gx) {h : Hp} {a1 : Int32} {a2 : Int32} {rr : Int32} {hh : Hp} (hf : fL_stars h a1 a2 = some (rr, hh)) : MCW G yL_stars cL_stars 5 (some .int) [(0, 10, 13, 24), (0, 10, 17, 13)] 8 512 h [.ref (gad G 0), .int a1, .int a2, .ref (gad G 221)] (some (.int rr)) hh := by
  refine MCW.of RL (by decide) rfl (Nat.le_of_ble_eq_true rfl) rfl (fun X C hTb hG hR hF => ?_)
  subst hG
  unfold fL_stars at hf
  obtain ⟨r, k, h1, e1, hf⟩ := cl3_of hf
  refine r_aload_n (i := 3) C dL_stars_0 rfl 3 rfl ?_
  refine r_iconst (v := 0) C dL_stars_1 (by decide) ?_
  refine r_aload_n (i := 0) C dL_stars_2 rfl 0 rfl ?_
  refine r_iload_n (i := 1) C dL_stars_3 rfl 1 rfl ?_
  refine r_iload_n (i := 2) C dL_stars_4 rfl 2 rfl ?_
  by_cases c0 : k = 0
  · rw [if_pos c0] at hf
    obtain ⟨h2, eh2, hf⟩ := lt_of hf
    refine r_callC0 (As := [.int a1, .int a2]) (st := [.int 0, .ref (gad (xG X) 221)]) C rfl rfl (kX11_stars (xG X) e1) cw_L_81 rfl rfl (Nat.le_of_ble_eq_true rfl) (zw2 hR rfl rfl) (zwc hR) dL_stars_5 c0 ?_
    refine r_i2l C dL_stars_8 ?_
    refine r_last C eh2 dL_stars_9 ?_
    refine r_goto C 21 dL_stars_10 (by decide) ?_
    refine r_iconst (v := 0) C dL_stars_21 (by decide) ?_
    cases hf
    exact r_iretW C (by decide) (by decide) hF dL_stars_22
  · rw [if_neg c0] at hf
    by_cases c1 : k = 1
    · subst c1
      rw [if_pos rfl] at hf
      refine r_callCx (As := [.int a1, .int a2]) (st := [.int 0, .ref (gad (xG X) 221)]) C hTb rfl rfl (kX11_stars (xG X) e1) cw_L_81 rfl rfl (Nat.le_of_ble_eq_true rfl) (zw2 hR rfl rfl) (zwc hR) dL_stars_5 (by decide) (tableOf []) (tableOf [(0, 10, 17, 13)]) ⟨0, 10, 13, 24⟩ rfl (fun z hz => absurd hz List.not_mem_nil) (by decide) (by decide) xl_1 xk_1 xe_1 (fun q9 => ?_)
      refine r_astore (i := 4) (lv' := [(0, .ref (gad (xG X) 0)), (1, .int a1), (2, .int a2), (3, .ref (gad (xG X) 221)), (4, .ref q9)]) C dL_stars_13 (by decide) [1, 2, 3, 4, 0] rfl ?_
      refine r_iconst (v := 1) C dL_stars_15 (by decide) ?_
      cases hf
      exact r_iretW C (by decide) (by decide) hF dL_stars_16
    · rw [if_neg c1] at hf
      by_cases c2 : k = 3
      · subst c2
        rw [if_pos rfl] at hf
        refine r_callCx (As := [.int a1, .int a2]) (st := [.int 0, .ref (gad (xG X) 221)]) C hTb rfl rfl (kX11_stars (xG X) e1) cw_L_81 rfl rfl (Nat.le_of_ble_eq_true rfl) (zw2 hR rfl rfl) (zwc hR) dL_stars_5 (by decide) (tableOf [(0, 10, 13, 24)]) (tableOf []) ⟨0, 10, 17, 13⟩ rfl (fun z hz => by rcases List.mem_singleton.mp hz with rfl; exact ⟨1, by decide, xl_1, xe_1, by decide⟩) (by decide) (by decide) xl_3 xk_3 xe_3 (fun q9 => ?_)
        refine r_astore (i := 4) (lv' := [(0, .ref (gad (xG X) 0)), (1, .int a1), (2, .int a2), (3, .ref (gad (xG X) 221)), (4, .ref q9)]) C dL_stars_17 (by decide) [1, 2, 3, 4, 0] rfl ?_
        refine r_iconst (v := 2) C dL_stars_19 (by decide) ?_
        cases hf
        exact r_iretW C (by decide) (by decide) hF dL_stars_20
      · rw [if_neg c2] at hf
        cases hf
def fL_ahead (h : Hp) (a1 : Int32) (a2 : Int32) (a3 : Int32) : Option (Int32 × Hp) := cl3 (fX11_ahead h a1 a2 a3) (fun r k h1 => if k = 0 then lt9 (up2 h1 221 0 r) (fun h2 => some ((0 : Int32), h2)) else if k = 1 then some ((1 : Int32), h1) else if k = 3 then some ((2 : Int32), h1) else none)
set_option maxHeartbeats 4000000 in
set_option maxRecDepth 100000 in
theorem kL_ahead (G : Gx) {h : Hp} {a1 : Int32} {a2 : Int32} {a3 : Int32} {rr : Int32} {hh : Hp} (hf : fL_ahead h a1 a2 a3 = some (rr, hh)) : MCW G yL_ahead cL_ahead 6 (some .int) [(0, 12, 15, 24), (0, 12, 19, 13)] 9 576 h [.ref (gad G 0), .int a1, .int a2, .int a3, .ref (gad G 221)] (some (.int rr)) hh := by
  refine MCW.of RL (by decide) rfl (Nat.le_of_ble_eq_true rfl) rfl (fun X C hTb hG hR hF => ?_)
  subst hG
  unfold fL_ahead at hf
  obtain ⟨r, k, h1, e1, hf⟩ := cl3_of hf
  refine r_aload (i := 4) C dL_ahead_0 4 rfl ?_
  refine r_iconst (v := 0) C dL_ahead_2 (by decide) ?_
  refine r_aload_n (i := 0) C dL_ahead_3 rfl 0 rfl ?_
  refine r_iload_n (i := 1) C dL_ahead_4 rfl 1 rfl ?_
  refine r_iload_n (i := 2) C dL_ahead_5 rfl 2 rfl ?_
  refine r_iload_n (i := 3) C dL_ahead_6 rfl 3 rfl ?_
  by_cases c0 : k = 0
  · rw [if_pos c0] at hf
    obtain ⟨h2, eh2, hf⟩ := lt_of hf
    refine r_callC0 (As := [.int a1, .int a2, .int a3]) (st := [.int 0, .ref (gad (xG X) 221)]) C rfl rfl (kX11_ahead (xG X) e1) cw_L_84 rfl rfl (Nat.le_of_ble_eq_true rfl) (zw2 hR rfl rfl) (zwc hR) dL_ahead_7 c0 ?_
    refine r_i2l C dL_ahead_10 ?_
    refine r_last C eh2 dL_ahead_11 ?_
    refine r_goto C 23 dL_ahead_12 (by decide) ?_
    refine r_iconst (v := 0) C dL_ahead_23 (by decide) ?_
    cases hf
    exact r_iretW C (by decide) (by decide) hF dL_ahead_24
  · rw [if_neg c0] at hf
    by_cases c1 : k = 1
    · subst c1
      rw [if_pos rfl] at hf
      refine r_callCx (As := [.int a1, .int a2, .int a3]) (st := [.int 0, .ref (gad (xG X) 221)]) C hTb rfl rfl (kX11_ahead (xG X) e1) cw_L_84 rfl rfl (Nat.le_of_ble_eq_true rfl) (zw2 hR rfl rfl) (zwc hR) dL_ahead_7 (by decide) (tableOf []) (tableOf [(0, 12, 19, 13)]) ⟨0, 12, 15, 24⟩ rfl (fun z hz => absurd hz List.not_mem_nil) (by decide) (by decide) xl_1 xk_1 xe_1 (fun q9 => ?_)
      refine r_astore (i := 5) (lv' := [(0, .ref (gad (xG X) 0)), (1, .int a1), (2, .int a2), (3, .int a3), (4, .ref (gad (xG X) 221)), (5, .ref q9)]) C dL_ahead_15 (by decide) [1, 2, 3, 4, 5, 0] rfl ?_
      refine r_iconst (v := 1) C dL_ahead_17 (by decide) ?_
      cases hf
      exact r_iretW C (by decide) (by decide) hF dL_ahead_18
    · rw [if_neg c1] at hf
      by_cases c2 : k = 3
      · subst c2
        rw [if_pos rfl] at hf
        refine r_callCx (As := [.int a1, .int a2, .int a3]) (st := [.int 0, .ref (gad (xG X) 221)]) C hTb rfl rfl (kX11_ahead (xG X) e1) cw_L_84 rfl rfl (Nat.le_of_ble_eq_true rfl) (zw2 hR rfl rfl) (zwc hR) dL_ahead_7 (by decide) (tableOf [(0, 12, 15, 24)]) (tableOf []) ⟨0, 12, 19, 13⟩ rfl (fun z hz => by rcases List.mem_singleton.mp hz with rfl; exact ⟨1, by decide, xl_1, xe_1, by decide⟩) (by decide) (by decide) xl_3 xk_3 xe_3 (fun q9 => ?_)
        refine r_astore (i := 5) (lv' := [(0, .ref (gad (xG X) 0)), (1, .int a1), (2, .int a2), (3, .int a3), (4, .ref (gad (xG X) 221)), (5, .ref q9)]) C dL_ahead_19 (by decide) [1, 2, 3, 4, 5, 0] rfl ?_
        refine r_iconst (v := 2) C dL_ahead_21 (by decide) ?_
        cases hf
        exact r_iretW C (by decide) (by decide) hF dL_ahead_22
      · rw [if_neg c2] at hf
        cases hf
def fL_odds (h : Hp) (a1 : Int32) (a2 : Int32) : Option (Int32 × Hp) := cl3 (fX11_odds h a1 a2) (fun r k h1 => if k = 0 then lt9 (up2 h1 221 0 r) (fun h2 => some ((0 : Int32), h2)) else if k = 3 then some ((1 : Int32), h1) else none)
set_option maxHeartbeats 4000000 in
set_option maxRecDepth 100000 in
theorem kL_odds (G : Gx) {h : Hp} {a1 : Int32} {a2 : Int32} {rr : Int32} {hh : Hp} (hf : fL_odds h a1 a2 = some (rr, hh)) : MCW G yL_odds cL_odds 5 (some .int) [(0, 10, 13, 13)] 8 512 h [.ref (gad G 0), .int a1, .int a2, .ref (gad G 221)] (some (.int rr)) hh := by
  refine MCW.of RL (by decide) rfl (Nat.le_of_ble_eq_true rfl) rfl (fun X C hTb hG hR hF => ?_)
  subst hG
  unfold fL_odds at hf
  obtain ⟨r, k, h1, e1, hf⟩ := cl3_of hf
  refine r_aload_n (i := 3) C dL_odds_0 rfl 3 rfl ?_
  refine r_iconst (v := 0) C dL_odds_1 (by decide) ?_
  refine r_aload_n (i := 0) C dL_odds_2 rfl 0 rfl ?_
  refine r_iload_n (i := 1) C dL_odds_3 rfl 1 rfl ?_
  refine r_iload_n (i := 2) C dL_odds_4 rfl 2 rfl ?_
  by_cases c0 : k = 0
  · rw [if_pos c0] at hf
    obtain ⟨h2, eh2, hf⟩ := lt_of hf
    refine r_callC0 (As := [.int a1, .int a2]) (st := [.int 0, .ref (gad (xG X) 221)]) C rfl rfl (kX11_odds (xG X) e1) cw_L_87 rfl rfl (Nat.le_of_ble_eq_true rfl) (zw2 hR rfl rfl) (zwc hR) dL_odds_5 c0 ?_
    refine r_i2l C dL_odds_8 ?_
    refine r_last C eh2 dL_odds_9 ?_
    refine r_goto C 17 dL_odds_10 (by decide) ?_
    refine r_iconst (v := 0) C dL_odds_17 (by decide) ?_
    cases hf
    exact r_iretW C (by decide) (by decide) hF dL_odds_18
  · rw [if_neg c0] at hf
    by_cases c1 : k = 3
    · subst c1
      rw [if_pos rfl] at hf
      refine r_callCx (As := [.int a1, .int a2]) (st := [.int 0, .ref (gad (xG X) 221)]) C hTb rfl rfl (kX11_odds (xG X) e1) cw_L_87 rfl rfl (Nat.le_of_ble_eq_true rfl) (zw2 hR rfl rfl) (zwc hR) dL_odds_5 (by decide) (tableOf []) (tableOf []) ⟨0, 10, 13, 13⟩ rfl (fun z hz => absurd hz List.not_mem_nil) (by decide) (by decide) xl_3 xk_3 xe_3 (fun q9 => ?_)
      refine r_astore (i := 4) (lv' := [(0, .ref (gad (xG X) 0)), (1, .int a1), (2, .int a2), (3, .ref (gad (xG X) 221)), (4, .ref q9)]) C dL_odds_13 (by decide) [1, 2, 3, 4, 0] rfl ?_
      refine r_iconst (v := 1) C dL_odds_15 (by decide) ?_
      cases hf
      exact r_iretW C (by decide) (by decide) hF dL_odds_16
    · rw [if_neg c1] at hf
      cases hf
def fL_needs (h : Hp) (a1 : Int32) : Option (Int32 × Hp) := cl3 (fX11_needs h a1) (fun r k h1 => if k = 0 then lt9 (up2 h1 221 0 r) (fun h2 => some ((0 : Int32), h2)) else if k = 3 then some ((1 : Int32), h1) else none)
set_option maxHeartbeats 4000000 in
set_option maxRecDepth 100000 in
theorem kL_needs (G : Gx) {h : Hp} {a1 : Int32} {rr : Int32} {hh : Hp} (hf : fL_needs h a1 = some (rr, hh)) : MCW G yL_needs cL_needs 4 (some .int) [(0, 9, 12, 13)] 9 576 h [.ref (gad G 0), .int a1, .ref (gad G 221)] (some (.int rr)) hh := by
  refine MCW.of RL (by decide) rfl (Nat.le_of_ble_eq_true rfl) rfl (fun X C hTb hG hR hF => ?_)
  subst hG
  unfold fL_needs at hf
  obtain ⟨r, k, h1, e1, hf⟩ := cl3_of hf
  refine r_aload_n (i := 2) C dL_needs_0 rfl 2 rfl ?_
  refine r_iconst (v := 0) C dL_needs_1 (by decide) ?_
  refine r_aload_n (i := 0) C dL_needs_2 rfl 0 rfl ?_
  refine r_iload_n (i := 1) C dL_needs_3 rfl 1 rfl ?_
  by_cases c0 : k = 0
  · rw [if_pos c0] at hf
    obtain ⟨h2, eh2, hf⟩ := lt_of hf
    refine r_callC0 (As := [.int a1]) (st := [.int 0, .ref (gad (xG X) 221)]) C rfl rfl (kX11_needs (xG X) e1) cw_L_90 rfl rfl (Nat.le_of_ble_eq_true rfl) (zw2 hR rfl rfl) (zwc hR) dL_needs_4 c0 ?_
    refine r_i2l C dL_needs_7 ?_
    refine r_last C eh2 dL_needs_8 ?_
    refine r_goto C 15 dL_needs_9 (by decide) ?_
    refine r_iconst (v := 0) C dL_needs_15 (by decide) ?_
    cases hf
    exact r_iretW C (by decide) (by decide) hF dL_needs_16
  · rw [if_neg c0] at hf
    by_cases c1 : k = 3
    · subst c1
      rw [if_pos rfl] at hf
      refine r_callCx (As := [.int a1]) (st := [.int 0, .ref (gad (xG X) 221)]) C hTb rfl rfl (kX11_needs (xG X) e1) cw_L_90 rfl rfl (Nat.le_of_ble_eq_true rfl) (zw2 hR rfl rfl) (zwc hR) dL_needs_4 (by decide) (tableOf []) (tableOf []) ⟨0, 9, 12, 13⟩ rfl (fun z hz => absurd hz List.not_mem_nil) (by decide) (by decide) xl_3 xk_3 xe_3 (fun q9 => ?_)
      refine r_astore_n (i := 3) (lv' := [(0, .ref (gad (xG X) 0)), (1, .int a1), (2, .ref (gad (xG X) 221)), (3, .ref q9)]) C dL_needs_12 rfl (by decide) [1, 2, 3, 0] rfl ?_
      refine r_iconst (v := 1) C dL_needs_13 (by decide) ?_
      cases hf
      exact r_iretW C (by decide) (by decide) hF dL_needs_14
    · rw [if_neg c1] at hf
      cases hf
def fL_trial (h : Hp) (a1 : Int32) (a2 : Int32) : Option (Int32 × Hp) := cl3 (fX11_trial h a1 a2) (fun r k h1 => if k = 0 then lt9 (up2 h1 221 0 r) (fun h2 => some ((0 : Int32), h2)) else if k = 3 then some ((1 : Int32), h1) else none)
set_option maxHeartbeats 4000000 in
set_option maxRecDepth 100000 in
theorem kL_trial (G : Gx) {h : Hp} {a1 : Int32} {a2 : Int32} {rr : Int32} {hh : Hp} (hf : fL_trial h a1 a2 = some (rr, hh)) : MCW G yL_trial cL_trial 5 (some .int) [(0, 10, 13, 13)] 9 576 h [.ref (gad G 0), .int a1, .int a2, .ref (gad G 221)] (some (.int rr)) hh := by
  refine MCW.of RL (by decide) rfl (Nat.le_of_ble_eq_true rfl) rfl (fun X C hTb hG hR hF => ?_)
  subst hG
  unfold fL_trial at hf
  obtain ⟨r, k, h1, e1, hf⟩ := cl3_of hf
  refine r_aload_n (i := 3) C dL_trial_0 rfl 3 rfl ?_
  refine r_iconst (v := 0) C dL_trial_1 (by decide) ?_
  refine r_aload_n (i := 0) C dL_trial_2 rfl 0 rfl ?_
  refine r_iload_n (i := 1) C dL_trial_3 rfl 1 rfl ?_
  refine r_iload_n (i := 2) C dL_trial_4 rfl 2 rfl ?_
  by_cases c0 : k = 0
  · rw [if_pos c0] at hf
    obtain ⟨h2, eh2, hf⟩ := lt_of hf
    refine r_callC0 (As := [.int a1, .int a2]) (st := [.int 0, .ref (gad (xG X) 221)]) C rfl rfl (kX11_trial (xG X) e1) cw_L_93 rfl rfl (Nat.le_of_ble_eq_true rfl) (zw2 hR rfl rfl) (zwc hR) dL_trial_5 c0 ?_
    refine r_i2l C dL_trial_8 ?_
    refine r_last C eh2 dL_trial_9 ?_
    refine r_goto C 17 dL_trial_10 (by decide) ?_
    refine r_iconst (v := 0) C dL_trial_17 (by decide) ?_
    cases hf
    exact r_iretW C (by decide) (by decide) hF dL_trial_18
  · rw [if_neg c0] at hf
    by_cases c1 : k = 3
    · subst c1
      rw [if_pos rfl] at hf
      refine r_callCx (As := [.int a1, .int a2]) (st := [.int 0, .ref (gad (xG X) 221)]) C hTb rfl rfl (kX11_trial (xG X) e1) cw_L_93 rfl rfl (Nat.le_of_ble_eq_true rfl) (zw2 hR rfl rfl) (zwc hR) dL_trial_5 (by decide) (tableOf []) (tableOf []) ⟨0, 10, 13, 13⟩ rfl (fun z hz => absurd hz List.not_mem_nil) (by decide) (by decide) xl_3 xk_3 xe_3 (fun q9 => ?_)
      refine r_astore (i := 4) (lv' := [(0, .ref (gad (xG X) 0)), (1, .int a1), (2, .int a2), (3, .ref (gad (xG X) 221)), (4, .ref q9)]) C dL_trial_13 (by decide) [1, 2, 3, 4, 0] rfl ?_
      refine r_iconst (v := 1) C dL_trial_15 (by decide) ?_
      cases hf
      exact r_iretW C (by decide) (by decide) hF dL_trial_16
    · rw [if_neg c1] at hf
      cases hf
def fL_span (h : Hp) (a1 : Int32) (a2 : Int32) : Option (Int32 × Hp) := cl3 (fX11_span h a1 a2) (fun r k h1 => if k = 0 then lt9 (up2 h1 221 0 r) (fun h2 => some ((0 : Int32), h2)) else if k = 3 then some ((1 : Int32), h1) else none)
set_option maxHeartbeats 4000000 in
set_option maxRecDepth 100000 in
theorem kL_span (G : Gx) {h : Hp} {a1 : Int32} {a2 : Int32} {rr : Int32} {hh : Hp} (hf : fL_span h a1 a2 = some (rr, hh)) : MCW G yL_span cL_span 5 (some .int) [(0, 10, 13, 13)] 10 640 h [.ref (gad G 0), .int a1, .int a2, .ref (gad G 221)] (some (.int rr)) hh := by
  refine MCW.of RL (by decide) rfl (Nat.le_of_ble_eq_true rfl) rfl (fun X C hTb hG hR hF => ?_)
  subst hG
  unfold fL_span at hf
  obtain ⟨r, k, h1, e1, hf⟩ := cl3_of hf
  refine r_aload_n (i := 3) C dL_span_0 rfl 3 rfl ?_
  refine r_iconst (v := 0) C dL_span_1 (by decide) ?_
  refine r_aload_n (i := 0) C dL_span_2 rfl 0 rfl ?_
  refine r_iload_n (i := 1) C dL_span_3 rfl 1 rfl ?_
  refine r_iload_n (i := 2) C dL_span_4 rfl 2 rfl ?_
  by_cases c0 : k = 0
  · rw [if_pos c0] at hf
    obtain ⟨h2, eh2, hf⟩ := lt_of hf
    refine r_callC0 (As := [.int a1, .int a2]) (st := [.int 0, .ref (gad (xG X) 221)]) C rfl rfl (kX11_span (xG X) e1) cw_L_97 rfl rfl (Nat.le_of_ble_eq_true rfl) (zw2 hR rfl rfl) (zwc hR) dL_span_5 c0 ?_
    refine r_i2l C dL_span_8 ?_
    refine r_last C eh2 dL_span_9 ?_
    refine r_goto C 17 dL_span_10 (by decide) ?_
    refine r_iconst (v := 0) C dL_span_17 (by decide) ?_
    cases hf
    exact r_iretW C (by decide) (by decide) hF dL_span_18
  · rw [if_neg c0] at hf
    by_cases c1 : k = 3
    · subst c1
      rw [if_pos rfl] at hf
      refine r_callCx (As := [.int a1, .int a2]) (st := [.int 0, .ref (gad (xG X) 221)]) C hTb rfl rfl (kX11_span (xG X) e1) cw_L_97 rfl rfl (Nat.le_of_ble_eq_true rfl) (zw2 hR rfl rfl) (zwc hR) dL_span_5 (by decide) (tableOf []) (tableOf []) ⟨0, 10, 13, 13⟩ rfl (fun z hz => absurd hz List.not_mem_nil) (by decide) (by decide) xl_3 xk_3 xe_3 (fun q9 => ?_)
      refine r_astore (i := 4) (lv' := [(0, .ref (gad (xG X) 0)), (1, .int a1), (2, .int a2), (3, .ref (gad (xG X) 221)), (4, .ref q9)]) C dL_span_13 (by decide) [1, 2, 3, 4, 0] rfl ?_
      refine r_iconst (v := 1) C dL_span_15 (by decide) ?_
      cases hf
      exact r_iretW C (by decide) (by decide) hF dL_span_16
    · rw [if_neg c1] at hf
      cases hf
def fL_led (h : Hp) (a1 : Int32) (a2 : Int32) : Option (Int32 × Hp) := cl3 (fX11_led h a1 a2) (fun r k h1 => if k = 0 then lt9 (up2 h1 221 0 r) (fun h2 => some ((0 : Int32), h2)) else if k = 1 then some ((1 : Int32), h1) else none)
set_option maxHeartbeats 4000000 in
set_option maxRecDepth 100000 in
theorem kL_led (G : Gx) {h : Hp} {a1 : Int32} {a2 : Int32} {rr : Int32} {hh : Hp} (hf : fL_led h a1 a2 = some (rr, hh)) : MCW G yL_led cL_led 5 (some .int) [(0, 10, 13, 24)] 8 512 h [.ref (gad G 0), .int a1, .int a2, .ref (gad G 221)] (some (.int rr)) hh := by
  refine MCW.of RL (by decide) rfl (Nat.le_of_ble_eq_true rfl) rfl (fun X C hTb hG hR hF => ?_)
  subst hG
  unfold fL_led at hf
  obtain ⟨r, k, h1, e1, hf⟩ := cl3_of hf
  refine r_aload_n (i := 3) C dL_led_0 rfl 3 rfl ?_
  refine r_iconst (v := 0) C dL_led_1 (by decide) ?_
  refine r_aload_n (i := 0) C dL_led_2 rfl 0 rfl ?_
  refine r_iload_n (i := 1) C dL_led_3 rfl 1 rfl ?_
  refine r_iload_n (i := 2) C dL_led_4 rfl 2 rfl ?_
  by_cases c0 : k = 0
  · rw [if_pos c0] at hf
    obtain ⟨h2, eh2, hf⟩ := lt_of hf
    refine r_callC0 (As := [.int a1, .int a2]) (st := [.int 0, .ref (gad (xG X) 221)]) C rfl rfl (kX11_led (xG X) e1) cw_L_100 rfl rfl (Nat.le_of_ble_eq_true rfl) (zw2 hR rfl rfl) (zwc hR) dL_led_5 c0 ?_
    refine r_i2l C dL_led_8 ?_
    refine r_last C eh2 dL_led_9 ?_
    refine r_goto C 17 dL_led_10 (by decide) ?_
    refine r_iconst (v := 0) C dL_led_17 (by decide) ?_
    cases hf
    exact r_iretW C (by decide) (by decide) hF dL_led_18
  · rw [if_neg c0] at hf
    by_cases c1 : k = 1
    · subst c1
      rw [if_pos rfl] at hf
      refine r_callCx (As := [.int a1, .int a2]) (st := [.int 0, .ref (gad (xG X) 221)]) C hTb rfl rfl (kX11_led (xG X) e1) cw_L_100 rfl rfl (Nat.le_of_ble_eq_true rfl) (zw2 hR rfl rfl) (zwc hR) dL_led_5 (by decide) (tableOf []) (tableOf []) ⟨0, 10, 13, 24⟩ rfl (fun z hz => absurd hz List.not_mem_nil) (by decide) (by decide) xl_1 xk_1 xe_1 (fun q9 => ?_)
      refine r_astore (i := 4) (lv' := [(0, .ref (gad (xG X) 0)), (1, .int a1), (2, .int a2), (3, .ref (gad (xG X) 221)), (4, .ref q9)]) C dL_led_13 (by decide) [1, 2, 3, 4, 0] rfl ?_
      refine r_iconst (v := 1) C dL_led_15 (by decide) ?_
      cases hf
      exact r_iretW C (by decide) (by decide) hF dL_led_16
    · rw [if_neg c1] at hf
      cases hf
def fL_log (h : Hp) (a1 : Int32) (a2 : Int32) : Option (Int32 × Hp) := cl3 (fX11_log h a1 a2) (fun r k h1 => if k = 0 then lt9 (up2 h1 221 0 r) (fun h2 => some ((0 : Int32), h2)) else if k = 2 then some ((1 : Int32), h1) else none)
set_option maxHeartbeats 4000000 in
set_option maxRecDepth 100000 in
theorem kL_log (G : Gx) {h : Hp} {a1 : Int32} {a2 : Int32} {rr : Int32} {hh : Hp} (hf : fL_log h a1 a2 = some (rr, hh)) : MCW G yL_log cL_log 5 (some .int) [(0, 10, 13, 26)] 7 448 h [.ref (gad G 0), .int a1, .int a2, .ref (gad G 221)] (some (.int rr)) hh := by
  refine MCW.of RL (by decide) rfl (Nat.le_of_ble_eq_true rfl) rfl (fun X C hTb hG hR hF => ?_)
  subst hG
  unfold fL_log at hf
  obtain ⟨r, k, h1, e1, hf⟩ := cl3_of hf
  refine r_aload_n (i := 3) C dL_log_0 rfl 3 rfl ?_
  refine r_iconst (v := 0) C dL_log_1 (by decide) ?_
  refine r_aload_n (i := 0) C dL_log_2 rfl 0 rfl ?_
  refine r_iload_n (i := 1) C dL_log_3 rfl 1 rfl ?_
  refine r_iload_n (i := 2) C dL_log_4 rfl 2 rfl ?_
  by_cases c0 : k = 0
  · rw [if_pos c0] at hf
    obtain ⟨h2, eh2, hf⟩ := lt_of hf
    refine r_callC0 (As := [.int a1, .int a2]) (st := [.int 0, .ref (gad (xG X) 221)]) C rfl rfl (kX11_log (xG X) e1) cw_L_103 rfl rfl (Nat.le_of_ble_eq_true rfl) (zw2 hR rfl rfl) (zwc hR) dL_log_5 c0 ?_
    refine r_i2l C dL_log_8 ?_
    refine r_last C eh2 dL_log_9 ?_
    refine r_goto C 17 dL_log_10 (by decide) ?_
    refine r_iconst (v := 0) C dL_log_17 (by decide) ?_
    cases hf
    exact r_iretW C (by decide) (by decide) hF dL_log_18
  · rw [if_neg c0] at hf
    by_cases c1 : k = 2
    · subst c1
      rw [if_pos rfl] at hf
      refine r_callCx (As := [.int a1, .int a2]) (st := [.int 0, .ref (gad (xG X) 221)]) C hTb rfl rfl (kX11_log (xG X) e1) cw_L_103 rfl rfl (Nat.le_of_ble_eq_true rfl) (zw2 hR rfl rfl) (zwc hR) dL_log_5 (by decide) (tableOf []) (tableOf []) ⟨0, 10, 13, 26⟩ rfl (fun z hz => absurd hz List.not_mem_nil) (by decide) (by decide) xl_2 xk_2 xe_2 (fun q9 => ?_)
      refine r_astore (i := 4) (lv' := [(0, .ref (gad (xG X) 0)), (1, .int a1), (2, .int a2), (3, .ref (gad (xG X) 221)), (4, .ref q9)]) C dL_log_13 (by decide) [1, 2, 3, 4, 0] rfl ?_
      refine r_iconst (v := 1) C dL_log_15 (by decide) ?_
      cases hf
      exact r_iretW C (by decide) (by decide) hF dL_log_16
    · rw [if_neg c1] at hf
      cases hf
