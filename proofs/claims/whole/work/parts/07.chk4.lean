theorem z_ck_206 : (c_Mod_smooths.all (z_chk 206)) = true := by decide +kernel
theorem z_ck_207 : (c_Float_floatToIntBits.all (z_chk 207)) = true := by decide +kernel
theorem z_ck_208 : (c_Float_isNaN.all (z_chk 208)) = true := by decide +kernel
theorem z_ck_209_0 : ((c_Mod_passes.drop 0).take 60).all (z_chk 209) = true := by decide +kernel
theorem z_ck_209_60 : ((c_Mod_passes.drop 60).take 60).all (z_chk 209) = true := by decide +kernel
theorem z_ck_209_120 : ((c_Mod_passes.drop 120).take 60).all (z_chk 209) = true := by decide +kernel
theorem z_ck_209 : (c_Mod_passes.all (z_chk 209)) = true := by
  refine z_all_cut 60 3 c_Mod_passes (by decide +kernel) ?_
  intro j hj
  match j, hj with
  | 0, _ => exact z_ck_209_0
  | 1, _ => exact z_ck_209_60
  | 2, _ => exact z_ck_209_120
  | _ + 3, h => exact absurd h (by omega)
theorem z_ck_210 : (c_Mod_tellsAll.all (z_chk 210)) = true := by decide +kernel
theorem z_ck_211_0 : ((c_Mod_modes.drop 0).take 60).all (z_chk 211) = true := by decide +kernel
theorem z_ck_211_60 : ((c_Mod_modes.drop 60).take 60).all (z_chk 211) = true := by decide +kernel
theorem z_ck_211_120 : ((c_Mod_modes.drop 120).take 60).all (z_chk 211) = true := by decide +kernel
theorem z_ck_211 : (c_Mod_modes.all (z_chk 211)) = true := by
  refine z_all_cut 60 3 c_Mod_modes (by decide +kernel) ?_
  intro j hj
  match j, hj with
  | 0, _ => exact z_ck_211_0
  | 1, _ => exact z_ck_211_60
  | 2, _ => exact z_ck_211_120
  | _ + 3, h => exact absurd h (by omega)
theorem z_ck_212 : (c_Mod_handsToFirst.all (z_chk 212)) = true := by decide +kernel
theorem z_ck_213 : (c_Mod_does.all (z_chk 213)) = true := by decide +kernel
theorem z_ck_214_0 : ((c_Mod_tellsMode.drop 0).take 60).all (z_chk 214) = true := by decide +kernel
theorem z_ck_214_60 : ((c_Mod_tellsMode.drop 60).take 60).all (z_chk 214) = true := by decide +kernel
theorem z_ck_214_120 : ((c_Mod_tellsMode.drop 120).take 60).all (z_chk 214) = true := by decide +kernel
theorem z_ck_214 : (c_Mod_tellsMode.all (z_chk 214)) = true := by
  refine z_all_cut 60 3 c_Mod_tellsMode (by decide +kernel) ?_
  intro j hj
  match j, hj with
  | 0, _ => exact z_ck_214_0
  | 1, _ => exact z_ck_214_60
  | 2, _ => exact z_ck_214_120
  | _ + 3, h => exact absurd h (by omega)
theorem z_ck_215 : (c_Mod_counts.all (z_chk 215)) = true := by decide +kernel
theorem z_ck_216 : (c_Mod_feed.all (z_chk 216)) = true := by decide +kernel
theorem z_ck_217 : (c_Mod_tapes.all (z_chk 217)) = true := by decide +kernel
theorem z_ck_218 : (c_Mod_end.all (z_chk 218)) = true := by decide +kernel
theorem z_ck_219 : (c_Mod_table.all (z_chk 219)) = true := by decide +kernel
theorem z_ck_220 : (c_Mod_readsAll.all (z_chk 220)) = true := by decide +kernel
theorem z_ck_221_0 : ((c_Mod_goesOn.drop 0).take 60).all (z_chk 221) = true := by decide +kernel
theorem z_ck_221_60 : ((c_Mod_goesOn.drop 60).take 60).all (z_chk 221) = true := by decide +kernel
theorem z_ck_221_120 : ((c_Mod_goesOn.drop 120).take 60).all (z_chk 221) = true := by decide +kernel
theorem z_ck_221 : (c_Mod_goesOn.all (z_chk 221)) = true := by
  refine z_all_cut 60 3 c_Mod_goesOn (by decide +kernel) ?_
  intro j hj
  match j, hj with
  | 0, _ => exact z_ck_221_0
  | 1, _ => exact z_ck_221_60
  | 2, _ => exact z_ck_221_120
  | _ + 3, h => exact absurd h (by omega)
theorem z_ck_222 : (c_Mod_isLetter.all (z_chk 222)) = true := by decide +kernel
theorem z_ck_223 : (c_Mod_wordOf.all (z_chk 223)) = true := by decide +kernel
theorem z_ck_224 : (c_Mod_is.all (z_chk 224)) = true := by decide +kernel
theorem z_ck_225 : (c_Mod_eventWordOf.all (z_chk 225)) = true := by decide +kernel
theorem z_ck_226 : (c_Mod_isDigit.all (z_chk 226)) = true := by decide +kernel
theorem z_ck_227 : (c_Mod_bad.all (z_chk 227)) = true := by decide +kernel
theorem z_ck_228_0 : ((c_Mod_message.drop 0).take 60).all (z_chk 228) = true := by decide +kernel
theorem z_ck_228_60 : ((c_Mod_message.drop 60).take 60).all (z_chk 228) = true := by decide +kernel
theorem z_ck_228_120 : ((c_Mod_message.drop 120).take 60).all (z_chk 228) = true := by decide +kernel
theorem z_ck_228 : (c_Mod_message.all (z_chk 228)) = true := by
  refine z_all_cut 60 3 c_Mod_message (by decide +kernel) ?_
  intro j hj
  match j, hj with
  | 0, _ => exact z_ck_228_0
  | 1, _ => exact z_ck_228_60
  | 2, _ => exact z_ck_228_120
  | _ + 3, h => exact absurd h (by omega)
theorem z_ck_229 : (c_Mod_number.all (z_chk 229)) = true := by decide +kernel
theorem z_ck_230 : (c_Mod_field.all (z_chk 230)) = true := by decide +kernel
theorem z_ck_231 : (c_Mod_whenever.all (z_chk 231)) = true := by decide +kernel
theorem z_ck_232 : (c_Mod_need.all (z_chk 232)) = true := by decide +kernel
theorem z_ck_233 : (c_Mod_isRead.all (z_chk 233)) = true := by decide +kernel
theorem z_ck_234 : (c_Mod_told.all (z_chk 234)) = true := by decide +kernel
theorem z_ck_235 : (c_Mod_laysPhase.all (z_chk 235)) = true := by decide +kernel
theorem z_ck_236 : (c_Mod_greatestOf.all (z_chk 236)) = true := by decide +kernel
theorem z_ck_237 : (c_Mod_isDue.all (z_chk 237)) = true := by decide +kernel
theorem z_ck_238 : (c_Mod_loadOf.all (z_chk 238)) = true := by decide +kernel
theorem z_ck_239 : (c_Mod_timeOf.all (z_chk 239)) = true := by decide +kernel
