theorem z_ck_240 : (c_Mod_events.all (z_chk 240)) = true := by decide +kernel
theorem z_ck_241 : (c_Mod_readsEvents.all (z_chk 241)) = true := by decide +kernel
theorem z_ck_242 : (c_Mod_eventOf.all (z_chk 242)) = true := by decide +kernel
theorem z_ck_243 : (c_Mod_event.all (z_chk 243)) = true := by decide +kernel
theorem z_ck_244 : (c_Mod_fault.all (z_chk 244)) = true := by decide +kernel
theorem z_ck_245 : (c_Mod_count.all (z_chk 245)) = true := by decide +kernel
theorem z_ck_246 : (c_Mod_fits.all (z_chk 246)) = true := by decide +kernel
theorem z_ck_247 : (c_Mod_greatest.all (z_chk 247)) = true := by decide +kernel
theorem z_ck_248 : (c_Mod_best.all (z_chk 248)) = true := by decide +kernel
theorem z_ck_249 : (c_Mod_bestFrom.all (z_chk 249)) = true := by decide +kernel
theorem z_ck_250 : (c_Mod_firstOver.all (z_chk 250)) = true := by decide +kernel
theorem z_ck_251 : (c_Mod_spread.all (z_chk 251)) = true := by decide +kernel
theorem z_ck_252 : (c_Mod_spreads.all (z_chk 252)) = true := by decide +kernel
theorem z_ck_253 : (c_Mod_isToController.all (z_chk 253)) = true := by decide +kernel
theorem z_ck_254 : (c_Mod_comesThrough.all (z_chk 254)) = true := by decide +kernel
theorem z_ck_255 : (c_Mod_quietOf.all (z_chk 255)) = true := by decide +kernel
theorem z_ck_256 : (c_Mod_longestDue.all (z_chk 256)) = true := by decide +kernel
theorem z_ck_257 : (c_Mod_manyTo.all (z_chk 257)) = true := by decide +kernel
theorem z_ck_258 : (c_Mod_load.all (z_chk 258)) = true := by decide +kernel
theorem z_ck_259 : (c_Mod_line.all (z_chk 259)) = true := by decide +kernel
theorem z_ck_260 : (c_Mod_frame.all (z_chk 260)) = true := by decide +kernel
theorem z_ck_261 : (c_Mod_framesOf.all (z_chk 261)) = true := by decide +kernel
theorem z_ck_262 : (c_Mod_goesOnce.all (z_chk 262)) = true := by decide +kernel
theorem z_ck_263 : (c_Mod_tellsEvents.all (z_chk 263)) = true := by decide +kernel
theorem z_ck_264_0 : ((c_Mod_laysSignals.drop 0).take 60).all (z_chk 264) = true := by decide +kernel
theorem z_ck_264_60 : ((c_Mod_laysSignals.drop 60).take 60).all (z_chk 264) = true := by decide +kernel
theorem z_ck_264_120 : ((c_Mod_laysSignals.drop 120).take 60).all (z_chk 264) = true := by decide +kernel
theorem z_ck_264 : (c_Mod_laysSignals.all (z_chk 264)) = true := by
  refine z_all_cut 60 3 c_Mod_laysSignals (by decide +kernel) ?_
  intro j hj
  match j, hj with
  | 0, _ => exact z_ck_264_0
  | 1, _ => exact z_ck_264_60
  | 2, _ => exact z_ck_264_120
  | _ + 3, h => exact absurd h (by omega)
theorem z_ck_265 : (c_Mod_isSilent.all (z_chk 265)) = true := by decide +kernel
theorem z_ck_266 : (c_Mod_canControl.all (z_chk 266)) = true := by decide +kernel
theorem z_ck_267 : (c_Mod_controls.all (z_chk 267)) = true := by decide +kernel
theorem z_ck_268_0 : ((c_Mod_goes.drop 0).take 60).all (z_chk 268) = true := by decide +kernel
theorem z_ck_268_60 : ((c_Mod_goes.drop 60).take 60).all (z_chk 268) = true := by decide +kernel
theorem z_ck_268_120 : ((c_Mod_goes.drop 120).take 60).all (z_chk 268) = true := by decide +kernel
theorem z_ck_268 : (c_Mod_goes.all (z_chk 268)) = true := by
  refine z_all_cut 60 3 c_Mod_goes (by decide +kernel) ?_
  intro j hj
  match j, hj with
  | 0, _ => exact z_ck_268_0
  | 1, _ => exact z_ck_268_60
  | 2, _ => exact z_ck_268_120
  | _ + 3, h => exact absurd h (by omega)
theorem z_ck_269_0 : ((c_Mod_triesLine.drop 0).take 60).all (z_chk 269) = true := by decide +kernel
theorem z_ck_269_60 : ((c_Mod_triesLine.drop 60).take 60).all (z_chk 269) = true := by decide +kernel
theorem z_ck_269_120 : ((c_Mod_triesLine.drop 120).take 60).all (z_chk 269) = true := by decide +kernel
theorem z_ck_269 : (c_Mod_triesLine.all (z_chk 269)) = true := by
  refine z_all_cut 60 3 c_Mod_triesLine (by decide +kernel) ?_
  intro j hj
  match j, hj with
  | 0, _ => exact z_ck_269_0
  | 1, _ => exact z_ck_269_60
  | 2, _ => exact z_ck_269_120
  | _ + 3, h => exact absurd h (by omega)
theorem z_ck_270 : (c_Mod_isTooMuch.all (z_chk 270)) = true := by decide +kernel
theorem z_ck_271 : (c_Mod_asksWanted.all (z_chk 271)) = true := by decide +kernel
theorem z_ck_272 : (c_Mod_would.all (z_chk 272)) = true := by decide +kernel
theorem z_ck_273 : (c_Mod_of.all (z_chk 273)) = true := by decide +kernel
theorem z_ck_274 : (c_Mod_has.all (z_chk 274)) = true := by decide +kernel
