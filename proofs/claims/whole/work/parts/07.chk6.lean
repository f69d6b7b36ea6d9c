theorem z_ck_275 : (c_Mod_at.all (z_chk 275)) = true := by decide +kernel
theorem z_ck_276 : (c_Mod_smooth.all (z_chk 276)) = true := by decide +kernel
theorem z_ck_277 : (c_Mod_log.all (z_chk 277)) = true := by decide +kernel
theorem z_ck_278 : (c_Mod_trail.all (z_chk 278)) = true := by decide +kernel
theorem z_ck_279 : (c_Mod_parity.all (z_chk 279)) = true := by decide +kernel
theorem z_ck_280 : (c_Mod_heard.all (z_chk 280)) = true := by decide +kernel
theorem z_ck_281 : (c_Mod_tally.all (z_chk 281)) = true := by decide +kernel
theorem z_ck_282 : (c_Mod_bus.all (z_chk 282)) = true := by decide +kernel
theorem z_ck_283 : (c_Mod_waits.all (z_chk 283)) = true := by decide +kernel
theorem z_ck_284 : (c_Mod_image.all (z_chk 284)) = true := by decide +kernel
theorem z_ck_285 : (c_Mod_look.all (z_chk 285)) = true := by decide +kernel
theorem z_ck_286 : (c_Mod_more.all (z_chk 286)) = true := by decide +kernel
theorem z_ck_287_0 : ((c_Law_law.drop 0).take 60).all (z_chk 287) = true := by decide +kernel
theorem z_ck_287_60 : ((c_Law_law.drop 60).take 60).all (z_chk 287) = true := by decide +kernel
theorem z_ck_287_120 : ((c_Law_law.drop 120).take 60).all (z_chk 287) = true := by decide +kernel
theorem z_ck_287_180 : ((c_Law_law.drop 180).take 60).all (z_chk 287) = true := by decide +kernel
theorem z_ck_287_240 : ((c_Law_law.drop 240).take 60).all (z_chk 287) = true := by decide +kernel
theorem z_ck_287_300 : ((c_Law_law.drop 300).take 60).all (z_chk 287) = true := by decide +kernel
theorem z_ck_287_360 : ((c_Law_law.drop 360).take 60).all (z_chk 287) = true := by decide +kernel
theorem z_ck_287_420 : ((c_Law_law.drop 420).take 60).all (z_chk 287) = true := by decide +kernel
theorem z_ck_287_480 : ((c_Law_law.drop 480).take 60).all (z_chk 287) = true := by decide +kernel
theorem z_ck_287_540 : ((c_Law_law.drop 540).take 60).all (z_chk 287) = true := by decide +kernel
theorem z_ck_287_600 : ((c_Law_law.drop 600).take 60).all (z_chk 287) = true := by decide +kernel
theorem z_ck_287_660 : ((c_Law_law.drop 660).take 60).all (z_chk 287) = true := by decide +kernel
theorem z_ck_287_720 : ((c_Law_law.drop 720).take 60).all (z_chk 287) = true := by decide +kernel
theorem z_ck_287_780 : ((c_Law_law.drop 780).take 60).all (z_chk 287) = true := by decide +kernel
theorem z_ck_287_840 : ((c_Law_law.drop 840).take 60).all (z_chk 287) = true := by decide +kernel
theorem z_ck_287 : (c_Law_law.all (z_chk 287)) = true := by
  refine z_all_cut 60 15 c_Law_law (by decide +kernel) ?_
  intro j hj
  match j, hj with
  | 0, _ => exact z_ck_287_0
  | 1, _ => exact z_ck_287_60
  | 2, _ => exact z_ck_287_120
  | 3, _ => exact z_ck_287_180
  | 4, _ => exact z_ck_287_240
  | 5, _ => exact z_ck_287_300
  | 6, _ => exact z_ck_287_360
  | 7, _ => exact z_ck_287_420
  | 8, _ => exact z_ck_287_480
  | 9, _ => exact z_ck_287_540
  | 10, _ => exact z_ck_287_600
  | 11, _ => exact z_ck_287_660
  | 12, _ => exact z_ck_287_720
  | 13, _ => exact z_ck_287_780
  | 14, _ => exact z_ck_287_840
  | _ + 15, h => exact absurd h (by omega)
