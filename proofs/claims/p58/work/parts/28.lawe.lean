def fL_bundles_L1135  (μ : Mem) : Option (Int32 × Mem) :=
  bd (fL_cells μ) fun r248 _ =>
  if r248 = 0 then
  some ((0 : Int32), μ)
  else
  bd (fL_loops μ) fun r250 _ =>
  if r250 = 0 then
  some ((0 : Int32), μ)
  else
  bd (fL_limits μ) fun r252 _ =>
  if r252 = 0 then
  some ((0 : Int32), μ)
  else
  some ((1 : Int32), μ)
def fL_bundles_L1031  (μ : Mem) : Option (Int32 × Mem) :=
  bz (fX8_setLatency μ (1 : Int32) (6 : Int32)) fun r254 μ253 =>
  if r254 = (3 : Int32) then
  bz (fX8_separation μ253 (2 : Int32) (3 : Int32)) fun r256 μ255 =>
  if r256 = (6 : Int32) then
  bd (fX8_wouldPack μ255) fun r258 μ257 =>
  if r258 = (10 : Int32) then
  bz (fX8_exchange μ257 (0 : Int32) (4 : Int32)) fun r260 μ259 =>
  if r260 = 0 then
  bz (fX8_kindOf μ259 (0 : Int32)) fun r262 μ261 =>
  if r262 = (5 : Int32) then
  bz (fX8_kindOf μ261 (4 : Int32)) fun r264 μ263 =>
  if r264 = 0 then
  bz (fX8_exchange μ263 (2 : Int32) (2 : Int32)) fun r266 μ265 =>
  if r266 = (-99 : Int32) then
  bz (fX8_remove μ265 (0 : Int32)) fun r268 μ267 =>
  if r268 = (4 : Int32) then
  bz (fX8_kindOf μ267 (0 : Int32)) fun r270 μ269 =>
  if r270 = (1 : Int32) then
  bz (fX8_undo μ269) fun r272 μ271 =>
  if r272 = (4 : Int32) then
  bd (fX8_steps μ271) fun r274 μ273 =>
  if r274 = (5 : Int32) then
  fL_bundles_L1135 μ273
  else
  some ((0 : Int32), μ273)
  else
  some ((0 : Int32), μ271)
  else
  some ((0 : Int32), μ269)
  else
  some ((0 : Int32), μ267)
  else
  some ((0 : Int32), μ265)
  else
  some ((0 : Int32), μ263)
  else
  some ((0 : Int32), μ261)
  else
  some ((0 : Int32), μ259)
  else
  some ((0 : Int32), μ257)
  else
  some ((0 : Int32), μ255)
  else
  some ((0 : Int32), μ253)
def fL_bundles_L963  (μ : Mem) : Option (Int32 × Mem) :=
  bz (fX8_lay μ (1 : Int32) (0 : Int32)) fun r276 μ275 =>
  if r276 = (1 : Int32) then
  bd (fX8_whyWrong μ275) fun r278 μ277 =>
  if r278 = (3 : Int32) then
  bd (fX8_wrongAt μ277) fun r280 μ279 =>
  if r280 = (1 : Int32) then
  bz (fX8_setSlots μ279 (0 : Int32) (1 : Int32)) fun r282 μ281 =>
  if r282 = (2 : Int32) then
  bd (fX8_whyWrong μ281) fun r284 μ283 =>
  if r284 = (2 : Int32) then
  bd (fX8_wrongAt μ283) fun r286 μ285 =>
  if r286 = 0 then
  bz (fX8_goBack μ285) fun r288 μ287 =>
  if r288 = (5 : Int32) then
  bz (fX8_bundleOf μ287 (0 : Int32)) fun r290 μ289 =>
  if r290 = (-1 : Int32) then
  fL_bundles_L1031 μ289
  else
  some ((0 : Int32), μ289)
  else
  some ((0 : Int32), μ287)
  else
  some ((0 : Int32), μ285)
  else
  some ((0 : Int32), μ283)
  else
  some ((0 : Int32), μ281)
  else
  some ((0 : Int32), μ279)
  else
  some ((0 : Int32), μ277)
  else
  some ((0 : Int32), μ275)
def fL_bundles_L884  (μ : Mem) : Option (Int32 × Mem) :=
  bz (fX8_takeOut μ (4 : Int32)) fun r292 μ291 =>
  if r292 = (6 : Int32) then
  bd (fL_call μ291 (7 : Int32) (4 : Int32) (0 : Int32) (0 : Int32) (0 : Int32)) fun r294 μ293 =>
  if r294 = (-2013 : Int32) then
  bd (fX8_whyWrong μ293) fun r296 μ295 =>
  if r296 = (1 : Int32) then
  bd (fX8_wrongAt μ295) fun r298 μ297 =>
  if r298 = (4 : Int32) then
  bz (fX8_lay μ297 (4 : Int32) (8 : Int32)) fun r300 μ299 =>
  if r300 = (-1 : Int32) then
  bz (fX8_lay μ299 (2 : Int32) (2 : Int32)) fun r302 μ301 =>
  if r302 = (1 : Int32) then
  bd (fX8_whyWrong μ301) fun r304 μ303 =>
  if r304 = 0 then
  bd (fX8_bundles μ303) fun r306 μ305 =>
  if r306 = (9 : Int32) then
  fL_bundles_L963 μ305
  else
  some ((0 : Int32), μ305)
  else
  some ((0 : Int32), μ303)
  else
  some ((0 : Int32), μ301)
  else
  some ((0 : Int32), μ299)
  else
  some ((0 : Int32), μ297)
  else
  some ((0 : Int32), μ295)
  else
  some ((0 : Int32), μ293)
  else
  some ((0 : Int32), μ291)
def fL_bundles_L835  (μ : Mem) : Option (Int32 × Mem) :=
  bz (fX8_lay μ (2 : Int32) (1 : Int32)) fun r308 μ307 =>
  if r308 = (2 : Int32) then
  bd (fX8_whyWrong μ307) fun r310 μ309 =>
  if r310 = (3 : Int32) then
  bd (fX8_wrongAt μ309) fun r312 μ311 =>
  if r312 = (2 : Int32) then
  bd (fX8_doesAgree μ311) fun r314 μ313 =>
  if r314 = 0 then
  bz (fX8_registerInBundles μ313 (2 : Int32)) fun r316 μ315 =>
  if r316 = 0 then
  bz (fX8_cellInBundles μ315 (5 : Int32)) fun r318 μ317 =>
  if r318 = 0 then
  fL_bundles_L884 μ317
  else
  some ((0 : Int32), μ317)
  else
  some ((0 : Int32), μ315)
  else
  some ((0 : Int32), μ313)
  else
  some ((0 : Int32), μ311)
  else
  some ((0 : Int32), μ309)
  else
  some ((0 : Int32), μ307)
def fL_bundles_L742  (μ : Mem) : Option (Int32 × Mem) :=
  bd (fX8_jumpBundle μ) fun r320 μ319 =>
  if r320 = (4 : Int32) then
  bd (fX8_overlap μ319) fun r322 μ321 =>
  if r322 = (2 : Int32) then
  bz (fX8_loopBundles μ321 (3 : Int32)) fun r324 μ323 =>
  if r324 = (19 : Int32) then
  bz (fX8_loopBundles μ323 (0 : Int32)) fun r326 μ325 =>
  if r326 = 0 then
  bz (fX8_registerInLoop μ325 (2 : Int32) (3 : Int32)) fun r328 μ327 =>
  if r328 = (100 : Int32) then
  bz (fX8_registerInRounds μ327 (2 : Int32) (3 : Int32)) fun r330 μ329 =>
  if r330 = (100 : Int32) then
  bz (fX8_registerInLoop μ329 (0 : Int32) (0 : Int32)) fun r332 μ331 =>
  if r332 = 0 then
  bz (fX8_cellInLoop μ331 (1 : Int32) (5 : Int32)) fun r334 μ333 =>
  if r334 = (100 : Int32) then
  bd (fX8_savedStates μ333) fun r336 μ335 =>
  if r336 = (3 : Int32) then
  bd (fL_refused μ335) fun r338 μ337 =>
  if r338 = 0 then
  some ((0 : Int32), μ337)
  else
  fL_bundles_L835 μ337
  else
  some ((0 : Int32), μ335)
  else
  some ((0 : Int32), μ333)
  else
  some ((0 : Int32), μ331)
  else
  some ((0 : Int32), μ329)
  else
  some ((0 : Int32), μ327)
  else
  some ((0 : Int32), μ325)
  else
  some ((0 : Int32), μ323)
  else
  some ((0 : Int32), μ321)
  else
  some ((0 : Int32), μ319)
def fL_bundles_L646  (μ : Mem) : Option (Int32 × Mem) :=
  bz (fX8_registerAt μ (0 : Int32) (0 : Int32)) fun r340 μ339 =>
  if r340 = 0 then
  bz (fX8_registerAt μ339 (1 : Int32) (0 : Int32)) fun r342 μ341 =>
  if r342 = (5 : Int32) then
  bz (fX8_registerAt μ341 (4 : Int32) (2 : Int32)) fun r344 μ343 =>
  if r344 = 0 then
  bz (fX8_registerAt μ343 (5 : Int32) (2 : Int32)) fun r346 μ345 =>
  if r346 = (100 : Int32) then
  bz (fX8_registerAt μ345 (7 : Int32) (3 : Int32)) fun r348 μ347 =>
  if r348 = 0 then
  bz (fX8_registerAt μ347 (8 : Int32) (3 : Int32)) fun r350 μ349 =>
  if r350 = (100 : Int32) then
  bd (fX8_beatByUnits μ349) fun r352 μ351 =>
  if r352 = (2 : Int32) then
  bd (fX8_beatByCircles μ351) fun r354 μ353 =>
  if r354 = (6 : Int32) then
  bd (fX8_beatByRounds μ353) fun r356 μ355 =>
  if r356 = (6 : Int32) then
  bd (fX8_beat μ355) fun r358 μ357 =>
  if r358 = (6 : Int32) then
  fL_bundles_L742 μ357
  else
  some ((0 : Int32), μ357)
  else
  some ((0 : Int32), μ355)
  else
  some ((0 : Int32), μ353)
  else
  some ((0 : Int32), μ351)
  else
  some ((0 : Int32), μ349)
  else
  some ((0 : Int32), μ347)
  else
  some ((0 : Int32), μ345)
  else
  some ((0 : Int32), μ343)
  else
  some ((0 : Int32), μ341)
  else
  some ((0 : Int32), μ339)
def fL_bundles_L465  (μ : Mem) : Option (Int32 × Mem) :=
  bd (fX8_pack μ) fun r360 μ359 =>
  if r360 = (7 : Int32) then
  bd (fL_is μ359 (0 : Int32) (1 : Int32) (8 : Int32) (0 : Int32) (0 : Int32) (0 : Int32)) fun r362 μ361 =>
  if r362 = 0 then
  some ((0 : Int32), μ361)
  else
  bd (fL_is μ361 (1 : Int32) (1 : Int32) (7 : Int32) (1 : Int32) (1 : Int32) (1 : Int32)) fun r364 μ363 =>
  if r364 = 0 then
  some ((0 : Int32), μ363)
  else
  bd (fL_is μ363 (2 : Int32) (3 : Int32) (6 : Int32) (2 : Int32) (2 : Int32) (2 : Int32)) fun r366 μ365 =>
  if r366 = 0 then
  some ((0 : Int32), μ365)
  else
  bd (fL_is μ365 (3 : Int32) (1 : Int32) (3 : Int32) (5 : Int32) (5 : Int32) (5 : Int32)) fun r368 μ367 =>
  if r368 = 0 then
  some ((0 : Int32), μ367)
  else
  bd (fL_is μ367 (4 : Int32) (2 : Int32) (2 : Int32) (6 : Int32) (6 : Int32) (6 : Int32)) fun r370 μ369 =>
  if r370 = 0 then
  some ((0 : Int32), μ369)
  else
  bd (fX8_spanByHeights μ369) fun r372 μ371 =>
  if r372 = (8 : Int32) then
  bd (fX8_spanByEarliest μ371) fun r374 μ373 =>
  if r374 = (8 : Int32) then
  bd (fX8_whyWrong μ373) fun r376 μ375 =>
  if r376 = 0 then
  bd (fX8_doesAgree μ375) fun r378 μ377 =>
  if r378 = 0 then
  some ((0 : Int32), μ377)
  else
  bd (fX8_filledShare μ377) fun r380 μ379 =>
  if (Op.cmpValue (FP.dcmp r380 (4595601734043921847 : UInt64)) .l) = 0 then
  bz (fX8_stepsIn μ379 (5 : Int32)) fun r382 μ381 =>
  if r382 = (8 : Int32) then
  bz (fX8_stepsIn μ381 (3 : Int32)) fun r384 μ383 =>
  if r384 = 0 then
  bz (fX8_registerInOrder μ383 (2 : Int32)) fun r386 μ385 =>
  if r386 = (100 : Int32) then
  bz (fX8_registerInBundles μ385 (3 : Int32)) fun r388 μ387 =>
  if r388 = (100 : Int32) then
  bz (fX8_cellInBundles μ387 (5 : Int32)) fun r390 μ389 =>
  if r390 = (100 : Int32) then
  bz (fX8_cellInOrder μ389 (5 : Int32)) fun r392 μ391 =>
  if r392 = (100 : Int32) then
  fL_bundles_L646 μ391
  else
  some ((0 : Int32), μ391)
  else
  some ((0 : Int32), μ389)
  else
  some ((0 : Int32), μ387)
  else
  some ((0 : Int32), μ385)
  else
  some ((0 : Int32), μ383)
  else
  some ((0 : Int32), μ381)
  else
  some ((0 : Int32), μ379)
  else
  some ((0 : Int32), μ375)
  else
  some ((0 : Int32), μ373)
  else
  some ((0 : Int32), μ371)
  else
  some ((0 : Int32), μ359)
def fL_bundles_L384  (μ : Mem) : Option (Int32 × Mem) :=
  bz (fX8_readBy μ (3 : Int32)) fun r394 μ393 =>
  if r394 = (5 : Int32) then
  bz (fX8_writtenBy μ393 (3 : Int32)) fun r396 μ395 =>
  if r396 = (-1 : Int32) then
  bz (fX8_readBy μ395 (0 : Int32)) fun r398 μ397 =>
  if r398 = 0 then
  bd (fX8_whyWrong μ397) fun r400 μ399 =>
  if r400 = (1 : Int32) then
  bd (fX8_wrongAt μ399) fun r402 μ401 =>
  if r402 = 0 then
  bd (fX8_doesAgree μ401) fun r404 μ403 =>
  if r404 = 0 then
  bd (fX8_wouldPack μ403) fun r406 μ405 =>
  if r406 = (7 : Int32) then
  bd (fX8_bundles μ405) fun r408 μ407 =>
  if r408 = 0 then
  bd (fX8_keep μ407) fun r410 μ409 =>
  if r410 = (5 : Int32) then
  bd (fL_refused μ409) fun r412 μ411 =>
  if r412 = 0 then
  some ((0 : Int32), μ411)
  else
  fL_bundles_L465 μ411
  else
  some ((0 : Int32), μ409)
  else
  some ((0 : Int32), μ407)
  else
  some ((0 : Int32), μ405)
  else
  some ((0 : Int32), μ403)
  else
  some ((0 : Int32), μ401)
  else
  some ((0 : Int32), μ399)
  else
  some ((0 : Int32), μ397)
  else
  some ((0 : Int32), μ395)
  else
  some ((0 : Int32), μ393)
def fL_bundles_L201  (μ : Mem) : Option (Int32 × Mem) :=
  bz (fX8_separation μ (0 : Int32) (1 : Int32)) fun r414 μ413 =>
  if r414 = (1 : Int32) then
  bz (fX8_separation μ413 (1 : Int32) (2 : Int32)) fun r416 μ415 =>
  if r416 = (1 : Int32) then
  bz (fX8_separation μ415 (2 : Int32) (3 : Int32)) fun r418 μ417 =>
  if r418 = (3 : Int32) then
  bz (fX8_separation μ417 (0 : Int32) (3 : Int32)) fun r420 μ419 =>
  if r420 = (1 : Int32) then
  bz (fX8_separation μ419 (3 : Int32) (4 : Int32)) fun r422 μ421 =>
  if r422 = (1 : Int32) then
  bz (fX8_separation μ421 (0 : Int32) (4 : Int32)) fun r424 μ423 =>
  if r424 = (1 : Int32) then
  bz (fX8_separation μ423 (0 : Int32) (2 : Int32)) fun r426 μ425 =>
  if r426 = (-99 : Int32) then
  bz (fX8_separation μ425 (2 : Int32) (4 : Int32)) fun r428 μ427 =>
  if r428 = (-99 : Int32) then
  bz (fX8_separation μ427 (4 : Int32) (3 : Int32)) fun r430 μ429 =>
  if r430 = (-99 : Int32) then
  bz (fX8_separation μ429 (3 : Int32) (3 : Int32)) fun r432 μ431 =>
  if r432 = (-99 : Int32) then
  bz (fX8_carried μ431 (1 : Int32) (0 : Int32)) fun r434 μ433 =>
  if r434 = 0 then
  bz (fX8_carried μ433 (3 : Int32) (0 : Int32)) fun r436 μ435 =>
  if r436 = 0 then
  bz (fX8_carried μ435 (3 : Int32) (2 : Int32)) fun r438 μ437 =>
  if r438 = (-2 : Int32) then
  bz (fX8_carried μ437 (0 : Int32) (1 : Int32)) fun r440 μ439 =>
  if r440 = (-99 : Int32) then
  bz (fX8_carried μ439 (4 : Int32) (4 : Int32)) fun r442 μ441 =>
  if r442 = (1 : Int32) then
  bz (fX8_carried μ441 (3 : Int32) (3 : Int32)) fun r444 μ443 =>
  if r444 = (1 : Int32) then
  bz (fX8_carried μ443 (3 : Int32) (4 : Int32)) fun r446 μ445 =>
  if r446 = (1 : Int32) then
  bz (fX8_carried μ445 (4 : Int32) (3 : Int32)) fun r448 μ447 =>
  if r448 = 0 then
  fL_bundles_L384 μ447
  else
  some ((0 : Int32), μ447)
  else
  some ((0 : Int32), μ445)
  else
  some ((0 : Int32), μ443)
  else
  some ((0 : Int32), μ441)
  else
  some ((0 : Int32), μ439)
  else
  some ((0 : Int32), μ437)
  else
  some ((0 : Int32), μ435)
  else
  some ((0 : Int32), μ433)
  else
  some ((0 : Int32), μ431)
  else
  some ((0 : Int32), μ429)
  else
  some ((0 : Int32), μ427)
  else
  some ((0 : Int32), μ425)
  else
  some ((0 : Int32), μ423)
  else
  some ((0 : Int32), μ421)
  else
  some ((0 : Int32), μ419)
  else
  some ((0 : Int32), μ417)
  else
  some ((0 : Int32), μ415)
  else
  some ((0 : Int32), μ413)
def fL_bundles_L146  (μ : Mem) : Option (Int32 × Mem) :=
  bd (fL_types μ (7006815124425892139 : Int64)) fun r450 μ449 =>
  if r450 = 0 then
  some ((0 : Int32), μ449)
  else
  bd (fL_types μ449 (7006302760596038203 : Int64)) fun r452 μ451 =>
  if r452 = 0 then
  some ((0 : Int32), μ451)
  else
  bd (fL_types μ451 (6584591616915104571 : Int64)) fun r454 μ453 =>
  if r454 = 0 then
  some ((0 : Int32), μ453)
  else
  bd (fL_types μ453 (28214960352604253 : Int64)) fun r456 μ455 =>
  if r456 = 0 then
  some ((0 : Int32), μ455)
  else
  bz (fX8_addAll μ455) fun r458 μ457 =>
  if r458 = (5 : Int32) then
  bd (fX8_clearBuffer μ457) fun r460 μ459 =>
  if r460 = 0 then
  fL_bundles_L201 μ459
  else
  some ((0 : Int32), μ459)
  else
  some ((0 : Int32), μ457)
def fL_bundles (μ : Mem) : Option (Int32 × Mem) :=
  bd (fL_call μ0X (10 : Int32) (0 : Int32) (0 : Int32) (0 : Int32) (0 : Int32)) fun r462 μ461 =>
  if r462 = (-2013 : Int32) then
  bd (fL_call μ461 (11 : Int32) (0 : Int32) (0 : Int32) (0 : Int32) (0 : Int32)) fun r464 μ463 =>
  if r464 = (-2013 : Int32) then
  bd (fX8_pack μ463) fun r466 μ465 =>
  if r466 = 0 then
  bd (fX8_bundles μ465) fun r468 μ467 =>
  if r468 = 0 then
  bd (fX8_whyWrong μ467) fun r470 μ469 =>
  if r470 = 0 then
  bd (fX8_wrongAt μ469) fun r472 μ471 =>
  if r472 = (-1 : Int32) then
  bd (fX8_filledShare μ471) fun r474 μ473 =>
  if (Op.cmpValue (FP.dcmp r474 FP.dconst0) .l) = 0 then
  bd (fX8_doesAgree μ473) fun r476 μ475 =>
  if r476 = 0 then
  some ((0 : Int32), μ475)
  else
  bd (fX8_beatByUnits μ475) fun r478 μ477 =>
  if r478 = (1 : Int32) then
  bd (fX8_beatByCircles μ477) fun r480 μ479 =>
  if r480 = (1 : Int32) then
  bd (fX8_beat μ479) fun r482 μ481 =>
  if r482 = (2 : Int32) then
  bd (fX8_jumpBundle μ481) fun r484 μ483 =>
  if r484 = 0 then
  bd (fX8_overlap μ483) fun r486 μ485 =>
  if r486 = 0 then
  bz (fX8_loopBundles μ485 (20 : Int32)) fun r488 μ487 =>
  if r488 = 0 then
  bd (fX8_spanByEarliest μ487) fun r490 μ489 =>
  if r490 = 0 then
  bd (fL_refused μ489) fun r492 μ491 =>
  if r492 = 0 then
  some ((0 : Int32), μ491)
  else
  fL_bundles_L146 μ491
  else
  some ((0 : Int32), μ489)
  else
  some ((0 : Int32), μ487)
  else
  some ((0 : Int32), μ485)
  else
  some ((0 : Int32), μ483)
  else
  some ((0 : Int32), μ481)
  else
  some ((0 : Int32), μ479)
  else
  some ((0 : Int32), μ477)
  else
  some ((0 : Int32), μ473)
  else
  some ((0 : Int32), μ471)
  else
  some ((0 : Int32), μ469)
  else
  some ((0 : Int32), μ467)
  else
  some ((0 : Int32), μ465)
  else
  some ((0 : Int32), μ463)
  else
  some ((0 : Int32), μ461)
set_option maxRecDepth 20000 in
theorem kL_bundles_L1135 {p : Program} {l : Launch} {e : Env} {s : State} {m : MethodId} {args : Array Value} {below : List Frame} {meth : Method} {c : Code} {D : va_G} {cI cR : ClassId} {ad : Nat → Nat} {A0 : Nat → Prop} (E : EV p s m args meth c cL_bundles 1 RL D cI cR ad shX NX A0) (X : EM9 l s A0) (hr : meth.sig.returnType = (some .boolean))  (μ : Mem) (cl : Nat) (hc0 : cl + (5542) ≤ 8785) : LL p l e (RX 14 8785) s m args below meth c 1 D cI cR ad shX NX A0 (fun (r : Int32) μ' => KM below args s D cI cR (fun _ => 0) shX 0 A0 8785 (some (.int r)) μ') (fL_bundles_L1135 μ) cl (6 * cl) 1135 [none] [] μ := by
  rw [fL_bundles_L1135]
  refine ll_mcall0 E X (pc := 1135) (d := 10) (μd := μ) [] dL_bundles_1135 cv_L_240 (fun h => cmL_cells X.1 h) rfl (Nat.le_of_ble_eq_true rfl) ⟨(Nat.le_of_ble_eq_true rfl), (Nat.le_of_ble_eq_true rfl)⟩ (mcd (by omega)) (fun r248 => ?_)
  refine ll_if_eq E (pc := 1138) (tgt := 1157) dL_bundles_1138 rfl ?_ ?_
  · refine ll_iconst E (pc := 1157) dL_bundles_1157 kc_0 ?_
    exact ll_mzreturn E hr (fun _ _ => wp0) rfl dL_bundles_1158 (by omega)
  · refine ll_mcall0 E X (pc := 1141) (d := 13) (μd := μ) [] dL_bundles_1141 cv_L_243 (fun h => cmL_loops X.1 h) rfl (Nat.le_of_ble_eq_true rfl) ⟨(Nat.le_of_ble_eq_true rfl), (Nat.le_of_ble_eq_true rfl)⟩ (mcd (by omega)) (fun r250 => ?_)
    refine ll_if_eq E (pc := 1144) (tgt := 1157) dL_bundles_1144 rfl ?_ ?_
    · refine ll_iconst E (pc := 1157) dL_bundles_1157 kc_0 ?_
      exact ll_mzreturn E hr (fun _ _ => wp0) rfl dL_bundles_1158 (by omega)
    · refine ll_mcall0 E X (pc := 1147) (d := 13) (μd := μ) [] dL_bundles_1147 cv_L_246 (fun h => cmL_limits X.1 h) rfl (Nat.le_of_ble_eq_true rfl) ⟨(Nat.le_of_ble_eq_true rfl), (Nat.le_of_ble_eq_true rfl)⟩ (mcd (by omega)) (fun r252 => ?_)
      refine ll_if_eq E (pc := 1150) (tgt := 1157) dL_bundles_1150 rfl ?_ ?_
      · refine ll_iconst E (pc := 1157) dL_bundles_1157 kc_0 ?_
        exact ll_mzreturn E hr (fun _ _ => wp0) rfl dL_bundles_1158 (by omega)
      · refine ll_iconst E (pc := 1153) dL_bundles_1153 kc_1 ?_
        refine ll_goto E (pc := 1154) (tgt := 1158) dL_bundles_1154 rfl ?_
        exact ll_mzreturn E hr (fun _ _ => wp0) rfl dL_bundles_1158 (by omega)
set_option maxRecDepth 20000 in
theorem kL_bundles_L1031 {p : Program} {l : Launch} {e : Env} {s : State} {m : MethodId} {args : Array Value} {below : List Frame} {meth : Method} {c : Code} {D : va_G} {cI cR : ClassId} {ad : Nat → Nat} {A0 : Nat → Prop} (E : EV p s m args meth c cL_bundles 1 RL D cI cR ad shX NX A0) (X : EM9 l s A0) (hr : meth.sig.returnType = (some .boolean))  (μ : Mem) (cl : Nat) (hc0 : cl + (5555) ≤ 8785) : LL p l e (RX 14 8785) s m args below meth c 1 D cI cR ad shX NX A0 (fun (r : Int32) μ' => KM below args s D cI cR (fun _ => 0) shX 0 A0 8785 (some (.int r)) μ') (fL_bundles_L1031 μ) cl (6 * cl) 1031 [some (.ref (ad 0))] [] μ := by
  rw [fL_bundles_L1031]
  refine ll_aload_n E (pc := 1031) dL_bundles_1031 rfl ?_
  refine ll_iconst E (pc := 1032) dL_bundles_1032 kc_1 ?_
  refine ll_bipush E (pc := 1033) dL_bundles_1033 kb_6 ?_
  refine ll_ycallVi E X (pc := 1035) (d := 8) (mc1 := 2) (ci := 8) (o9 := 0) [.int (1 : Int32), .int (6 : Int32)] [] dL_bundles_1035 cv_L_45 (fun h => cxX8_setLatency X.1 h) (Nat.le_of_ble_eq_true rfl) sx_0 ci_8 rfl rfl (Nat.le_of_ble_eq_true rfl) ⟨(Nat.le_of_ble_eq_true rfl), (Nat.le_of_ble_eq_true rfl)⟩ (mcd (by omega)) ?_
  intro r254 μ253
  refine ll_iconst E (pc := 1038) dL_bundles_1038 kc_3 ?_
  refine ll_icmp_ne E (pc := 1039) (tgt := 1133) dL_bundles_1039 rfl ?_ ?_
  · refine ll_iconst E (pc := 1133) dL_bundles_1133 kc_0 ?_
    exact ll_mzreturn E hr (fun _ _ => wp0) rfl dL_bundles_1134 (by omega)
  · refine ll_aload_n E (pc := 1042) dL_bundles_1042 rfl ?_
    refine ll_iconst E (pc := 1043) dL_bundles_1043 kc_2 ?_
    refine ll_iconst E (pc := 1044) dL_bundles_1044 kc_3 ?_
    refine ll_ycallVi E X (pc := 1045) (d := 8) (mc1 := 2) (ci := 8) (o9 := 0) [.int (2 : Int32), .int (3 : Int32)] [] dL_bundles_1045 cv_L_94 (fun h => cxX8_separation X.1 h) (Nat.le_of_ble_eq_true rfl) sx_0 ci_8 rfl rfl (Nat.le_of_ble_eq_true rfl) ⟨(Nat.le_of_ble_eq_true rfl), (Nat.le_of_ble_eq_true rfl)⟩ (mcd (by omega)) ?_
    intro r256 μ255
    refine ll_bipush E (pc := 1048) dL_bundles_1048 kb_6 ?_
    refine ll_icmp_ne E (pc := 1050) (tgt := 1133) dL_bundles_1050 rfl ?_ ?_
    · refine ll_iconst E (pc := 1133) dL_bundles_1133 kc_0 ?_
      exact ll_mzreturn E hr (fun _ _ => wp0) rfl dL_bundles_1134 (by omega)
    · refine ll_aload_n E (pc := 1053) dL_bundles_1053 rfl ?_
      refine ll_callVi E (pc := 1054) (d := 5) (ci := 8) (o9 := 0) [] [] dL_bundles_1054 cv_L_152 (fun h => ctX8_wouldPack h) (Nat.le_of_ble_eq_true rfl) sx_0 ci_8 rfl rfl (Nat.le_of_ble_eq_true rfl) ⟨(Nat.le_of_ble_eq_true rfl), (Nat.le_of_ble_eq_true rfl)⟩ (mcc (by omega)) ?_
      intro r258 μ257
      refine ll_bipush E (pc := 1057) dL_bundles_1057 kb_10 ?_
      refine ll_icmp_ne E (pc := 1059) (tgt := 1133) dL_bundles_1059 rfl ?_ ?_
      · refine ll_iconst E (pc := 1133) dL_bundles_1133 kc_0 ?_
        exact ll_mzreturn E hr (fun _ _ => wp0) rfl dL_bundles_1134 (by omega)
      · refine ll_aload_n E (pc := 1062) dL_bundles_1062 rfl ?_
        refine ll_iconst E (pc := 1063) dL_bundles_1063 kc_0 ?_
        refine ll_iconst E (pc := 1064) dL_bundles_1064 kc_4 ?_
        refine ll_ycallVi E X (pc := 1065) (d := 8) (mc1 := 2) (ci := 8) (o9 := 0) [.int (0 : Int32), .int (4 : Int32)] [] dL_bundles_1065 cv_L_38 (fun h => cxX8_exchange X.1 h) (Nat.le_of_ble_eq_true rfl) sx_0 ci_8 rfl rfl (Nat.le_of_ble_eq_true rfl) ⟨(Nat.le_of_ble_eq_true rfl), (Nat.le_of_ble_eq_true rfl)⟩ (mcd (by omega)) ?_
        intro r260 μ259
        refine ll_if_ne E (pc := 1068) (tgt := 1133) dL_bundles_1068 rfl ?_ ?_
        · refine ll_iconst E (pc := 1133) dL_bundles_1133 kc_0 ?_
          exact ll_mzreturn E hr (fun _ _ => wp0) rfl dL_bundles_1134 (by omega)
        · refine ll_aload_n E (pc := 1071) dL_bundles_1071 rfl ?_
          refine ll_iconst E (pc := 1072) dL_bundles_1072 kc_0 ?_
          refine ll_ycallVi E X (pc := 1073) (d := 8) (mc1 := 1) (ci := 8) (o9 := 0) [.int (0 : Int32)] [] dL_bundles_1073 cv_L_70 (fun h => cxX8_kindOf X.1 h) (Nat.le_of_ble_eq_true rfl) sx_0 ci_8 rfl rfl (Nat.le_of_ble_eq_true rfl) ⟨(Nat.le_of_ble_eq_true rfl), (Nat.le_of_ble_eq_true rfl)⟩ (mcd (by omega)) ?_
          intro r262 μ261
          refine ll_iconst E (pc := 1076) dL_bundles_1076 kc_5 ?_
          refine ll_icmp_ne E (pc := 1077) (tgt := 1133) dL_bundles_1077 rfl ?_ ?_
          · refine ll_iconst E (pc := 1133) dL_bundles_1133 kc_0 ?_
            exact ll_mzreturn E hr (fun _ _ => wp0) rfl dL_bundles_1134 (by omega)
          · refine ll_aload_n E (pc := 1080) dL_bundles_1080 rfl ?_
            refine ll_iconst E (pc := 1081) dL_bundles_1081 kc_4 ?_
            refine ll_ycallVi E X (pc := 1082) (d := 8) (mc1 := 1) (ci := 8) (o9 := 0) [.int (4 : Int32)] [] dL_bundles_1082 cv_L_70 (fun h => cxX8_kindOf X.1 h) (Nat.le_of_ble_eq_true rfl) sx_0 ci_8 rfl rfl (Nat.le_of_ble_eq_true rfl) ⟨(Nat.le_of_ble_eq_true rfl), (Nat.le_of_ble_eq_true rfl)⟩ (mcd (by omega)) ?_
            intro r264 μ263
            refine ll_if_ne E (pc := 1085) (tgt := 1133) dL_bundles_1085 rfl ?_ ?_
            · refine ll_iconst E (pc := 1133) dL_bundles_1133 kc_0 ?_
              exact ll_mzreturn E hr (fun _ _ => wp0) rfl dL_bundles_1134 (by omega)
            · refine ll_aload_n E (pc := 1088) dL_bundles_1088 rfl ?_
              refine ll_iconst E (pc := 1089) dL_bundles_1089 kc_2 ?_
              refine ll_iconst E (pc := 1090) dL_bundles_1090 kc_2 ?_
              refine ll_ycallVi E X (pc := 1091) (d := 8) (mc1 := 2) (ci := 8) (o9 := 0) [.int (2 : Int32), .int (2 : Int32)] [] dL_bundles_1091 cv_L_38 (fun h => cxX8_exchange X.1 h) (Nat.le_of_ble_eq_true rfl) sx_0 ci_8 rfl rfl (Nat.le_of_ble_eq_true rfl) ⟨(Nat.le_of_ble_eq_true rfl), (Nat.le_of_ble_eq_true rfl)⟩ (mcd (by omega)) ?_
              intro r266 μ265
              refine ll_bipush E (pc := 1094) dL_bundles_1094 kb_m99 ?_
              refine ll_icmp_ne E (pc := 1096) (tgt := 1133) dL_bundles_1096 rfl ?_ ?_
              · refine ll_iconst E (pc := 1133) dL_bundles_1133 kc_0 ?_
                exact ll_mzreturn E hr (fun _ _ => wp0) rfl dL_bundles_1134 (by omega)
              · refine ll_aload_n E (pc := 1099) dL_bundles_1099 rfl ?_
                refine ll_iconst E (pc := 1100) dL_bundles_1100 kc_0 ?_
                refine ll_ycallVi E X (pc := 1101) (d := 8) (mc1 := 1) (ci := 8) (o9 := 0) [.int (0 : Int32)] [] dL_bundles_1101 cv_L_34 (fun h => cxX8_remove X.1 h) (Nat.le_of_ble_eq_true rfl) sx_0 ci_8 rfl rfl (Nat.le_of_ble_eq_true rfl) ⟨(Nat.le_of_ble_eq_true rfl), (Nat.le_of_ble_eq_true rfl)⟩ (mcd (by omega)) ?_
                intro r268 μ267
                refine ll_iconst E (pc := 1104) dL_bundles_1104 kc_4 ?_
                refine ll_icmp_ne E (pc := 1105) (tgt := 1133) dL_bundles_1105 rfl ?_ ?_
                · refine ll_iconst E (pc := 1133) dL_bundles_1133 kc_0 ?_
                  exact ll_mzreturn E hr (fun _ _ => wp0) rfl dL_bundles_1134 (by omega)
                · refine ll_aload_n E (pc := 1108) dL_bundles_1108 rfl ?_
                  refine ll_iconst E (pc := 1109) dL_bundles_1109 kc_0 ?_
                  refine ll_ycallVi E X (pc := 1110) (d := 8) (mc1 := 1) (ci := 8) (o9 := 0) [.int (0 : Int32)] [] dL_bundles_1110 cv_L_70 (fun h => cxX8_kindOf X.1 h) (Nat.le_of_ble_eq_true rfl) sx_0 ci_8 rfl rfl (Nat.le_of_ble_eq_true rfl) ⟨(Nat.le_of_ble_eq_true rfl), (Nat.le_of_ble_eq_true rfl)⟩ (mcd (by omega)) ?_
                  intro r270 μ269
                  refine ll_iconst E (pc := 1113) dL_bundles_1113 kc_1 ?_
                  refine ll_icmp_ne E (pc := 1114) (tgt := 1133) dL_bundles_1114 rfl ?_ ?_
                  · refine ll_iconst E (pc := 1133) dL_bundles_1133 kc_0 ?_
                    exact ll_mzreturn E hr (fun _ _ => wp0) rfl dL_bundles_1134 (by omega)
                  · refine ll_aload_n E (pc := 1117) dL_bundles_1117 rfl ?_
                    refine ll_ycallVi E X (pc := 1118) (d := 7) (mc1 := 1) (ci := 8) (o9 := 0) [] [] dL_bundles_1118 cv_L_64 (fun h => cxX8_undo X.1 h) (Nat.le_of_ble_eq_true rfl) sx_0 ci_8 rfl rfl (Nat.le_of_ble_eq_true rfl) ⟨(Nat.le_of_ble_eq_true rfl), (Nat.le_of_ble_eq_true rfl)⟩ (mcd (by omega)) ?_
                    intro r272 μ271
                    refine ll_iconst E (pc := 1121) dL_bundles_1121 kc_4 ?_
                    refine ll_icmp_ne E (pc := 1122) (tgt := 1133) dL_bundles_1122 rfl ?_ ?_
                    · refine ll_iconst E (pc := 1133) dL_bundles_1133 kc_0 ?_
                      exact ll_mzreturn E hr (fun _ _ => wp0) rfl dL_bundles_1134 (by omega)
                    · refine ll_aload_n E (pc := 1125) dL_bundles_1125 rfl ?_
                      refine ll_callVi E (pc := 1126) (d := 0) (ci := 8) (o9 := 0) [] [] dL_bundles_1126 cv_L_140 (fun h => ctX8_steps h) (Nat.le_of_ble_eq_true rfl) sx_0 ci_8 rfl rfl (Nat.le_of_ble_eq_true rfl) ⟨(Nat.le_of_ble_eq_true rfl), (Nat.le_of_ble_eq_true rfl)⟩ (mcc (by omega)) ?_
                      intro r274 μ273
                      refine ll_iconst E (pc := 1129) dL_bundles_1129 kc_5 ?_
                      refine ll_icmp_eq E (pc := 1130) (tgt := 1135) dL_bundles_1130 rfl ?_ ?_
                      · exact ll_lo (lo' := [none]) trivial (kL_bundles_L1135 E X hr μ273 _ (by omega))
                      · refine ll_iconst E (pc := 1133) dL_bundles_1133 kc_0 ?_
                        exact ll_mzreturn E hr (fun _ _ => wp0) rfl dL_bundles_1134 (by omega)
set_option maxRecDepth 20000 in
theorem kL_bundles_L963 {p : Program} {l : Launch} {e : Env} {s : State} {m : MethodId} {args : Array Value} {below : List Frame} {meth : Method} {c : Code} {D : va_G} {cI cR : ClassId} {ad : Nat → Nat} {A0 : Nat → Prop} (E : EV p s m args meth c cL_bundles 1 RL D cI cR ad shX NX A0) (X : EM9 l s A0) (hr : meth.sig.returnType = (some .boolean))  (μ : Mem) (cl : Nat) (hc0 : cl + (5561) ≤ 8785) : LL p l e (RX 14 8785) s m args below meth c 1 D cI cR ad shX NX A0 (fun (r : Int32) μ' => KM below args s D cI cR (fun _ => 0) shX 0 A0 8785 (some (.int r)) μ') (fL_bundles_L963 μ) cl (6 * cl) 963 [some (.ref (ad 0))] [] μ := by
  rw [fL_bundles_L963]
  refine ll_aload_n E (pc := 963) dL_bundles_963 rfl ?_
  refine ll_iconst E (pc := 964) dL_bundles_964 kc_1 ?_
  refine ll_iconst E (pc := 965) dL_bundles_965 kc_0 ?_
  refine ll_ycallVi E X (pc := 966) (d := 8) (mc1 := 2) (ci := 8) (o9 := 0) [.int (1 : Int32), .int (0 : Int32)] [] dL_bundles_966 cv_L_51 (fun h => cxX8_lay X.1 h) (Nat.le_of_ble_eq_true rfl) sx_0 ci_8 rfl rfl (Nat.le_of_ble_eq_true rfl) ⟨(Nat.le_of_ble_eq_true rfl), (Nat.le_of_ble_eq_true rfl)⟩ (mcd (by omega)) ?_
  intro r276 μ275
  refine ll_iconst E (pc := 969) dL_bundles_969 kc_1 ?_
  refine ll_icmp_ne E (pc := 970) (tgt := 1133) dL_bundles_970 rfl ?_ ?_
  · refine ll_iconst E (pc := 1133) dL_bundles_1133 kc_0 ?_
    exact ll_mzreturn E hr (fun _ _ => wp0) rfl dL_bundles_1134 (by omega)
  · refine ll_aload_n E (pc := 973) dL_bundles_973 rfl ?_
    refine ll_callVi E (pc := 974) (d := 5) (ci := 8) (o9 := 0) [] [] dL_bundles_974 cv_L_146 (fun h => ctX8_whyWrong h) (Nat.le_of_ble_eq_true rfl) sx_0 ci_8 rfl rfl (Nat.le_of_ble_eq_true rfl) ⟨(Nat.le_of_ble_eq_true rfl), (Nat.le_of_ble_eq_true rfl)⟩ (mcc (by omega)) ?_
    intro r278 μ277
    refine ll_iconst E (pc := 977) dL_bundles_977 kc_3 ?_
    refine ll_icmp_ne E (pc := 978) (tgt := 1133) dL_bundles_978 rfl ?_ ?_
    · refine ll_iconst E (pc := 1133) dL_bundles_1133 kc_0 ?_
      exact ll_mzreturn E hr (fun _ _ => wp0) rfl dL_bundles_1134 (by omega)
    · refine ll_aload_n E (pc := 981) dL_bundles_981 rfl ?_
      refine ll_callVi E (pc := 982) (d := 5) (ci := 8) (o9 := 0) [] [] dL_bundles_982 cv_L_149 (fun h => ctX8_wrongAt h) (Nat.le_of_ble_eq_true rfl) sx_0 ci_8 rfl rfl (Nat.le_of_ble_eq_true rfl) ⟨(Nat.le_of_ble_eq_true rfl), (Nat.le_of_ble_eq_true rfl)⟩ (mcc (by omega)) ?_
      intro r280 μ279
      refine ll_iconst E (pc := 985) dL_bundles_985 kc_1 ?_
      refine ll_icmp_ne E (pc := 986) (tgt := 1133) dL_bundles_986 rfl ?_ ?_
      · refine ll_iconst E (pc := 1133) dL_bundles_1133 kc_0 ?_
        exact ll_mzreturn E hr (fun _ _ => wp0) rfl dL_bundles_1134 (by omega)
      · refine ll_aload_n E (pc := 989) dL_bundles_989 rfl ?_
        refine ll_iconst E (pc := 990) dL_bundles_990 kc_0 ?_
        refine ll_iconst E (pc := 991) dL_bundles_991 kc_1 ?_
        refine ll_ycallVi E X (pc := 992) (d := 8) (mc1 := 2) (ci := 8) (o9 := 0) [.int (0 : Int32), .int (1 : Int32)] [] dL_bundles_992 cv_L_42 (fun h => cxX8_setSlots X.1 h) (Nat.le_of_ble_eq_true rfl) sx_0 ci_8 rfl rfl (Nat.le_of_ble_eq_true rfl) ⟨(Nat.le_of_ble_eq_true rfl), (Nat.le_of_ble_eq_true rfl)⟩ (mcd (by omega)) ?_
        intro r282 μ281
        refine ll_iconst E (pc := 995) dL_bundles_995 kc_2 ?_
        refine ll_icmp_ne E (pc := 996) (tgt := 1133) dL_bundles_996 rfl ?_ ?_
        · refine ll_iconst E (pc := 1133) dL_bundles_1133 kc_0 ?_
          exact ll_mzreturn E hr (fun _ _ => wp0) rfl dL_bundles_1134 (by omega)
        · refine ll_aload_n E (pc := 999) dL_bundles_999 rfl ?_
          refine ll_callVi E (pc := 1000) (d := 5) (ci := 8) (o9 := 0) [] [] dL_bundles_1000 cv_L_146 (fun h => ctX8_whyWrong h) (Nat.le_of_ble_eq_true rfl) sx_0 ci_8 rfl rfl (Nat.le_of_ble_eq_true rfl) ⟨(Nat.le_of_ble_eq_true rfl), (Nat.le_of_ble_eq_true rfl)⟩ (mcc (by omega)) ?_
          intro r284 μ283
          refine ll_iconst E (pc := 1003) dL_bundles_1003 kc_2 ?_
          refine ll_icmp_ne E (pc := 1004) (tgt := 1133) dL_bundles_1004 rfl ?_ ?_
          · refine ll_iconst E (pc := 1133) dL_bundles_1133 kc_0 ?_
            exact ll_mzreturn E hr (fun _ _ => wp0) rfl dL_bundles_1134 (by omega)
          · refine ll_aload_n E (pc := 1007) dL_bundles_1007 rfl ?_
            refine ll_callVi E (pc := 1008) (d := 5) (ci := 8) (o9 := 0) [] [] dL_bundles_1008 cv_L_149 (fun h => ctX8_wrongAt h) (Nat.le_of_ble_eq_true rfl) sx_0 ci_8 rfl rfl (Nat.le_of_ble_eq_true rfl) ⟨(Nat.le_of_ble_eq_true rfl), (Nat.le_of_ble_eq_true rfl)⟩ (mcc (by omega)) ?_
            intro r286 μ285
            refine ll_if_ne E (pc := 1011) (tgt := 1133) dL_bundles_1011 rfl ?_ ?_
            · refine ll_iconst E (pc := 1133) dL_bundles_1133 kc_0 ?_
              exact ll_mzreturn E hr (fun _ _ => wp0) rfl dL_bundles_1134 (by omega)
            · refine ll_aload_n E (pc := 1014) dL_bundles_1014 rfl ?_
              refine ll_ycallVi E X (pc := 1015) (d := 7) (mc1 := 1) (ci := 8) (o9 := 0) [] [] dL_bundles_1015 cv_L_67 (fun h => cxX8_goBack X.1 h) (Nat.le_of_ble_eq_true rfl) sx_0 ci_8 rfl rfl (Nat.le_of_ble_eq_true rfl) ⟨(Nat.le_of_ble_eq_true rfl), (Nat.le_of_ble_eq_true rfl)⟩ (mcd (by omega)) ?_
              intro r288 μ287
              refine ll_iconst E (pc := 1018) dL_bundles_1018 kc_5 ?_
              refine ll_icmp_ne E (pc := 1019) (tgt := 1133) dL_bundles_1019 rfl ?_ ?_
              · refine ll_iconst E (pc := 1133) dL_bundles_1133 kc_0 ?_
                exact ll_mzreturn E hr (fun _ _ => wp0) rfl dL_bundles_1134 (by omega)
              · refine ll_aload_n E (pc := 1022) dL_bundles_1022 rfl ?_
                refine ll_iconst E (pc := 1023) dL_bundles_1023 kc_0 ?_
                refine ll_ycallVi E X (pc := 1024) (d := 8) (mc1 := 1) (ci := 8) (o9 := 0) [.int (0 : Int32)] [] dL_bundles_1024 cv_L_88 (fun h => cxX8_bundleOf X.1 h) (Nat.le_of_ble_eq_true rfl) sx_0 ci_8 rfl rfl (Nat.le_of_ble_eq_true rfl) ⟨(Nat.le_of_ble_eq_true rfl), (Nat.le_of_ble_eq_true rfl)⟩ (mcd (by omega)) ?_
                intro r290 μ289
                refine ll_iconst E (pc := 1027) dL_bundles_1027 kc_m1 ?_
                refine ll_icmp_ne E (pc := 1028) (tgt := 1133) dL_bundles_1028 rfl ?_ ?_
                · refine ll_iconst E (pc := 1133) dL_bundles_1133 kc_0 ?_
                  exact ll_mzreturn E hr (fun _ _ => wp0) rfl dL_bundles_1134 (by omega)
                · exact ll_lo (lo' := [some (.ref (ad 0))]) ⟨rfl, trivial⟩ (kL_bundles_L1031 E X hr μ289 _ (by omega))
set_option maxRecDepth 20000 in
theorem kL_bundles_L884 {p : Program} {l : Launch} {e : Env} {s : State} {m : MethodId} {args : Array Value} {below : List Frame} {meth : Method} {c : Code} {D : va_G} {cI cR : ClassId} {ad : Nat → Nat} {A0 : Nat → Prop} (E : EV p s m args meth c cL_bundles 1 RL D cI cR ad shX NX A0) (X : EM9 l s A0) (hr : meth.sig.returnType = (some .boolean))  (μ : Mem) (cl : Nat) (hc0 : cl + (5569) ≤ 8785) : LL p l e (RX 14 8785) s m args below meth c 1 D cI cR ad shX NX A0 (fun (r : Int32) μ' => KM below args s D cI cR (fun _ => 0) shX 0 A0 8785 (some (.int r)) μ') (fL_bundles_L884 μ) cl (6 * cl) 884 [some (.ref (ad 0))] [] μ := by
  rw [fL_bundles_L884]
  refine ll_aload_n E (pc := 884) dL_bundles_884 rfl ?_
  refine ll_iconst E (pc := 885) dL_bundles_885 kc_4 ?_
  refine ll_ycallVi E X (pc := 886) (d := 8) (mc1 := 2) (ci := 8) (o9 := 0) [.int (4 : Int32)] [] dL_bundles_886 cv_L_54 (fun h => cxX8_takeOut X.1 h) (Nat.le_of_ble_eq_true rfl) sx_0 ci_8 rfl rfl (Nat.le_of_ble_eq_true rfl) ⟨(Nat.le_of_ble_eq_true rfl), (Nat.le_of_ble_eq_true rfl)⟩ (mcd (by omega)) ?_
  intro r292 μ291
  refine ll_bipush E (pc := 889) dL_bundles_889 kb_6 ?_
  refine ll_icmp_ne E (pc := 891) (tgt := 1133) dL_bundles_891 rfl ?_ ?_
  · refine ll_iconst E (pc := 1133) dL_bundles_1133 kc_0 ?_
    exact ll_mzreturn E hr (fun _ _ => wp0) rfl dL_bundles_1134 (by omega)
  · refine ll_aload_n E (pc := 894) dL_bundles_894 rfl ?_
    refine ll_bipush E (pc := 895) dL_bundles_895 kb_7 ?_
    refine ll_iconst E (pc := 897) dL_bundles_897 kc_4 ?_
    refine ll_iconst E (pc := 898) dL_bundles_898 kc_0 ?_
    refine ll_iconst E (pc := 899) dL_bundles_899 kc_0 ?_
    refine ll_iconst E (pc := 900) dL_bundles_900 kc_0 ?_
    refine ll_mcallH E X (pc := 901) (d := 10) [.ref (ad 0), .int (7 : Int32), .int (4 : Int32), .int (0 : Int32), .int (0 : Int32), .int (0 : Int32)] [] dL_bundles_901 cvH_L_161 (fun h => cmL_call X.1 h) rfl rfl (Nat.le_of_ble_eq_true rfl) ⟨(Nat.le_of_ble_eq_true rfl), (Nat.le_of_ble_eq_true rfl)⟩ (mcd (by omega)) ?_
    intro r294 μ293
    refine ll_sipush E (pc := 904) dL_bundles_904 ks_m2013 ?_
    refine ll_icmp_ne E (pc := 907) (tgt := 1133) dL_bundles_907 rfl ?_ ?_
    · refine ll_iconst E (pc := 1133) dL_bundles_1133 kc_0 ?_
      exact ll_mzreturn E hr (fun _ _ => wp0) rfl dL_bundles_1134 (by omega)
    · refine ll_aload_n E (pc := 910) dL_bundles_910 rfl ?_
      refine ll_callVi E (pc := 911) (d := 5) (ci := 8) (o9 := 0) [] [] dL_bundles_911 cv_L_146 (fun h => ctX8_whyWrong h) (Nat.le_of_ble_eq_true rfl) sx_0 ci_8 rfl rfl (Nat.le_of_ble_eq_true rfl) ⟨(Nat.le_of_ble_eq_true rfl), (Nat.le_of_ble_eq_true rfl)⟩ (mcc (by omega)) ?_
      intro r296 μ295
      refine ll_iconst E (pc := 914) dL_bundles_914 kc_1 ?_
      refine ll_icmp_ne E (pc := 915) (tgt := 1133) dL_bundles_915 rfl ?_ ?_
      · refine ll_iconst E (pc := 1133) dL_bundles_1133 kc_0 ?_
        exact ll_mzreturn E hr (fun _ _ => wp0) rfl dL_bundles_1134 (by omega)
      · refine ll_aload_n E (pc := 918) dL_bundles_918 rfl ?_
        refine ll_callVi E (pc := 919) (d := 5) (ci := 8) (o9 := 0) [] [] dL_bundles_919 cv_L_149 (fun h => ctX8_wrongAt h) (Nat.le_of_ble_eq_true rfl) sx_0 ci_8 rfl rfl (Nat.le_of_ble_eq_true rfl) ⟨(Nat.le_of_ble_eq_true rfl), (Nat.le_of_ble_eq_true rfl)⟩ (mcc (by omega)) ?_
        intro r298 μ297
        refine ll_iconst E (pc := 922) dL_bundles_922 kc_4 ?_
        refine ll_icmp_ne E (pc := 923) (tgt := 1133) dL_bundles_923 rfl ?_ ?_
        · refine ll_iconst E (pc := 1133) dL_bundles_1133 kc_0 ?_
          exact ll_mzreturn E hr (fun _ _ => wp0) rfl dL_bundles_1134 (by omega)
        · refine ll_aload_n E (pc := 926) dL_bundles_926 rfl ?_
          refine ll_iconst E (pc := 927) dL_bundles_927 kc_4 ?_
          refine ll_bipush E (pc := 928) dL_bundles_928 kb_8 ?_
          refine ll_ycallVi E X (pc := 930) (d := 8) (mc1 := 2) (ci := 8) (o9 := 0) [.int (4 : Int32), .int (8 : Int32)] [] dL_bundles_930 cv_L_51 (fun h => cxX8_lay X.1 h) (Nat.le_of_ble_eq_true rfl) sx_0 ci_8 rfl rfl (Nat.le_of_ble_eq_true rfl) ⟨(Nat.le_of_ble_eq_true rfl), (Nat.le_of_ble_eq_true rfl)⟩ (mcd (by omega)) ?_
          intro r300 μ299
          refine ll_iconst E (pc := 933) dL_bundles_933 kc_m1 ?_
          refine ll_icmp_ne E (pc := 934) (tgt := 1133) dL_bundles_934 rfl ?_ ?_
          · refine ll_iconst E (pc := 1133) dL_bundles_1133 kc_0 ?_
            exact ll_mzreturn E hr (fun _ _ => wp0) rfl dL_bundles_1134 (by omega)
          · refine ll_aload_n E (pc := 937) dL_bundles_937 rfl ?_
            refine ll_iconst E (pc := 938) dL_bundles_938 kc_2 ?_
            refine ll_iconst E (pc := 939) dL_bundles_939 kc_2 ?_
            refine ll_ycallVi E X (pc := 940) (d := 8) (mc1 := 2) (ci := 8) (o9 := 0) [.int (2 : Int32), .int (2 : Int32)] [] dL_bundles_940 cv_L_51 (fun h => cxX8_lay X.1 h) (Nat.le_of_ble_eq_true rfl) sx_0 ci_8 rfl rfl (Nat.le_of_ble_eq_true rfl) ⟨(Nat.le_of_ble_eq_true rfl), (Nat.le_of_ble_eq_true rfl)⟩ (mcd (by omega)) ?_
            intro r302 μ301
            refine ll_iconst E (pc := 943) dL_bundles_943 kc_1 ?_
            refine ll_icmp_ne E (pc := 944) (tgt := 1133) dL_bundles_944 rfl ?_ ?_
            · refine ll_iconst E (pc := 1133) dL_bundles_1133 kc_0 ?_
              exact ll_mzreturn E hr (fun _ _ => wp0) rfl dL_bundles_1134 (by omega)
            · refine ll_aload_n E (pc := 947) dL_bundles_947 rfl ?_
              refine ll_callVi E (pc := 948) (d := 5) (ci := 8) (o9 := 0) [] [] dL_bundles_948 cv_L_146 (fun h => ctX8_whyWrong h) (Nat.le_of_ble_eq_true rfl) sx_0 ci_8 rfl rfl (Nat.le_of_ble_eq_true rfl) ⟨(Nat.le_of_ble_eq_true rfl), (Nat.le_of_ble_eq_true rfl)⟩ (mcc (by omega)) ?_
              intro r304 μ303
              refine ll_if_ne E (pc := 951) (tgt := 1133) dL_bundles_951 rfl ?_ ?_
              · refine ll_iconst E (pc := 1133) dL_bundles_1133 kc_0 ?_
                exact ll_mzreturn E hr (fun _ _ => wp0) rfl dL_bundles_1134 (by omega)
              · refine ll_aload_n E (pc := 954) dL_bundles_954 rfl ?_
                refine ll_callVi E (pc := 955) (d := 2) (ci := 8) (o9 := 0) [] [] dL_bundles_955 cv_L_143 (fun h => ctX8_bundles h) (Nat.le_of_ble_eq_true rfl) sx_0 ci_8 rfl rfl (Nat.le_of_ble_eq_true rfl) ⟨(Nat.le_of_ble_eq_true rfl), (Nat.le_of_ble_eq_true rfl)⟩ (mcc (by omega)) ?_
                intro r306 μ305
                refine ll_bipush E (pc := 958) dL_bundles_958 kb_9 ?_
                refine ll_icmp_ne E (pc := 960) (tgt := 1133) dL_bundles_960 rfl ?_ ?_
                · refine ll_iconst E (pc := 1133) dL_bundles_1133 kc_0 ?_
                  exact ll_mzreturn E hr (fun _ _ => wp0) rfl dL_bundles_1134 (by omega)
                · exact ll_lo (lo' := [some (.ref (ad 0))]) ⟨rfl, trivial⟩ (kL_bundles_L963 E X hr μ305 _ (by omega))
set_option maxRecDepth 20000 in
theorem kL_bundles_L835 {p : Program} {l : Launch} {e : Env} {s : State} {m : MethodId} {args : Array Value} {below : List Frame} {meth : Method} {c : Code} {D : va_G} {cI cR : ClassId} {ad : Nat → Nat} {A0 : Nat → Prop} (E : EV p s m args meth c cL_bundles 1 RL D cI cR ad shX NX A0) (X : EM9 l s A0) (hr : meth.sig.returnType = (some .boolean))  (μ : Mem) (cl : Nat) (hc0 : cl + (5573) ≤ 8785) : LL p l e (RX 14 8785) s m args below meth c 1 D cI cR ad shX NX A0 (fun (r : Int32) μ' => KM below args s D cI cR (fun _ => 0) shX 0 A0 8785 (some (.int r)) μ') (fL_bundles_L835 μ) cl (6 * cl) 835 [some (.ref (ad 0))] [] μ := by
  rw [fL_bundles_L835]
  refine ll_aload_n E (pc := 835) dL_bundles_835 rfl ?_
  refine ll_iconst E (pc := 836) dL_bundles_836 kc_2 ?_
  refine ll_iconst E (pc := 837) dL_bundles_837 kc_1 ?_
  refine ll_ycallVi E X (pc := 838) (d := 8) (mc1 := 2) (ci := 8) (o9 := 0) [.int (2 : Int32), .int (1 : Int32)] [] dL_bundles_838 cv_L_51 (fun h => cxX8_lay X.1 h) (Nat.le_of_ble_eq_true rfl) sx_0 ci_8 rfl rfl (Nat.le_of_ble_eq_true rfl) ⟨(Nat.le_of_ble_eq_true rfl), (Nat.le_of_ble_eq_true rfl)⟩ (mcd (by omega)) ?_
  intro r308 μ307
  refine ll_iconst E (pc := 841) dL_bundles_841 kc_2 ?_
  refine ll_icmp_ne E (pc := 842) (tgt := 1133) dL_bundles_842 rfl ?_ ?_
  · refine ll_iconst E (pc := 1133) dL_bundles_1133 kc_0 ?_
    exact ll_mzreturn E hr (fun _ _ => wp0) rfl dL_bundles_1134 (by omega)
  · refine ll_aload_n E (pc := 845) dL_bundles_845 rfl ?_
    refine ll_callVi E (pc := 846) (d := 5) (ci := 8) (o9 := 0) [] [] dL_bundles_846 cv_L_146 (fun h => ctX8_whyWrong h) (Nat.le_of_ble_eq_true rfl) sx_0 ci_8 rfl rfl (Nat.le_of_ble_eq_true rfl) ⟨(Nat.le_of_ble_eq_true rfl), (Nat.le_of_ble_eq_true rfl)⟩ (mcc (by omega)) ?_
    intro r310 μ309
    refine ll_iconst E (pc := 849) dL_bundles_849 kc_3 ?_
    refine ll_icmp_ne E (pc := 850) (tgt := 1133) dL_bundles_850 rfl ?_ ?_
    · refine ll_iconst E (pc := 1133) dL_bundles_1133 kc_0 ?_
      exact ll_mzreturn E hr (fun _ _ => wp0) rfl dL_bundles_1134 (by omega)
    · refine ll_aload_n E (pc := 853) dL_bundles_853 rfl ?_
      refine ll_callVi E (pc := 854) (d := 5) (ci := 8) (o9 := 0) [] [] dL_bundles_854 cv_L_149 (fun h => ctX8_wrongAt h) (Nat.le_of_ble_eq_true rfl) sx_0 ci_8 rfl rfl (Nat.le_of_ble_eq_true rfl) ⟨(Nat.le_of_ble_eq_true rfl), (Nat.le_of_ble_eq_true rfl)⟩ (mcc (by omega)) ?_
      intro r312 μ311
      refine ll_iconst E (pc := 857) dL_bundles_857 kc_2 ?_
      refine ll_icmp_ne E (pc := 858) (tgt := 1133) dL_bundles_858 rfl ?_ ?_
      · refine ll_iconst E (pc := 1133) dL_bundles_1133 kc_0 ?_
        exact ll_mzreturn E hr (fun _ _ => wp0) rfl dL_bundles_1134 (by omega)
      · refine ll_aload_n E (pc := 861) dL_bundles_861 rfl ?_
        refine ll_callVi E (pc := 862) (d := 6) (ci := 8) (o9 := 0) [] [] dL_bundles_862 cv_L_187 (fun h => ctX8_doesAgree h) (Nat.le_of_ble_eq_true rfl) sx_0 ci_8 rfl rfl (Nat.le_of_ble_eq_true rfl) ⟨(Nat.le_of_ble_eq_true rfl), (Nat.le_of_ble_eq_true rfl)⟩ (mcc (by omega)) ?_
        intro r314 μ313
        refine ll_if_ne E (pc := 865) (tgt := 1133) dL_bundles_865 rfl ?_ ?_
        · refine ll_iconst E (pc := 1133) dL_bundles_1133 kc_0 ?_
          exact ll_mzreturn E hr (fun _ _ => wp0) rfl dL_bundles_1134 (by omega)
        · refine ll_aload_n E (pc := 868) dL_bundles_868 rfl ?_
          refine ll_iconst E (pc := 869) dL_bundles_869 kc_2 ?_
          refine ll_ycallVi E X (pc := 870) (d := 8) (mc1 := 1) (ci := 8) (o9 := 0) [.int (2 : Int32)] [] dL_bundles_870 cv_L_103 (fun h => cxX8_registerInBundles X.1 h) (Nat.le_of_ble_eq_true rfl) sx_0 ci_8 rfl rfl (Nat.le_of_ble_eq_true rfl) ⟨(Nat.le_of_ble_eq_true rfl), (Nat.le_of_ble_eq_true rfl)⟩ (mcd (by omega)) ?_
          intro r316 μ315
          refine ll_if_ne E (pc := 873) (tgt := 1133) dL_bundles_873 rfl ?_ ?_
          · refine ll_iconst E (pc := 1133) dL_bundles_1133 kc_0 ?_
            exact ll_mzreturn E hr (fun _ _ => wp0) rfl dL_bundles_1134 (by omega)
          · refine ll_aload_n E (pc := 876) dL_bundles_876 rfl ?_
            refine ll_iconst E (pc := 877) dL_bundles_877 kc_5 ?_
            refine ll_ycallVi E X (pc := 878) (d := 8) (mc1 := 1) (ci := 8) (o9 := 0) [.int (5 : Int32)] [] dL_bundles_878 cv_L_109 (fun h => cxX8_cellInBundles X.1 h) (Nat.le_of_ble_eq_true rfl) sx_0 ci_8 rfl rfl (Nat.le_of_ble_eq_true rfl) ⟨(Nat.le_of_ble_eq_true rfl), (Nat.le_of_ble_eq_true rfl)⟩ (mcd (by omega)) ?_
            intro r318 μ317
            refine ll_if_ne E (pc := 881) (tgt := 1133) dL_bundles_881 rfl ?_ ?_
            · refine ll_iconst E (pc := 1133) dL_bundles_1133 kc_0 ?_
              exact ll_mzreturn E hr (fun _ _ => wp0) rfl dL_bundles_1134 (by omega)
            · exact ll_lo (lo' := [some (.ref (ad 0))]) ⟨rfl, trivial⟩ (kL_bundles_L884 E X hr μ317 _ (by omega))
set_option maxRecDepth 20000 in
theorem kL_bundles_L742 {p : Program} {l : Launch} {e : Env} {s : State} {m : MethodId} {args : Array Value} {below : List Frame} {meth : Method} {c : Code} {D : va_G} {cI cR : ClassId} {ad : Nat → Nat} {A0 : Nat → Prop} (E : EV p s m args meth c cL_bundles 1 RL D cI cR ad shX NX A0) (X : EM9 l s A0) (hr : meth.sig.returnType = (some .boolean))  (μ : Mem) (cl : Nat) (hc0 : cl + (6353) ≤ 8785) : LL p l e (RX 14 8785) s m args below meth c 1 D cI cR ad shX NX A0 (fun (r : Int32) μ' => KM below args s D cI cR (fun _ => 0) shX 0 A0 8785 (some (.int r)) μ') (fL_bundles_L742 μ) cl (6 * cl) 742 [some (.ref (ad 0))] [] μ := by
  rw [fL_bundles_L742]
  refine ll_aload_n E (pc := 742) dL_bundles_742 rfl ?_
  refine ll_callVi E (pc := 743) (d := 6) (ci := 8) (o9 := 0) [] [] dL_bundles_743 cv_L_158 (fun h => ctX8_jumpBundle h) (Nat.le_of_ble_eq_true rfl) sx_0 ci_8 rfl rfl (Nat.le_of_ble_eq_true rfl) ⟨(Nat.le_of_ble_eq_true rfl), (Nat.le_of_ble_eq_true rfl)⟩ (mcc (by omega)) ?_
  intro r320 μ319
  refine ll_iconst E (pc := 746) dL_bundles_746 kc_4 ?_
  refine ll_icmp_ne E (pc := 747) (tgt := 833) dL_bundles_747 rfl ?_ ?_
  · refine ll_iconst E (pc := 833) dL_bundles_833 kc_0 ?_
    exact ll_mzreturn E hr (fun _ _ => wp0) rfl dL_bundles_834 (by omega)
  · refine ll_aload_n E (pc := 750) dL_bundles_750 rfl ?_
    refine ll_callVi E (pc := 751) (d := 6) (ci := 8) (o9 := 0) [] [] dL_bundles_751 cv_L_197 (fun h => ctX8_overlap h) (Nat.le_of_ble_eq_true rfl) sx_0 ci_8 rfl rfl (Nat.le_of_ble_eq_true rfl) ⟨(Nat.le_of_ble_eq_true rfl), (Nat.le_of_ble_eq_true rfl)⟩ (mcc (by omega)) ?_
    intro r322 μ321
    refine ll_iconst E (pc := 754) dL_bundles_754 kc_2 ?_
    refine ll_icmp_ne E (pc := 755) (tgt := 833) dL_bundles_755 rfl ?_ ?_
    · refine ll_iconst E (pc := 833) dL_bundles_833 kc_0 ?_
      exact ll_mzreturn E hr (fun _ _ => wp0) rfl dL_bundles_834 (by omega)
    · refine ll_aload_n E (pc := 758) dL_bundles_758 rfl ?_
      refine ll_iconst E (pc := 759) dL_bundles_759 kc_3 ?_
      refine ll_ycallVi E X (pc := 760) (d := 8) (mc1 := 1) (ci := 8) (o9 := 0) [.int (3 : Int32)] [] dL_bundles_760 cv_L_127 (fun h => cxX8_loopBundles X.1 h) (Nat.le_of_ble_eq_true rfl) sx_0 ci_8 rfl rfl (Nat.le_of_ble_eq_true rfl) ⟨(Nat.le_of_ble_eq_true rfl), (Nat.le_of_ble_eq_true rfl)⟩ (mcd (by omega)) ?_
      intro r324 μ323
      refine ll_bipush E (pc := 763) dL_bundles_763 kb_19 ?_
      refine ll_icmp_ne E (pc := 765) (tgt := 833) dL_bundles_765 rfl ?_ ?_
      · refine ll_iconst E (pc := 833) dL_bundles_833 kc_0 ?_
        exact ll_mzreturn E hr (fun _ _ => wp0) rfl dL_bundles_834 (by omega)
      · refine ll_aload_n E (pc := 768) dL_bundles_768 rfl ?_
        refine ll_iconst E (pc := 769) dL_bundles_769 kc_0 ?_
        refine ll_ycallVi E X (pc := 770) (d := 8) (mc1 := 1) (ci := 8) (o9 := 0) [.int (0 : Int32)] [] dL_bundles_770 cv_L_127 (fun h => cxX8_loopBundles X.1 h) (Nat.le_of_ble_eq_true rfl) sx_0 ci_8 rfl rfl (Nat.le_of_ble_eq_true rfl) ⟨(Nat.le_of_ble_eq_true rfl), (Nat.le_of_ble_eq_true rfl)⟩ (mcd (by omega)) ?_
        intro r326 μ325
        refine ll_if_ne E (pc := 773) (tgt := 833) dL_bundles_773 rfl ?_ ?_
        · refine ll_iconst E (pc := 833) dL_bundles_833 kc_0 ?_
          exact ll_mzreturn E hr (fun _ _ => wp0) rfl dL_bundles_834 (by omega)
        · refine ll_aload_n E (pc := 776) dL_bundles_776 rfl ?_
          refine ll_iconst E (pc := 777) dL_bundles_777 kc_2 ?_
          refine ll_iconst E (pc := 778) dL_bundles_778 kc_3 ?_
          refine ll_ycallVi E X (pc := 779) (d := 8) (mc1 := 2) (ci := 8) (o9 := 0) [.int (2 : Int32), .int (3 : Int32)] [] dL_bundles_779 cv_L_115 (fun h => cxX8_registerInLoop X.1 h) (Nat.le_of_ble_eq_true rfl) sx_0 ci_8 rfl rfl (Nat.le_of_ble_eq_true rfl) ⟨(Nat.le_of_ble_eq_true rfl), (Nat.le_of_ble_eq_true rfl)⟩ (mcd (by omega)) ?_
          intro r328 μ327
          refine ll_bipush E (pc := 782) dL_bundles_782 kb_100 ?_
          refine ll_icmp_ne E (pc := 784) (tgt := 833) dL_bundles_784 rfl ?_ ?_
          · refine ll_iconst E (pc := 833) dL_bundles_833 kc_0 ?_
            exact ll_mzreturn E hr (fun _ _ => wp0) rfl dL_bundles_834 (by omega)
          · refine ll_aload_n E (pc := 787) dL_bundles_787 rfl ?_
            refine ll_iconst E (pc := 788) dL_bundles_788 kc_2 ?_
            refine ll_iconst E (pc := 789) dL_bundles_789 kc_3 ?_
            refine ll_ycallVi E X (pc := 790) (d := 8) (mc1 := 2) (ci := 8) (o9 := 0) [.int (2 : Int32), .int (3 : Int32)] [] dL_bundles_790 cv_L_118 (fun h => cxX8_registerInRounds X.1 h) (Nat.le_of_ble_eq_true rfl) sx_0 ci_8 rfl rfl (Nat.le_of_ble_eq_true rfl) ⟨(Nat.le_of_ble_eq_true rfl), (Nat.le_of_ble_eq_true rfl)⟩ (mcd (by omega)) ?_
            intro r330 μ329
            refine ll_bipush E (pc := 793) dL_bundles_793 kb_100 ?_
            refine ll_icmp_ne E (pc := 795) (tgt := 833) dL_bundles_795 rfl ?_ ?_
            · refine ll_iconst E (pc := 833) dL_bundles_833 kc_0 ?_
              exact ll_mzreturn E hr (fun _ _ => wp0) rfl dL_bundles_834 (by omega)
            · refine ll_aload_n E (pc := 798) dL_bundles_798 rfl ?_
              refine ll_iconst E (pc := 799) dL_bundles_799 kc_0 ?_
              refine ll_iconst E (pc := 800) dL_bundles_800 kc_0 ?_
              refine ll_ycallVi E X (pc := 801) (d := 8) (mc1 := 2) (ci := 8) (o9 := 0) [.int (0 : Int32), .int (0 : Int32)] [] dL_bundles_801 cv_L_115 (fun h => cxX8_registerInLoop X.1 h) (Nat.le_of_ble_eq_true rfl) sx_0 ci_8 rfl rfl (Nat.le_of_ble_eq_true rfl) ⟨(Nat.le_of_ble_eq_true rfl), (Nat.le_of_ble_eq_true rfl)⟩ (mcd (by omega)) ?_
              intro r332 μ331
              refine ll_if_ne E (pc := 804) (tgt := 833) dL_bundles_804 rfl ?_ ?_
              · refine ll_iconst E (pc := 833) dL_bundles_833 kc_0 ?_
                exact ll_mzreturn E hr (fun _ _ => wp0) rfl dL_bundles_834 (by omega)
              · refine ll_aload_n E (pc := 807) dL_bundles_807 rfl ?_
                refine ll_iconst E (pc := 808) dL_bundles_808 kc_1 ?_
                refine ll_iconst E (pc := 809) dL_bundles_809 kc_5 ?_
                refine ll_ycallVi E X (pc := 810) (d := 8) (mc1 := 2) (ci := 8) (o9 := 0) [.int (1 : Int32), .int (5 : Int32)] [] dL_bundles_810 cv_L_121 (fun h => cxX8_cellInLoop X.1 h) (Nat.le_of_ble_eq_true rfl) sx_0 ci_8 rfl rfl (Nat.le_of_ble_eq_true rfl) ⟨(Nat.le_of_ble_eq_true rfl), (Nat.le_of_ble_eq_true rfl)⟩ (mcd (by omega)) ?_
                intro r334 μ333
                refine ll_bipush E (pc := 813) dL_bundles_813 kb_100 ?_
                refine ll_icmp_ne E (pc := 815) (tgt := 833) dL_bundles_815 rfl ?_ ?_
                · refine ll_iconst E (pc := 833) dL_bundles_833 kc_0 ?_
                  exact ll_mzreturn E hr (fun _ _ => wp0) rfl dL_bundles_834 (by omega)
                · refine ll_aload_n E (pc := 818) dL_bundles_818 rfl ?_
                  refine ll_callVi E (pc := 819) (d := 0) (ci := 8) (o9 := 0) [] [] dL_bundles_819 cv_L_237 (fun h => ctX8_savedStates h) (Nat.le_of_ble_eq_true rfl) sx_0 ci_8 rfl rfl (Nat.le_of_ble_eq_true rfl) ⟨(Nat.le_of_ble_eq_true rfl), (Nat.le_of_ble_eq_true rfl)⟩ (mcc (by omega)) ?_
                  intro r336 μ335
                  refine ll_iconst E (pc := 822) dL_bundles_822 kc_3 ?_
                  refine ll_icmp_ne E (pc := 823) (tgt := 833) dL_bundles_823 rfl ?_ ?_
                  · refine ll_iconst E (pc := 833) dL_bundles_833 kc_0 ?_
                    exact ll_mzreturn E hr (fun _ _ => wp0) rfl dL_bundles_834 (by omega)
                  · refine ll_aload_n E (pc := 826) dL_bundles_826 rfl ?_
                    refine ll_mcallSi E X (pc := 827) (d := 12) [.ref (ad 0)] [] dL_bundles_827 cv_L_203 (fun h => cmL_refused X.1 h) rfl rfl (Nat.le_of_ble_eq_true rfl) ⟨(Nat.le_of_ble_eq_true rfl), (Nat.le_of_ble_eq_true rfl)⟩ (mcd (by omega)) ?_
                    intro r338 μ337
                    refine ll_if_ne E (pc := 830) (tgt := 835) dL_bundles_830 rfl ?_ ?_
                    · exact ll_lo (lo' := [some (.ref (ad 0))]) ⟨rfl, trivial⟩ (kL_bundles_L835 E X hr μ337 _ (by omega))
                    · refine ll_iconst E (pc := 833) dL_bundles_833 kc_0 ?_
                      exact ll_mzreturn E hr (fun _ _ => wp0) rfl dL_bundles_834 (by omega)
set_option maxRecDepth 20000 in
theorem kL_bundles_L646 {p : Program} {l : Launch} {e : Env} {s : State} {m : MethodId} {args : Array Value} {below : List Frame} {meth : Method} {c : Code} {D : va_G} {cI cR : ClassId} {ad : Nat → Nat} {A0 : Nat → Prop} (E : EV p s m args meth c cL_bundles 1 RL D cI cR ad shX NX A0) (X : EM9 l s A0) (hr : meth.sig.returnType = (some .boolean))  (μ : Mem) (cl : Nat) (hc0 : cl + (6365) ≤ 8785) : LL p l e (RX 14 8785) s m args below meth c 1 D cI cR ad shX NX A0 (fun (r : Int32) μ' => KM below args s D cI cR (fun _ => 0) shX 0 A0 8785 (some (.int r)) μ') (fL_bundles_L646 μ) cl (6 * cl) 646 [some (.ref (ad 0))] [] μ := by
  rw [fL_bundles_L646]
  refine ll_aload_n E (pc := 646) dL_bundles_646 rfl ?_
  refine ll_iconst E (pc := 647) dL_bundles_647 kc_0 ?_
  refine ll_iconst E (pc := 648) dL_bundles_648 kc_0 ?_
  refine ll_ycallVi E X (pc := 649) (d := 8) (mc1 := 2) (ci := 8) (o9 := 0) [.int (0 : Int32), .int (0 : Int32)] [] dL_bundles_649 cv_L_112 (fun h => cxX8_registerAt X.1 h) (Nat.le_of_ble_eq_true rfl) sx_0 ci_8 rfl rfl (Nat.le_of_ble_eq_true rfl) ⟨(Nat.le_of_ble_eq_true rfl), (Nat.le_of_ble_eq_true rfl)⟩ (mcd (by omega)) ?_
  intro r340 μ339
  refine ll_if_ne E (pc := 652) (tgt := 833) dL_bundles_652 rfl ?_ ?_
  · refine ll_iconst E (pc := 833) dL_bundles_833 kc_0 ?_
    exact ll_mzreturn E hr (fun _ _ => wp0) rfl dL_bundles_834 (by omega)
  · refine ll_aload_n E (pc := 655) dL_bundles_655 rfl ?_
    refine ll_iconst E (pc := 656) dL_bundles_656 kc_1 ?_
    refine ll_iconst E (pc := 657) dL_bundles_657 kc_0 ?_
    refine ll_ycallVi E X (pc := 658) (d := 8) (mc1 := 2) (ci := 8) (o9 := 0) [.int (1 : Int32), .int (0 : Int32)] [] dL_bundles_658 cv_L_112 (fun h => cxX8_registerAt X.1 h) (Nat.le_of_ble_eq_true rfl) sx_0 ci_8 rfl rfl (Nat.le_of_ble_eq_true rfl) ⟨(Nat.le_of_ble_eq_true rfl), (Nat.le_of_ble_eq_true rfl)⟩ (mcd (by omega)) ?_
    intro r342 μ341
    refine ll_iconst E (pc := 661) dL_bundles_661 kc_5 ?_
    refine ll_icmp_ne E (pc := 662) (tgt := 833) dL_bundles_662 rfl ?_ ?_
    · refine ll_iconst E (pc := 833) dL_bundles_833 kc_0 ?_
      exact ll_mzreturn E hr (fun _ _ => wp0) rfl dL_bundles_834 (by omega)
    · refine ll_aload_n E (pc := 665) dL_bundles_665 rfl ?_
      refine ll_iconst E (pc := 666) dL_bundles_666 kc_4 ?_
      refine ll_iconst E (pc := 667) dL_bundles_667 kc_2 ?_
      refine ll_ycallVi E X (pc := 668) (d := 8) (mc1 := 2) (ci := 8) (o9 := 0) [.int (4 : Int32), .int (2 : Int32)] [] dL_bundles_668 cv_L_112 (fun h => cxX8_registerAt X.1 h) (Nat.le_of_ble_eq_true rfl) sx_0 ci_8 rfl rfl (Nat.le_of_ble_eq_true rfl) ⟨(Nat.le_of_ble_eq_true rfl), (Nat.le_of_ble_eq_true rfl)⟩ (mcd (by omega)) ?_
      intro r344 μ343
      refine ll_if_ne E (pc := 671) (tgt := 833) dL_bundles_671 rfl ?_ ?_
      · refine ll_iconst E (pc := 833) dL_bundles_833 kc_0 ?_
        exact ll_mzreturn E hr (fun _ _ => wp0) rfl dL_bundles_834 (by omega)
      · refine ll_aload_n E (pc := 674) dL_bundles_674 rfl ?_
        refine ll_iconst E (pc := 675) dL_bundles_675 kc_5 ?_
        refine ll_iconst E (pc := 676) dL_bundles_676 kc_2 ?_
        refine ll_ycallVi E X (pc := 677) (d := 8) (mc1 := 2) (ci := 8) (o9 := 0) [.int (5 : Int32), .int (2 : Int32)] [] dL_bundles_677 cv_L_112 (fun h => cxX8_registerAt X.1 h) (Nat.le_of_ble_eq_true rfl) sx_0 ci_8 rfl rfl (Nat.le_of_ble_eq_true rfl) ⟨(Nat.le_of_ble_eq_true rfl), (Nat.le_of_ble_eq_true rfl)⟩ (mcd (by omega)) ?_
        intro r346 μ345
        refine ll_bipush E (pc := 680) dL_bundles_680 kb_100 ?_
        refine ll_icmp_ne E (pc := 682) (tgt := 833) dL_bundles_682 rfl ?_ ?_
        · refine ll_iconst E (pc := 833) dL_bundles_833 kc_0 ?_
          exact ll_mzreturn E hr (fun _ _ => wp0) rfl dL_bundles_834 (by omega)
        · refine ll_aload_n E (pc := 685) dL_bundles_685 rfl ?_
          refine ll_bipush E (pc := 686) dL_bundles_686 kb_7 ?_
          refine ll_iconst E (pc := 688) dL_bundles_688 kc_3 ?_
          refine ll_ycallVi E X (pc := 689) (d := 8) (mc1 := 2) (ci := 8) (o9 := 0) [.int (7 : Int32), .int (3 : Int32)] [] dL_bundles_689 cv_L_112 (fun h => cxX8_registerAt X.1 h) (Nat.le_of_ble_eq_true rfl) sx_0 ci_8 rfl rfl (Nat.le_of_ble_eq_true rfl) ⟨(Nat.le_of_ble_eq_true rfl), (Nat.le_of_ble_eq_true rfl)⟩ (mcd (by omega)) ?_
          intro r348 μ347
          refine ll_if_ne E (pc := 692) (tgt := 833) dL_bundles_692 rfl ?_ ?_
          · refine ll_iconst E (pc := 833) dL_bundles_833 kc_0 ?_
            exact ll_mzreturn E hr (fun _ _ => wp0) rfl dL_bundles_834 (by omega)
          · refine ll_aload_n E (pc := 695) dL_bundles_695 rfl ?_
            refine ll_bipush E (pc := 696) dL_bundles_696 kb_8 ?_
            refine ll_iconst E (pc := 698) dL_bundles_698 kc_3 ?_
            refine ll_ycallVi E X (pc := 699) (d := 8) (mc1 := 2) (ci := 8) (o9 := 0) [.int (8 : Int32), .int (3 : Int32)] [] dL_bundles_699 cv_L_112 (fun h => cxX8_registerAt X.1 h) (Nat.le_of_ble_eq_true rfl) sx_0 ci_8 rfl rfl (Nat.le_of_ble_eq_true rfl) ⟨(Nat.le_of_ble_eq_true rfl), (Nat.le_of_ble_eq_true rfl)⟩ (mcd (by omega)) ?_
            intro r350 μ349
            refine ll_bipush E (pc := 702) dL_bundles_702 kb_100 ?_
            refine ll_icmp_ne E (pc := 704) (tgt := 833) dL_bundles_704 rfl ?_ ?_
            · refine ll_iconst E (pc := 833) dL_bundles_833 kc_0 ?_
              exact ll_mzreturn E hr (fun _ _ => wp0) rfl dL_bundles_834 (by omega)
            · refine ll_aload_n E (pc := 707) dL_bundles_707 rfl ?_
              refine ll_callVi E (pc := 708) (d := 3) (ci := 8) (o9 := 0) [] [] dL_bundles_708 cv_L_155 (fun h => ctX8_beatByUnits h) (Nat.le_of_ble_eq_true rfl) sx_0 ci_8 rfl rfl (Nat.le_of_ble_eq_true rfl) ⟨(Nat.le_of_ble_eq_true rfl), (Nat.le_of_ble_eq_true rfl)⟩ (mcc (by omega)) ?_
              intro r352 μ351
              refine ll_iconst E (pc := 711) dL_bundles_711 kc_2 ?_
              refine ll_icmp_ne E (pc := 712) (tgt := 833) dL_bundles_712 rfl ?_ ?_
              · refine ll_iconst E (pc := 833) dL_bundles_833 kc_0 ?_
                exact ll_mzreturn E hr (fun _ _ => wp0) rfl dL_bundles_834 (by omega)
              · refine ll_aload_n E (pc := 715) dL_bundles_715 rfl ?_
                refine ll_callVi E (pc := 716) (d := 6) (ci := 8) (o9 := 0) [] [] dL_bundles_716 cv_L_191 (fun h => ctX8_beatByCircles h) (Nat.le_of_ble_eq_true rfl) sx_0 ci_8 rfl rfl (Nat.le_of_ble_eq_true rfl) ⟨(Nat.le_of_ble_eq_true rfl), (Nat.le_of_ble_eq_true rfl)⟩ (mcc (by omega)) ?_
                intro r354 μ353
                refine ll_bipush E (pc := 719) dL_bundles_719 kb_6 ?_
                refine ll_icmp_ne E (pc := 721) (tgt := 833) dL_bundles_721 rfl ?_ ?_
                · refine ll_iconst E (pc := 833) dL_bundles_833 kc_0 ?_
                  exact ll_mzreturn E hr (fun _ _ => wp0) rfl dL_bundles_834 (by omega)
                · refine ll_aload_n E (pc := 724) dL_bundles_724 rfl ?_
                  refine ll_callVi E (pc := 725) (d := 5) (ci := 8) (o9 := 0) [] [] dL_bundles_725 cv_L_234 (fun h => ctX8_beatByRounds h) (Nat.le_of_ble_eq_true rfl) sx_0 ci_8 rfl rfl (Nat.le_of_ble_eq_true rfl) ⟨(Nat.le_of_ble_eq_true rfl), (Nat.le_of_ble_eq_true rfl)⟩ (mcc (by omega)) ?_
                  intro r356 μ355
                  refine ll_bipush E (pc := 728) dL_bundles_728 kb_6 ?_
                  refine ll_icmp_ne E (pc := 730) (tgt := 833) dL_bundles_730 rfl ?_ ?_
                  · refine ll_iconst E (pc := 833) dL_bundles_833 kc_0 ?_
                    exact ll_mzreturn E hr (fun _ _ => wp0) rfl dL_bundles_834 (by omega)
                  · refine ll_aload_n E (pc := 733) dL_bundles_733 rfl ?_
                    refine ll_callVi E (pc := 734) (d := 6) (ci := 8) (o9 := 0) [] [] dL_bundles_734 cv_L_194 (fun h => ctX8_beat h) (Nat.le_of_ble_eq_true rfl) sx_0 ci_8 rfl rfl (Nat.le_of_ble_eq_true rfl) ⟨(Nat.le_of_ble_eq_true rfl), (Nat.le_of_ble_eq_true rfl)⟩ (mcc (by omega)) ?_
                    intro r358 μ357
                    refine ll_bipush E (pc := 737) dL_bundles_737 kb_6 ?_
                    refine ll_icmp_ne E (pc := 739) (tgt := 833) dL_bundles_739 rfl ?_ ?_
                    · refine ll_iconst E (pc := 833) dL_bundles_833 kc_0 ?_
                      exact ll_mzreturn E hr (fun _ _ => wp0) rfl dL_bundles_834 (by omega)
                    · exact ll_lo (lo' := [some (.ref (ad 0))]) ⟨rfl, trivial⟩ (kL_bundles_L742 E X hr μ357 _ (by omega))
set_option maxRecDepth 20000 in
theorem kL_bundles_L465 {p : Program} {l : Launch} {e : Env} {s : State} {m : MethodId} {args : Array Value} {below : List Frame} {meth : Method} {c : Code} {D : va_G} {cI cR : ClassId} {ad : Nat → Nat} {A0 : Nat → Prop} (E : EV p s m args meth c cL_bundles 1 RL D cI cR ad shX NX A0) (X : EM9 l s A0) (hr : meth.sig.returnType = (some .boolean))  (μ : Mem) (cl : Nat) (hc0 : cl + (6396) ≤ 8785) : LL p l e (RX 14 8785) s m args below meth c 1 D cI cR ad shX NX A0 (fun (r : Int32) μ' => KM below args s D cI cR (fun _ => 0) shX 0 A0 8785 (some (.int r)) μ') (fL_bundles_L465 μ) cl (6 * cl) 465 [some (.ref (ad 0))] [] μ := by
  rw [fL_bundles_L465]
  refine ll_aload_n E (pc := 465) dL_bundles_465 rfl ?_
  refine ll_callVi E (pc := 466) (d := 5) (ci := 8) (o9 := 0) [] [] dL_bundles_466 cv_L_180 (fun h => ctX8_pack h) (Nat.le_of_ble_eq_true rfl) sx_0 ci_8 rfl rfl (Nat.le_of_ble_eq_true rfl) ⟨(Nat.le_of_ble_eq_true rfl), (Nat.le_of_ble_eq_true rfl)⟩ (mcc (by omega)) ?_
  intro r360 μ359
  refine ll_bipush E (pc := 469) dL_bundles_469 kb_7 ?_
  refine ll_icmp_ne E (pc := 471) (tgt := 833) dL_bundles_471 rfl ?_ ?_
  · refine ll_iconst E (pc := 833) dL_bundles_833 kc_0 ?_
    exact ll_mzreturn E hr (fun _ _ => wp0) rfl dL_bundles_834 (by omega)
  · refine ll_aload_n E (pc := 474) dL_bundles_474 rfl ?_
    refine ll_iconst E (pc := 475) dL_bundles_475 kc_0 ?_
    refine ll_iconst E (pc := 476) dL_bundles_476 kc_1 ?_
    refine ll_bipush E (pc := 477) dL_bundles_477 kb_8 ?_
    refine ll_iconst E (pc := 479) dL_bundles_479 kc_0 ?_
    refine ll_iconst E (pc := 480) dL_bundles_480 kc_0 ?_
    refine ll_iconst E (pc := 481) dL_bundles_481 kc_0 ?_
    refine ll_mcallSi E X (pc := 482) (d := 9) [.ref (ad 0), .int (0 : Int32), .int (1 : Int32), .int (8 : Int32), .int (0 : Int32), .int (0 : Int32), .int (0 : Int32)] [] dL_bundles_482 cv_L_225 (fun h => cmL_is X.1 h) rfl rfl (Nat.le_of_ble_eq_true rfl) ⟨(Nat.le_of_ble_eq_true rfl), (Nat.le_of_ble_eq_true rfl)⟩ (mcd (by omega)) ?_
    intro r362 μ361
    refine ll_if_eq E (pc := 485) (tgt := 833) dL_bundles_485 rfl ?_ ?_
    · refine ll_iconst E (pc := 833) dL_bundles_833 kc_0 ?_
      exact ll_mzreturn E hr (fun _ _ => wp0) rfl dL_bundles_834 (by omega)
    · refine ll_aload_n E (pc := 488) dL_bundles_488 rfl ?_
      refine ll_iconst E (pc := 489) dL_bundles_489 kc_1 ?_
      refine ll_iconst E (pc := 490) dL_bundles_490 kc_1 ?_
      refine ll_bipush E (pc := 491) dL_bundles_491 kb_7 ?_
      refine ll_iconst E (pc := 493) dL_bundles_493 kc_1 ?_
      refine ll_iconst E (pc := 494) dL_bundles_494 kc_1 ?_
      refine ll_iconst E (pc := 495) dL_bundles_495 kc_1 ?_
      refine ll_mcallSi E X (pc := 496) (d := 9) [.ref (ad 0), .int (1 : Int32), .int (1 : Int32), .int (7 : Int32), .int (1 : Int32), .int (1 : Int32), .int (1 : Int32)] [] dL_bundles_496 cv_L_225 (fun h => cmL_is X.1 h) rfl rfl (Nat.le_of_ble_eq_true rfl) ⟨(Nat.le_of_ble_eq_true rfl), (Nat.le_of_ble_eq_true rfl)⟩ (mcd (by omega)) ?_
      intro r364 μ363
      refine ll_if_eq E (pc := 499) (tgt := 833) dL_bundles_499 rfl ?_ ?_
      · refine ll_iconst E (pc := 833) dL_bundles_833 kc_0 ?_
        exact ll_mzreturn E hr (fun _ _ => wp0) rfl dL_bundles_834 (by omega)
      · refine ll_aload_n E (pc := 502) dL_bundles_502 rfl ?_
        refine ll_iconst E (pc := 503) dL_bundles_503 kc_2 ?_
        refine ll_iconst E (pc := 504) dL_bundles_504 kc_3 ?_
        refine ll_bipush E (pc := 505) dL_bundles_505 kb_6 ?_
        refine ll_iconst E (pc := 507) dL_bundles_507 kc_2 ?_
        refine ll_iconst E (pc := 508) dL_bundles_508 kc_2 ?_
        refine ll_iconst E (pc := 509) dL_bundles_509 kc_2 ?_
        refine ll_mcallSi E X (pc := 510) (d := 9) [.ref (ad 0), .int (2 : Int32), .int (3 : Int32), .int (6 : Int32), .int (2 : Int32), .int (2 : Int32), .int (2 : Int32)] [] dL_bundles_510 cv_L_225 (fun h => cmL_is X.1 h) rfl rfl (Nat.le_of_ble_eq_true rfl) ⟨(Nat.le_of_ble_eq_true rfl), (Nat.le_of_ble_eq_true rfl)⟩ (mcd (by omega)) ?_
        intro r366 μ365
        refine ll_if_eq E (pc := 513) (tgt := 833) dL_bundles_513 rfl ?_ ?_
        · refine ll_iconst E (pc := 833) dL_bundles_833 kc_0 ?_
          exact ll_mzreturn E hr (fun _ _ => wp0) rfl dL_bundles_834 (by omega)
        · refine ll_aload_n E (pc := 516) dL_bundles_516 rfl ?_
          refine ll_iconst E (pc := 517) dL_bundles_517 kc_3 ?_
          refine ll_iconst E (pc := 518) dL_bundles_518 kc_1 ?_
          refine ll_iconst E (pc := 519) dL_bundles_519 kc_3 ?_
          refine ll_iconst E (pc := 520) dL_bundles_520 kc_5 ?_
          refine ll_iconst E (pc := 521) dL_bundles_521 kc_5 ?_
          refine ll_iconst E (pc := 522) dL_bundles_522 kc_5 ?_
          refine ll_mcallSi E X (pc := 523) (d := 9) [.ref (ad 0), .int (3 : Int32), .int (1 : Int32), .int (3 : Int32), .int (5 : Int32), .int (5 : Int32), .int (5 : Int32)] [] dL_bundles_523 cv_L_225 (fun h => cmL_is X.1 h) rfl rfl (Nat.le_of_ble_eq_true rfl) ⟨(Nat.le_of_ble_eq_true rfl), (Nat.le_of_ble_eq_true rfl)⟩ (mcd (by omega)) ?_
          intro r368 μ367
          refine ll_if_eq E (pc := 526) (tgt := 833) dL_bundles_526 rfl ?_ ?_
          · refine ll_iconst E (pc := 833) dL_bundles_833 kc_0 ?_
            exact ll_mzreturn E hr (fun _ _ => wp0) rfl dL_bundles_834 (by omega)
          · refine ll_aload_n E (pc := 529) dL_bundles_529 rfl ?_
            refine ll_iconst E (pc := 530) dL_bundles_530 kc_4 ?_
            refine ll_iconst E (pc := 531) dL_bundles_531 kc_2 ?_
            refine ll_iconst E (pc := 532) dL_bundles_532 kc_2 ?_
            refine ll_bipush E (pc := 533) dL_bundles_533 kb_6 ?_
            refine ll_bipush E (pc := 535) dL_bundles_535 kb_6 ?_
            refine ll_bipush E (pc := 537) dL_bundles_537 kb_6 ?_
            refine ll_mcallSi E X (pc := 539) (d := 9) [.ref (ad 0), .int (4 : Int32), .int (2 : Int32), .int (2 : Int32), .int (6 : Int32), .int (6 : Int32), .int (6 : Int32)] [] dL_bundles_539 cv_L_225 (fun h => cmL_is X.1 h) rfl rfl (Nat.le_of_ble_eq_true rfl) ⟨(Nat.le_of_ble_eq_true rfl), (Nat.le_of_ble_eq_true rfl)⟩ (mcd (by omega)) ?_
            intro r370 μ369
            refine ll_if_eq E (pc := 542) (tgt := 833) dL_bundles_542 rfl ?_ ?_
            · refine ll_iconst E (pc := 833) dL_bundles_833 kc_0 ?_
              exact ll_mzreturn E hr (fun _ _ => wp0) rfl dL_bundles_834 (by omega)
            · refine ll_aload_n E (pc := 545) dL_bundles_545 rfl ?_
              refine ll_callVi E (pc := 546) (d := 5) (ci := 8) (o9 := 0) [] [] dL_bundles_546 cv_L_229 (fun h => ctX8_spanByHeights h) (Nat.le_of_ble_eq_true rfl) sx_0 ci_8 rfl rfl (Nat.le_of_ble_eq_true rfl) ⟨(Nat.le_of_ble_eq_true rfl), (Nat.le_of_ble_eq_true rfl)⟩ (mcc (by omega)) ?_
              intro r372 μ371
              refine ll_bipush E (pc := 549) dL_bundles_549 kb_8 ?_
              refine ll_icmp_ne E (pc := 551) (tgt := 833) dL_bundles_551 rfl ?_ ?_
              · refine ll_iconst E (pc := 833) dL_bundles_833 kc_0 ?_
                exact ll_mzreturn E hr (fun _ _ => wp0) rfl dL_bundles_834 (by omega)
              · refine ll_aload_n E (pc := 554) dL_bundles_554 rfl ?_
                refine ll_callVi E (pc := 555) (d := 5) (ci := 8) (o9 := 0) [] [] dL_bundles_555 cv_L_200 (fun h => ctX8_spanByEarliest h) (Nat.le_of_ble_eq_true rfl) sx_0 ci_8 rfl rfl (Nat.le_of_ble_eq_true rfl) ⟨(Nat.le_of_ble_eq_true rfl), (Nat.le_of_ble_eq_true rfl)⟩ (mcc (by omega)) ?_
                intro r374 μ373
                refine ll_bipush E (pc := 558) dL_bundles_558 kb_8 ?_
                refine ll_icmp_ne E (pc := 560) (tgt := 833) dL_bundles_560 rfl ?_ ?_
                · refine ll_iconst E (pc := 833) dL_bundles_833 kc_0 ?_
                  exact ll_mzreturn E hr (fun _ _ => wp0) rfl dL_bundles_834 (by omega)
                · refine ll_aload_n E (pc := 563) dL_bundles_563 rfl ?_
                  refine ll_callVi E (pc := 564) (d := 5) (ci := 8) (o9 := 0) [] [] dL_bundles_564 cv_L_146 (fun h => ctX8_whyWrong h) (Nat.le_of_ble_eq_true rfl) sx_0 ci_8 rfl rfl (Nat.le_of_ble_eq_true rfl) ⟨(Nat.le_of_ble_eq_true rfl), (Nat.le_of_ble_eq_true rfl)⟩ (mcc (by omega)) ?_
                  intro r376 μ375
                  refine ll_if_ne E (pc := 567) (tgt := 833) dL_bundles_567 rfl ?_ ?_
                  · refine ll_iconst E (pc := 833) dL_bundles_833 kc_0 ?_
                    exact ll_mzreturn E hr (fun _ _ => wp0) rfl dL_bundles_834 (by omega)
                  · refine ll_aload_n E (pc := 570) dL_bundles_570 rfl ?_
                    refine ll_callVi E (pc := 571) (d := 6) (ci := 8) (o9 := 0) [] [] dL_bundles_571 cv_L_187 (fun h => ctX8_doesAgree h) (Nat.le_of_ble_eq_true rfl) sx_0 ci_8 rfl rfl (Nat.le_of_ble_eq_true rfl) ⟨(Nat.le_of_ble_eq_true rfl), (Nat.le_of_ble_eq_true rfl)⟩ (mcc (by omega)) ?_
                    intro r378 μ377
                    refine ll_if_eq E (pc := 574) (tgt := 833) dL_bundles_574 rfl ?_ ?_
                    · refine ll_iconst E (pc := 833) dL_bundles_833 kc_0 ?_
                      exact ll_mzreturn E hr (fun _ _ => wp0) rfl dL_bundles_834 (by omega)
                    · refine ll_aload_n E (pc := 577) dL_bundles_577 rfl ?_
                      refine ll_callVd E (pc := 578) (d := 2) (ci := 8) (o9 := 0) [] [] dL_bundles_578 cv_L_183 (fun h => ctX8_filledShare h) (Nat.le_of_ble_eq_true rfl) sx_0 ci_8 rfl rfl (Nat.le_of_ble_eq_true rfl) ⟨(Nat.le_of_ble_eq_true rfl), (Nat.le_of_ble_eq_true rfl)⟩ (mcc (by omega)) ?_
                      intro r380 μ379
                      refine ll_ldc2d E (pc := 581) dL_bundles_581 kw_L_232 ?_
                      refine ll_dcmp E (pc := 584) dL_bundles_584 ?_
                      refine ll_if_ne E (pc := 585) (tgt := 833) dL_bundles_585 rfl ?_ ?_
                      · refine ll_iconst E (pc := 833) dL_bundles_833 kc_0 ?_
                        exact ll_mzreturn E hr (fun _ _ => wp0) rfl dL_bundles_834 (by omega)
                      · refine ll_aload_n E (pc := 588) dL_bundles_588 rfl ?_
                        refine ll_iconst E (pc := 589) dL_bundles_589 kc_5 ?_
                        refine ll_ycallVi E X (pc := 590) (d := 8) (mc1 := 1) (ci := 8) (o9 := 0) [.int (5 : Int32)] [] dL_bundles_590 cv_L_124 (fun h => cxX8_stepsIn X.1 h) (Nat.le_of_ble_eq_true rfl) sx_0 ci_8 rfl rfl (Nat.le_of_ble_eq_true rfl) ⟨(Nat.le_of_ble_eq_true rfl), (Nat.le_of_ble_eq_true rfl)⟩ (mcd (by omega)) ?_
                        intro r382 μ381
                        refine ll_bipush E (pc := 593) dL_bundles_593 kb_8 ?_
                        refine ll_icmp_ne E (pc := 595) (tgt := 833) dL_bundles_595 rfl ?_ ?_
                        · refine ll_iconst E (pc := 833) dL_bundles_833 kc_0 ?_
                          exact ll_mzreturn E hr (fun _ _ => wp0) rfl dL_bundles_834 (by omega)
                        · refine ll_aload_n E (pc := 598) dL_bundles_598 rfl ?_
                          refine ll_iconst E (pc := 599) dL_bundles_599 kc_3 ?_
                          refine ll_ycallVi E X (pc := 600) (d := 8) (mc1 := 1) (ci := 8) (o9 := 0) [.int (3 : Int32)] [] dL_bundles_600 cv_L_124 (fun h => cxX8_stepsIn X.1 h) (Nat.le_of_ble_eq_true rfl) sx_0 ci_8 rfl rfl (Nat.le_of_ble_eq_true rfl) ⟨(Nat.le_of_ble_eq_true rfl), (Nat.le_of_ble_eq_true rfl)⟩ (mcd (by omega)) ?_
                          intro r384 μ383
                          refine ll_if_ne E (pc := 603) (tgt := 833) dL_bundles_603 rfl ?_ ?_
                          · refine ll_iconst E (pc := 833) dL_bundles_833 kc_0 ?_
                            exact ll_mzreturn E hr (fun _ _ => wp0) rfl dL_bundles_834 (by omega)
                          · refine ll_aload_n E (pc := 606) dL_bundles_606 rfl ?_
                            refine ll_iconst E (pc := 607) dL_bundles_607 kc_2 ?_
                            refine ll_ycallVi E X (pc := 608) (d := 8) (mc1 := 1) (ci := 8) (o9 := 0) [.int (2 : Int32)] [] dL_bundles_608 cv_L_100 (fun h => cxX8_registerInOrder X.1 h) (Nat.le_of_ble_eq_true rfl) sx_0 ci_8 rfl rfl (Nat.le_of_ble_eq_true rfl) ⟨(Nat.le_of_ble_eq_true rfl), (Nat.le_of_ble_eq_true rfl)⟩ (mcd (by omega)) ?_
                            intro r386 μ385
                            refine ll_bipush E (pc := 611) dL_bundles_611 kb_100 ?_
                            refine ll_icmp_ne E (pc := 613) (tgt := 833) dL_bundles_613 rfl ?_ ?_
                            · refine ll_iconst E (pc := 833) dL_bundles_833 kc_0 ?_
                              exact ll_mzreturn E hr (fun _ _ => wp0) rfl dL_bundles_834 (by omega)
                            · refine ll_aload_n E (pc := 616) dL_bundles_616 rfl ?_
                              refine ll_iconst E (pc := 617) dL_bundles_617 kc_3 ?_
                              refine ll_ycallVi E X (pc := 618) (d := 8) (mc1 := 1) (ci := 8) (o9 := 0) [.int (3 : Int32)] [] dL_bundles_618 cv_L_103 (fun h => cxX8_registerInBundles X.1 h) (Nat.le_of_ble_eq_true rfl) sx_0 ci_8 rfl rfl (Nat.le_of_ble_eq_true rfl) ⟨(Nat.le_of_ble_eq_true rfl), (Nat.le_of_ble_eq_true rfl)⟩ (mcd (by omega)) ?_
                              intro r388 μ387
                              refine ll_bipush E (pc := 621) dL_bundles_621 kb_100 ?_
                              refine ll_icmp_ne E (pc := 623) (tgt := 833) dL_bundles_623 rfl ?_ ?_
                              · refine ll_iconst E (pc := 833) dL_bundles_833 kc_0 ?_
                                exact ll_mzreturn E hr (fun _ _ => wp0) rfl dL_bundles_834 (by omega)
                              · refine ll_aload_n E (pc := 626) dL_bundles_626 rfl ?_
                                refine ll_iconst E (pc := 627) dL_bundles_627 kc_5 ?_
                                refine ll_ycallVi E X (pc := 628) (d := 8) (mc1 := 1) (ci := 8) (o9 := 0) [.int (5 : Int32)] [] dL_bundles_628 cv_L_109 (fun h => cxX8_cellInBundles X.1 h) (Nat.le_of_ble_eq_true rfl) sx_0 ci_8 rfl rfl (Nat.le_of_ble_eq_true rfl) ⟨(Nat.le_of_ble_eq_true rfl), (Nat.le_of_ble_eq_true rfl)⟩ (mcd (by omega)) ?_
                                intro r390 μ389
                                refine ll_bipush E (pc := 631) dL_bundles_631 kb_100 ?_
                                refine ll_icmp_ne E (pc := 633) (tgt := 833) dL_bundles_633 rfl ?_ ?_
                                · refine ll_iconst E (pc := 833) dL_bundles_833 kc_0 ?_
                                  exact ll_mzreturn E hr (fun _ _ => wp0) rfl dL_bundles_834 (by omega)
                                · refine ll_aload_n E (pc := 636) dL_bundles_636 rfl ?_
                                  refine ll_iconst E (pc := 637) dL_bundles_637 kc_5 ?_
                                  refine ll_ycallVi E X (pc := 638) (d := 8) (mc1 := 1) (ci := 8) (o9 := 0) [.int (5 : Int32)] [] dL_bundles_638 cv_L_106 (fun h => cxX8_cellInOrder X.1 h) (Nat.le_of_ble_eq_true rfl) sx_0 ci_8 rfl rfl (Nat.le_of_ble_eq_true rfl) ⟨(Nat.le_of_ble_eq_true rfl), (Nat.le_of_ble_eq_true rfl)⟩ (mcd (by omega)) ?_
                                  intro r392 μ391
                                  refine ll_bipush E (pc := 641) dL_bundles_641 kb_100 ?_
                                  refine ll_icmp_ne E (pc := 643) (tgt := 833) dL_bundles_643 rfl ?_ ?_
                                  · refine ll_iconst E (pc := 833) dL_bundles_833 kc_0 ?_
                                    exact ll_mzreturn E hr (fun _ _ => wp0) rfl dL_bundles_834 (by omega)
                                  · exact ll_lo (lo' := [some (.ref (ad 0))]) ⟨rfl, trivial⟩ (kL_bundles_L646 E X hr μ391 _ (by omega))
set_option maxRecDepth 20000 in
theorem kL_bundles_L384 {p : Program} {l : Launch} {e : Env} {s : State} {m : MethodId} {args : Array Value} {below : List Frame} {meth : Method} {c : Code} {D : va_G} {cI cR : ClassId} {ad : Nat → Nat} {A0 : Nat → Prop} (E : EV p s m args meth c cL_bundles 1 RL D cI cR ad shX NX A0) (X : EM9 l s A0) (hr : meth.sig.returnType = (some .boolean))  (μ : Mem) (cl : Nat) (hc0 : cl + (7169) ≤ 8785) : LL p l e (RX 14 8785) s m args below meth c 1 D cI cR ad shX NX A0 (fun (r : Int32) μ' => KM below args s D cI cR (fun _ => 0) shX 0 A0 8785 (some (.int r)) μ') (fL_bundles_L384 μ) cl (6 * cl) 384 [some (.ref (ad 0))] [] μ := by
  rw [fL_bundles_L384]
  refine ll_aload_n E (pc := 384) dL_bundles_384 rfl ?_
  refine ll_iconst E (pc := 385) dL_bundles_385 kc_3 ?_
  refine ll_ycallVi E X (pc := 386) (d := 8) (mc1 := 1) (ci := 8) (o9 := 0) [.int (3 : Int32)] [] dL_bundles_386 cv_L_73 (fun h => cxX8_readBy X.1 h) (Nat.le_of_ble_eq_true rfl) sx_0 ci_8 rfl rfl (Nat.le_of_ble_eq_true rfl) ⟨(Nat.le_of_ble_eq_true rfl), (Nat.le_of_ble_eq_true rfl)⟩ (mcd (by omega)) ?_
  intro r394 μ393
  refine ll_iconst E (pc := 389) dL_bundles_389 kc_5 ?_
  refine ll_icmp_ne E (pc := 390) (tgt := 463) dL_bundles_390 rfl ?_ ?_
  · refine ll_iconst E (pc := 463) dL_bundles_463 kc_0 ?_
    exact ll_mzreturn E hr (fun _ _ => wp0) rfl dL_bundles_464 (by omega)
  · refine ll_aload_n E (pc := 393) dL_bundles_393 rfl ?_
    refine ll_iconst E (pc := 394) dL_bundles_394 kc_3 ?_
    refine ll_ycallVi E X (pc := 395) (d := 8) (mc1 := 1) (ci := 8) (o9 := 0) [.int (3 : Int32)] [] dL_bundles_395 cv_L_76 (fun h => cxX8_writtenBy X.1 h) (Nat.le_of_ble_eq_true rfl) sx_0 ci_8 rfl rfl (Nat.le_of_ble_eq_true rfl) ⟨(Nat.le_of_ble_eq_true rfl), (Nat.le_of_ble_eq_true rfl)⟩ (mcd (by omega)) ?_
    intro r396 μ395
    refine ll_iconst E (pc := 398) dL_bundles_398 kc_m1 ?_
    refine ll_icmp_ne E (pc := 399) (tgt := 463) dL_bundles_399 rfl ?_ ?_
    · refine ll_iconst E (pc := 463) dL_bundles_463 kc_0 ?_
      exact ll_mzreturn E hr (fun _ _ => wp0) rfl dL_bundles_464 (by omega)
    · refine ll_aload_n E (pc := 402) dL_bundles_402 rfl ?_
      refine ll_iconst E (pc := 403) dL_bundles_403 kc_0 ?_
      refine ll_ycallVi E X (pc := 404) (d := 8) (mc1 := 1) (ci := 8) (o9 := 0) [.int (0 : Int32)] [] dL_bundles_404 cv_L_73 (fun h => cxX8_readBy X.1 h) (Nat.le_of_ble_eq_true rfl) sx_0 ci_8 rfl rfl (Nat.le_of_ble_eq_true rfl) ⟨(Nat.le_of_ble_eq_true rfl), (Nat.le_of_ble_eq_true rfl)⟩ (mcd (by omega)) ?_
      intro r398 μ397
      refine ll_if_ne E (pc := 407) (tgt := 463) dL_bundles_407 rfl ?_ ?_
      · refine ll_iconst E (pc := 463) dL_bundles_463 kc_0 ?_
        exact ll_mzreturn E hr (fun _ _ => wp0) rfl dL_bundles_464 (by omega)
      · refine ll_aload_n E (pc := 410) dL_bundles_410 rfl ?_
        refine ll_callVi E (pc := 411) (d := 5) (ci := 8) (o9 := 0) [] [] dL_bundles_411 cv_L_146 (fun h => ctX8_whyWrong h) (Nat.le_of_ble_eq_true rfl) sx_0 ci_8 rfl rfl (Nat.le_of_ble_eq_true rfl) ⟨(Nat.le_of_ble_eq_true rfl), (Nat.le_of_ble_eq_true rfl)⟩ (mcc (by omega)) ?_
        intro r400 μ399
        refine ll_iconst E (pc := 414) dL_bundles_414 kc_1 ?_
        refine ll_icmp_ne E (pc := 415) (tgt := 463) dL_bundles_415 rfl ?_ ?_
        · refine ll_iconst E (pc := 463) dL_bundles_463 kc_0 ?_
          exact ll_mzreturn E hr (fun _ _ => wp0) rfl dL_bundles_464 (by omega)
        · refine ll_aload_n E (pc := 418) dL_bundles_418 rfl ?_
          refine ll_callVi E (pc := 419) (d := 5) (ci := 8) (o9 := 0) [] [] dL_bundles_419 cv_L_149 (fun h => ctX8_wrongAt h) (Nat.le_of_ble_eq_true rfl) sx_0 ci_8 rfl rfl (Nat.le_of_ble_eq_true rfl) ⟨(Nat.le_of_ble_eq_true rfl), (Nat.le_of_ble_eq_true rfl)⟩ (mcc (by omega)) ?_
          intro r402 μ401
          refine ll_if_ne E (pc := 422) (tgt := 463) dL_bundles_422 rfl ?_ ?_
          · refine ll_iconst E (pc := 463) dL_bundles_463 kc_0 ?_
            exact ll_mzreturn E hr (fun _ _ => wp0) rfl dL_bundles_464 (by omega)
          · refine ll_aload_n E (pc := 425) dL_bundles_425 rfl ?_
            refine ll_callVi E (pc := 426) (d := 6) (ci := 8) (o9 := 0) [] [] dL_bundles_426 cv_L_187 (fun h => ctX8_doesAgree h) (Nat.le_of_ble_eq_true rfl) sx_0 ci_8 rfl rfl (Nat.le_of_ble_eq_true rfl) ⟨(Nat.le_of_ble_eq_true rfl), (Nat.le_of_ble_eq_true rfl)⟩ (mcc (by omega)) ?_
            intro r404 μ403
            refine ll_if_ne E (pc := 429) (tgt := 463) dL_bundles_429 rfl ?_ ?_
            · refine ll_iconst E (pc := 463) dL_bundles_463 kc_0 ?_
              exact ll_mzreturn E hr (fun _ _ => wp0) rfl dL_bundles_464 (by omega)
            · refine ll_aload_n E (pc := 432) dL_bundles_432 rfl ?_
              refine ll_callVi E (pc := 433) (d := 5) (ci := 8) (o9 := 0) [] [] dL_bundles_433 cv_L_152 (fun h => ctX8_wouldPack h) (Nat.le_of_ble_eq_true rfl) sx_0 ci_8 rfl rfl (Nat.le_of_ble_eq_true rfl) ⟨(Nat.le_of_ble_eq_true rfl), (Nat.le_of_ble_eq_true rfl)⟩ (mcc (by omega)) ?_
              intro r406 μ405
              refine ll_bipush E (pc := 436) dL_bundles_436 kb_7 ?_
              refine ll_icmp_ne E (pc := 438) (tgt := 463) dL_bundles_438 rfl ?_ ?_
              · refine ll_iconst E (pc := 463) dL_bundles_463 kc_0 ?_
                exact ll_mzreturn E hr (fun _ _ => wp0) rfl dL_bundles_464 (by omega)
              · refine ll_aload_n E (pc := 441) dL_bundles_441 rfl ?_
                refine ll_callVi E (pc := 442) (d := 2) (ci := 8) (o9 := 0) [] [] dL_bundles_442 cv_L_143 (fun h => ctX8_bundles h) (Nat.le_of_ble_eq_true rfl) sx_0 ci_8 rfl rfl (Nat.le_of_ble_eq_true rfl) ⟨(Nat.le_of_ble_eq_true rfl), (Nat.le_of_ble_eq_true rfl)⟩ (mcc (by omega)) ?_
                intro r408 μ407
                refine ll_if_ne E (pc := 445) (tgt := 463) dL_bundles_445 rfl ?_ ?_
                · refine ll_iconst E (pc := 463) dL_bundles_463 kc_0 ?_
                  exact ll_mzreturn E hr (fun _ _ => wp0) rfl dL_bundles_464 (by omega)
                · refine ll_aload_n E (pc := 448) dL_bundles_448 rfl ?_
                  refine ll_callVi E (pc := 449) (d := 2) (ci := 8) (o9 := 0) [] [] dL_bundles_449 cv_L_222 (fun h => ctX8_keep h) (Nat.le_of_ble_eq_true rfl) sx_0 ci_8 rfl rfl (Nat.le_of_ble_eq_true rfl) ⟨(Nat.le_of_ble_eq_true rfl), (Nat.le_of_ble_eq_true rfl)⟩ (mcc (by omega)) ?_
                  intro r410 μ409
                  refine ll_iconst E (pc := 452) dL_bundles_452 kc_5 ?_
                  refine ll_icmp_ne E (pc := 453) (tgt := 463) dL_bundles_453 rfl ?_ ?_
                  · refine ll_iconst E (pc := 463) dL_bundles_463 kc_0 ?_
                    exact ll_mzreturn E hr (fun _ _ => wp0) rfl dL_bundles_464 (by omega)
                  · refine ll_aload_n E (pc := 456) dL_bundles_456 rfl ?_
                    refine ll_mcallSi E X (pc := 457) (d := 12) [.ref (ad 0)] [] dL_bundles_457 cv_L_203 (fun h => cmL_refused X.1 h) rfl rfl (Nat.le_of_ble_eq_true rfl) ⟨(Nat.le_of_ble_eq_true rfl), (Nat.le_of_ble_eq_true rfl)⟩ (mcd (by omega)) ?_
                    intro r412 μ411
                    refine ll_if_ne E (pc := 460) (tgt := 465) dL_bundles_460 rfl ?_ ?_
                    · exact ll_lo (lo' := [some (.ref (ad 0))]) ⟨rfl, trivial⟩ (kL_bundles_L465 E X hr μ411 _ (by omega))
                    · refine ll_iconst E (pc := 463) dL_bundles_463 kc_0 ?_
                      exact ll_mzreturn E hr (fun _ _ => wp0) rfl dL_bundles_464 (by omega)
set_option maxRecDepth 20000 in
theorem kL_bundles_L201 {p : Program} {l : Launch} {e : Env} {s : State} {m : MethodId} {args : Array Value} {below : List Frame} {meth : Method} {c : Code} {D : va_G} {cI cR : ClassId} {ad : Nat → Nat} {A0 : Nat → Prop} (E : EV p s m args meth c cL_bundles 1 RL D cI cR ad shX NX A0) (X : EM9 l s A0) (hr : meth.sig.returnType = (some .boolean))  (μ : Mem) (cl : Nat) (hc0 : cl + (7205) ≤ 8785) : LL p l e (RX 14 8785) s m args below meth c 1 D cI cR ad shX NX A0 (fun (r : Int32) μ' => KM below args s D cI cR (fun _ => 0) shX 0 A0 8785 (some (.int r)) μ') (fL_bundles_L201 μ) cl (6 * cl) 201 [some (.ref (ad 0))] [] μ := by
  rw [fL_bundles_L201]
  refine ll_aload_n E (pc := 201) dL_bundles_201 rfl ?_
  refine ll_iconst E (pc := 202) dL_bundles_202 kc_0 ?_
  refine ll_iconst E (pc := 203) dL_bundles_203 kc_1 ?_
  refine ll_ycallVi E X (pc := 204) (d := 8) (mc1 := 2) (ci := 8) (o9 := 0) [.int (0 : Int32), .int (1 : Int32)] [] dL_bundles_204 cv_L_94 (fun h => cxX8_separation X.1 h) (Nat.le_of_ble_eq_true rfl) sx_0 ci_8 rfl rfl (Nat.le_of_ble_eq_true rfl) ⟨(Nat.le_of_ble_eq_true rfl), (Nat.le_of_ble_eq_true rfl)⟩ (mcd (by omega)) ?_
  intro r414 μ413
  refine ll_iconst E (pc := 207) dL_bundles_207 kc_1 ?_
  refine ll_icmp_ne E (pc := 208) (tgt := 463) dL_bundles_208 rfl ?_ ?_
  · refine ll_iconst E (pc := 463) dL_bundles_463 kc_0 ?_
    exact ll_mzreturn E hr (fun _ _ => wp0) rfl dL_bundles_464 (by omega)
  · refine ll_aload_n E (pc := 211) dL_bundles_211 rfl ?_
    refine ll_iconst E (pc := 212) dL_bundles_212 kc_1 ?_
    refine ll_iconst E (pc := 213) dL_bundles_213 kc_2 ?_
    refine ll_ycallVi E X (pc := 214) (d := 8) (mc1 := 2) (ci := 8) (o9 := 0) [.int (1 : Int32), .int (2 : Int32)] [] dL_bundles_214 cv_L_94 (fun h => cxX8_separation X.1 h) (Nat.le_of_ble_eq_true rfl) sx_0 ci_8 rfl rfl (Nat.le_of_ble_eq_true rfl) ⟨(Nat.le_of_ble_eq_true rfl), (Nat.le_of_ble_eq_true rfl)⟩ (mcd (by omega)) ?_
    intro r416 μ415
    refine ll_iconst E (pc := 217) dL_bundles_217 kc_1 ?_
    refine ll_icmp_ne E (pc := 218) (tgt := 463) dL_bundles_218 rfl ?_ ?_
    · refine ll_iconst E (pc := 463) dL_bundles_463 kc_0 ?_
      exact ll_mzreturn E hr (fun _ _ => wp0) rfl dL_bundles_464 (by omega)
    · refine ll_aload_n E (pc := 221) dL_bundles_221 rfl ?_
      refine ll_iconst E (pc := 222) dL_bundles_222 kc_2 ?_
      refine ll_iconst E (pc := 223) dL_bundles_223 kc_3 ?_
      refine ll_ycallVi E X (pc := 224) (d := 8) (mc1 := 2) (ci := 8) (o9 := 0) [.int (2 : Int32), .int (3 : Int32)] [] dL_bundles_224 cv_L_94 (fun h => cxX8_separation X.1 h) (Nat.le_of_ble_eq_true rfl) sx_0 ci_8 rfl rfl (Nat.le_of_ble_eq_true rfl) ⟨(Nat.le_of_ble_eq_true rfl), (Nat.le_of_ble_eq_true rfl)⟩ (mcd (by omega)) ?_
      intro r418 μ417
      refine ll_iconst E (pc := 227) dL_bundles_227 kc_3 ?_
      refine ll_icmp_ne E (pc := 228) (tgt := 463) dL_bundles_228 rfl ?_ ?_
      · refine ll_iconst E (pc := 463) dL_bundles_463 kc_0 ?_
        exact ll_mzreturn E hr (fun _ _ => wp0) rfl dL_bundles_464 (by omega)
      · refine ll_aload_n E (pc := 231) dL_bundles_231 rfl ?_
        refine ll_iconst E (pc := 232) dL_bundles_232 kc_0 ?_
        refine ll_iconst E (pc := 233) dL_bundles_233 kc_3 ?_
        refine ll_ycallVi E X (pc := 234) (d := 8) (mc1 := 2) (ci := 8) (o9 := 0) [.int (0 : Int32), .int (3 : Int32)] [] dL_bundles_234 cv_L_94 (fun h => cxX8_separation X.1 h) (Nat.le_of_ble_eq_true rfl) sx_0 ci_8 rfl rfl (Nat.le_of_ble_eq_true rfl) ⟨(Nat.le_of_ble_eq_true rfl), (Nat.le_of_ble_eq_true rfl)⟩ (mcd (by omega)) ?_
        intro r420 μ419
        refine ll_iconst E (pc := 237) dL_bundles_237 kc_1 ?_
        refine ll_icmp_ne E (pc := 238) (tgt := 463) dL_bundles_238 rfl ?_ ?_
        · refine ll_iconst E (pc := 463) dL_bundles_463 kc_0 ?_
          exact ll_mzreturn E hr (fun _ _ => wp0) rfl dL_bundles_464 (by omega)
        · refine ll_aload_n E (pc := 241) dL_bundles_241 rfl ?_
          refine ll_iconst E (pc := 242) dL_bundles_242 kc_3 ?_
          refine ll_iconst E (pc := 243) dL_bundles_243 kc_4 ?_
          refine ll_ycallVi E X (pc := 244) (d := 8) (mc1 := 2) (ci := 8) (o9 := 0) [.int (3 : Int32), .int (4 : Int32)] [] dL_bundles_244 cv_L_94 (fun h => cxX8_separation X.1 h) (Nat.le_of_ble_eq_true rfl) sx_0 ci_8 rfl rfl (Nat.le_of_ble_eq_true rfl) ⟨(Nat.le_of_ble_eq_true rfl), (Nat.le_of_ble_eq_true rfl)⟩ (mcd (by omega)) ?_
          intro r422 μ421
          refine ll_iconst E (pc := 247) dL_bundles_247 kc_1 ?_
          refine ll_icmp_ne E (pc := 248) (tgt := 463) dL_bundles_248 rfl ?_ ?_
          · refine ll_iconst E (pc := 463) dL_bundles_463 kc_0 ?_
            exact ll_mzreturn E hr (fun _ _ => wp0) rfl dL_bundles_464 (by omega)
          · refine ll_aload_n E (pc := 251) dL_bundles_251 rfl ?_
            refine ll_iconst E (pc := 252) dL_bundles_252 kc_0 ?_
            refine ll_iconst E (pc := 253) dL_bundles_253 kc_4 ?_
            refine ll_ycallVi E X (pc := 254) (d := 8) (mc1 := 2) (ci := 8) (o9 := 0) [.int (0 : Int32), .int (4 : Int32)] [] dL_bundles_254 cv_L_94 (fun h => cxX8_separation X.1 h) (Nat.le_of_ble_eq_true rfl) sx_0 ci_8 rfl rfl (Nat.le_of_ble_eq_true rfl) ⟨(Nat.le_of_ble_eq_true rfl), (Nat.le_of_ble_eq_true rfl)⟩ (mcd (by omega)) ?_
            intro r424 μ423
            refine ll_iconst E (pc := 257) dL_bundles_257 kc_1 ?_
            refine ll_icmp_ne E (pc := 258) (tgt := 463) dL_bundles_258 rfl ?_ ?_
            · refine ll_iconst E (pc := 463) dL_bundles_463 kc_0 ?_
              exact ll_mzreturn E hr (fun _ _ => wp0) rfl dL_bundles_464 (by omega)
            · refine ll_aload_n E (pc := 261) dL_bundles_261 rfl ?_
              refine ll_iconst E (pc := 262) dL_bundles_262 kc_0 ?_
              refine ll_iconst E (pc := 263) dL_bundles_263 kc_2 ?_
              refine ll_ycallVi E X (pc := 264) (d := 8) (mc1 := 2) (ci := 8) (o9 := 0) [.int (0 : Int32), .int (2 : Int32)] [] dL_bundles_264 cv_L_94 (fun h => cxX8_separation X.1 h) (Nat.le_of_ble_eq_true rfl) sx_0 ci_8 rfl rfl (Nat.le_of_ble_eq_true rfl) ⟨(Nat.le_of_ble_eq_true rfl), (Nat.le_of_ble_eq_true rfl)⟩ (mcd (by omega)) ?_
              intro r426 μ425
              refine ll_bipush E (pc := 267) dL_bundles_267 kb_m99 ?_
              refine ll_icmp_ne E (pc := 269) (tgt := 463) dL_bundles_269 rfl ?_ ?_
              · refine ll_iconst E (pc := 463) dL_bundles_463 kc_0 ?_
                exact ll_mzreturn E hr (fun _ _ => wp0) rfl dL_bundles_464 (by omega)
              · refine ll_aload_n E (pc := 272) dL_bundles_272 rfl ?_
                refine ll_iconst E (pc := 273) dL_bundles_273 kc_2 ?_
                refine ll_iconst E (pc := 274) dL_bundles_274 kc_4 ?_
                refine ll_ycallVi E X (pc := 275) (d := 8) (mc1 := 2) (ci := 8) (o9 := 0) [.int (2 : Int32), .int (4 : Int32)] [] dL_bundles_275 cv_L_94 (fun h => cxX8_separation X.1 h) (Nat.le_of_ble_eq_true rfl) sx_0 ci_8 rfl rfl (Nat.le_of_ble_eq_true rfl) ⟨(Nat.le_of_ble_eq_true rfl), (Nat.le_of_ble_eq_true rfl)⟩ (mcd (by omega)) ?_
                intro r428 μ427
                refine ll_bipush E (pc := 278) dL_bundles_278 kb_m99 ?_
                refine ll_icmp_ne E (pc := 280) (tgt := 463) dL_bundles_280 rfl ?_ ?_
                · refine ll_iconst E (pc := 463) dL_bundles_463 kc_0 ?_
                  exact ll_mzreturn E hr (fun _ _ => wp0) rfl dL_bundles_464 (by omega)
                · refine ll_aload_n E (pc := 283) dL_bundles_283 rfl ?_
                  refine ll_iconst E (pc := 284) dL_bundles_284 kc_4 ?_
                  refine ll_iconst E (pc := 285) dL_bundles_285 kc_3 ?_
                  refine ll_ycallVi E X (pc := 286) (d := 8) (mc1 := 2) (ci := 8) (o9 := 0) [.int (4 : Int32), .int (3 : Int32)] [] dL_bundles_286 cv_L_94 (fun h => cxX8_separation X.1 h) (Nat.le_of_ble_eq_true rfl) sx_0 ci_8 rfl rfl (Nat.le_of_ble_eq_true rfl) ⟨(Nat.le_of_ble_eq_true rfl), (Nat.le_of_ble_eq_true rfl)⟩ (mcd (by omega)) ?_
                  intro r430 μ429
                  refine ll_bipush E (pc := 289) dL_bundles_289 kb_m99 ?_
                  refine ll_icmp_ne E (pc := 291) (tgt := 463) dL_bundles_291 rfl ?_ ?_
                  · refine ll_iconst E (pc := 463) dL_bundles_463 kc_0 ?_
                    exact ll_mzreturn E hr (fun _ _ => wp0) rfl dL_bundles_464 (by omega)
                  · refine ll_aload_n E (pc := 294) dL_bundles_294 rfl ?_
                    refine ll_iconst E (pc := 295) dL_bundles_295 kc_3 ?_
                    refine ll_iconst E (pc := 296) dL_bundles_296 kc_3 ?_
                    refine ll_ycallVi E X (pc := 297) (d := 8) (mc1 := 2) (ci := 8) (o9 := 0) [.int (3 : Int32), .int (3 : Int32)] [] dL_bundles_297 cv_L_94 (fun h => cxX8_separation X.1 h) (Nat.le_of_ble_eq_true rfl) sx_0 ci_8 rfl rfl (Nat.le_of_ble_eq_true rfl) ⟨(Nat.le_of_ble_eq_true rfl), (Nat.le_of_ble_eq_true rfl)⟩ (mcd (by omega)) ?_
                    intro r432 μ431
                    refine ll_bipush E (pc := 300) dL_bundles_300 kb_m99 ?_
                    refine ll_icmp_ne E (pc := 302) (tgt := 463) dL_bundles_302 rfl ?_ ?_
                    · refine ll_iconst E (pc := 463) dL_bundles_463 kc_0 ?_
                      exact ll_mzreturn E hr (fun _ _ => wp0) rfl dL_bundles_464 (by omega)
                    · refine ll_aload_n E (pc := 305) dL_bundles_305 rfl ?_
                      refine ll_iconst E (pc := 306) dL_bundles_306 kc_1 ?_
                      refine ll_iconst E (pc := 307) dL_bundles_307 kc_0 ?_
                      refine ll_ycallVi E X (pc := 308) (d := 8) (mc1 := 2) (ci := 8) (o9 := 0) [.int (1 : Int32), .int (0 : Int32)] [] dL_bundles_308 cv_L_97 (fun h => cxX8_carried X.1 h) (Nat.le_of_ble_eq_true rfl) sx_0 ci_8 rfl rfl (Nat.le_of_ble_eq_true rfl) ⟨(Nat.le_of_ble_eq_true rfl), (Nat.le_of_ble_eq_true rfl)⟩ (mcd (by omega)) ?_
                      intro r434 μ433
                      refine ll_if_ne E (pc := 311) (tgt := 463) dL_bundles_311 rfl ?_ ?_
                      · refine ll_iconst E (pc := 463) dL_bundles_463 kc_0 ?_
                        exact ll_mzreturn E hr (fun _ _ => wp0) rfl dL_bundles_464 (by omega)
                      · refine ll_aload_n E (pc := 314) dL_bundles_314 rfl ?_
                        refine ll_iconst E (pc := 315) dL_bundles_315 kc_3 ?_
                        refine ll_iconst E (pc := 316) dL_bundles_316 kc_0 ?_
                        refine ll_ycallVi E X (pc := 317) (d := 8) (mc1 := 2) (ci := 8) (o9 := 0) [.int (3 : Int32), .int (0 : Int32)] [] dL_bundles_317 cv_L_97 (fun h => cxX8_carried X.1 h) (Nat.le_of_ble_eq_true rfl) sx_0 ci_8 rfl rfl (Nat.le_of_ble_eq_true rfl) ⟨(Nat.le_of_ble_eq_true rfl), (Nat.le_of_ble_eq_true rfl)⟩ (mcd (by omega)) ?_
                        intro r436 μ435
                        refine ll_if_ne E (pc := 320) (tgt := 463) dL_bundles_320 rfl ?_ ?_
                        · refine ll_iconst E (pc := 463) dL_bundles_463 kc_0 ?_
                          exact ll_mzreturn E hr (fun _ _ => wp0) rfl dL_bundles_464 (by omega)
                        · refine ll_aload_n E (pc := 323) dL_bundles_323 rfl ?_
                          refine ll_iconst E (pc := 324) dL_bundles_324 kc_3 ?_
                          refine ll_iconst E (pc := 325) dL_bundles_325 kc_2 ?_
                          refine ll_ycallVi E X (pc := 326) (d := 8) (mc1 := 2) (ci := 8) (o9 := 0) [.int (3 : Int32), .int (2 : Int32)] [] dL_bundles_326 cv_L_97 (fun h => cxX8_carried X.1 h) (Nat.le_of_ble_eq_true rfl) sx_0 ci_8 rfl rfl (Nat.le_of_ble_eq_true rfl) ⟨(Nat.le_of_ble_eq_true rfl), (Nat.le_of_ble_eq_true rfl)⟩ (mcd (by omega)) ?_
                          intro r438 μ437
                          refine ll_bipush E (pc := 329) dL_bundles_329 kb_m2 ?_
                          refine ll_icmp_ne E (pc := 331) (tgt := 463) dL_bundles_331 rfl ?_ ?_
                          · refine ll_iconst E (pc := 463) dL_bundles_463 kc_0 ?_
                            exact ll_mzreturn E hr (fun _ _ => wp0) rfl dL_bundles_464 (by omega)
                          · refine ll_aload_n E (pc := 334) dL_bundles_334 rfl ?_
                            refine ll_iconst E (pc := 335) dL_bundles_335 kc_0 ?_
                            refine ll_iconst E (pc := 336) dL_bundles_336 kc_1 ?_
                            refine ll_ycallVi E X (pc := 337) (d := 8) (mc1 := 2) (ci := 8) (o9 := 0) [.int (0 : Int32), .int (1 : Int32)] [] dL_bundles_337 cv_L_97 (fun h => cxX8_carried X.1 h) (Nat.le_of_ble_eq_true rfl) sx_0 ci_8 rfl rfl (Nat.le_of_ble_eq_true rfl) ⟨(Nat.le_of_ble_eq_true rfl), (Nat.le_of_ble_eq_true rfl)⟩ (mcd (by omega)) ?_
                            intro r440 μ439
                            refine ll_bipush E (pc := 340) dL_bundles_340 kb_m99 ?_
                            refine ll_icmp_ne E (pc := 342) (tgt := 463) dL_bundles_342 rfl ?_ ?_
                            · refine ll_iconst E (pc := 463) dL_bundles_463 kc_0 ?_
                              exact ll_mzreturn E hr (fun _ _ => wp0) rfl dL_bundles_464 (by omega)
                            · refine ll_aload_n E (pc := 345) dL_bundles_345 rfl ?_
                              refine ll_iconst E (pc := 346) dL_bundles_346 kc_4 ?_
                              refine ll_iconst E (pc := 347) dL_bundles_347 kc_4 ?_
                              refine ll_ycallVi E X (pc := 348) (d := 8) (mc1 := 2) (ci := 8) (o9 := 0) [.int (4 : Int32), .int (4 : Int32)] [] dL_bundles_348 cv_L_97 (fun h => cxX8_carried X.1 h) (Nat.le_of_ble_eq_true rfl) sx_0 ci_8 rfl rfl (Nat.le_of_ble_eq_true rfl) ⟨(Nat.le_of_ble_eq_true rfl), (Nat.le_of_ble_eq_true rfl)⟩ (mcd (by omega)) ?_
                              intro r442 μ441
                              refine ll_iconst E (pc := 351) dL_bundles_351 kc_1 ?_
                              refine ll_icmp_ne E (pc := 352) (tgt := 463) dL_bundles_352 rfl ?_ ?_
                              · refine ll_iconst E (pc := 463) dL_bundles_463 kc_0 ?_
                                exact ll_mzreturn E hr (fun _ _ => wp0) rfl dL_bundles_464 (by omega)
                              · refine ll_aload_n E (pc := 355) dL_bundles_355 rfl ?_
                                refine ll_iconst E (pc := 356) dL_bundles_356 kc_3 ?_
                                refine ll_iconst E (pc := 357) dL_bundles_357 kc_3 ?_
                                refine ll_ycallVi E X (pc := 358) (d := 8) (mc1 := 2) (ci := 8) (o9 := 0) [.int (3 : Int32), .int (3 : Int32)] [] dL_bundles_358 cv_L_97 (fun h => cxX8_carried X.1 h) (Nat.le_of_ble_eq_true rfl) sx_0 ci_8 rfl rfl (Nat.le_of_ble_eq_true rfl) ⟨(Nat.le_of_ble_eq_true rfl), (Nat.le_of_ble_eq_true rfl)⟩ (mcd (by omega)) ?_
                                intro r444 μ443
                                refine ll_iconst E (pc := 361) dL_bundles_361 kc_1 ?_
                                refine ll_icmp_ne E (pc := 362) (tgt := 463) dL_bundles_362 rfl ?_ ?_
                                · refine ll_iconst E (pc := 463) dL_bundles_463 kc_0 ?_
                                  exact ll_mzreturn E hr (fun _ _ => wp0) rfl dL_bundles_464 (by omega)
                                · refine ll_aload_n E (pc := 365) dL_bundles_365 rfl ?_
                                  refine ll_iconst E (pc := 366) dL_bundles_366 kc_3 ?_
                                  refine ll_iconst E (pc := 367) dL_bundles_367 kc_4 ?_
                                  refine ll_ycallVi E X (pc := 368) (d := 8) (mc1 := 2) (ci := 8) (o9 := 0) [.int (3 : Int32), .int (4 : Int32)] [] dL_bundles_368 cv_L_97 (fun h => cxX8_carried X.1 h) (Nat.le_of_ble_eq_true rfl) sx_0 ci_8 rfl rfl (Nat.le_of_ble_eq_true rfl) ⟨(Nat.le_of_ble_eq_true rfl), (Nat.le_of_ble_eq_true rfl)⟩ (mcd (by omega)) ?_
                                  intro r446 μ445
                                  refine ll_iconst E (pc := 371) dL_bundles_371 kc_1 ?_
                                  refine ll_icmp_ne E (pc := 372) (tgt := 463) dL_bundles_372 rfl ?_ ?_
                                  · refine ll_iconst E (pc := 463) dL_bundles_463 kc_0 ?_
                                    exact ll_mzreturn E hr (fun _ _ => wp0) rfl dL_bundles_464 (by omega)
                                  · refine ll_aload_n E (pc := 375) dL_bundles_375 rfl ?_
                                    refine ll_iconst E (pc := 376) dL_bundles_376 kc_4 ?_
                                    refine ll_iconst E (pc := 377) dL_bundles_377 kc_3 ?_
                                    refine ll_ycallVi E X (pc := 378) (d := 8) (mc1 := 2) (ci := 8) (o9 := 0) [.int (4 : Int32), .int (3 : Int32)] [] dL_bundles_378 cv_L_97 (fun h => cxX8_carried X.1 h) (Nat.le_of_ble_eq_true rfl) sx_0 ci_8 rfl rfl (Nat.le_of_ble_eq_true rfl) ⟨(Nat.le_of_ble_eq_true rfl), (Nat.le_of_ble_eq_true rfl)⟩ (mcd (by omega)) ?_
                                    intro r448 μ447
                                    refine ll_if_ne E (pc := 381) (tgt := 463) dL_bundles_381 rfl ?_ ?_
                                    · refine ll_iconst E (pc := 463) dL_bundles_463 kc_0 ?_
                                      exact ll_mzreturn E hr (fun _ _ => wp0) rfl dL_bundles_464 (by omega)
                                    · exact ll_lo (lo' := [some (.ref (ad 0))]) ⟨rfl, trivial⟩ (kL_bundles_L384 E X hr μ447 _ (by omega))
set_option maxRecDepth 20000 in
theorem kL_bundles_L146 {p : Program} {l : Launch} {e : Env} {s : State} {m : MethodId} {args : Array Value} {below : List Frame} {meth : Method} {c : Code} {D : va_G} {cI cR : ClassId} {ad : Nat → Nat} {A0 : Nat → Prop} (E : EV p s m args meth c cL_bundles 1 RL D cI cR ad shX NX A0) (X : EM9 l s A0) (hr : meth.sig.returnType = (some .boolean))  (μ : Mem) (cl : Nat) (hc0 : cl + (7250) ≤ 8785) : LL p l e (RX 14 8785) s m args below meth c 1 D cI cR ad shX NX A0 (fun (r : Int32) μ' => KM below args s D cI cR (fun _ => 0) shX 0 A0 8785 (some (.int r)) μ') (fL_bundles_L146 μ) cl (6 * cl) 146 [some (.ref (ad 0))] [] μ := by
  rw [fL_bundles_L146]
  refine ll_aload_n E (pc := 146) dL_bundles_146 rfl ?_
  refine ll_ldc2 E (pc := 147) dL_bundles_147 kw_L_207 ?_
  refine ll_mcallSi E X (pc := 150) (d := 8) [.ref (ad 0), .long (7006815124425892139 : Int64)] [] dL_bundles_150 cv_L_209 (fun h => cmL_types X.1 h) rfl rfl (Nat.le_of_ble_eq_true rfl) ⟨(Nat.le_of_ble_eq_true rfl), (Nat.le_of_ble_eq_true rfl)⟩ (mcd (by omega)) ?_
  intro r450 μ449
  refine ll_if_eq E (pc := 153) (tgt := 463) dL_bundles_153 rfl ?_ ?_
  · refine ll_iconst E (pc := 463) dL_bundles_463 kc_0 ?_
    exact ll_mzreturn E hr (fun _ _ => wp0) rfl dL_bundles_464 (by omega)
  · refine ll_aload_n E (pc := 156) dL_bundles_156 rfl ?_
    refine ll_ldc2 E (pc := 157) dL_bundles_157 kw_L_213 ?_
    refine ll_mcallSi E X (pc := 160) (d := 8) [.ref (ad 0), .long (7006302760596038203 : Int64)] [] dL_bundles_160 cv_L_209 (fun h => cmL_types X.1 h) rfl rfl (Nat.le_of_ble_eq_true rfl) ⟨(Nat.le_of_ble_eq_true rfl), (Nat.le_of_ble_eq_true rfl)⟩ (mcd (by omega)) ?_
    intro r452 μ451
    refine ll_if_eq E (pc := 163) (tgt := 463) dL_bundles_163 rfl ?_ ?_
    · refine ll_iconst E (pc := 463) dL_bundles_463 kc_0 ?_
      exact ll_mzreturn E hr (fun _ _ => wp0) rfl dL_bundles_464 (by omega)
    · refine ll_aload_n E (pc := 166) dL_bundles_166 rfl ?_
      refine ll_ldc2 E (pc := 167) dL_bundles_167 kw_L_215 ?_
      refine ll_mcallSi E X (pc := 170) (d := 8) [.ref (ad 0), .long (6584591616915104571 : Int64)] [] dL_bundles_170 cv_L_209 (fun h => cmL_types X.1 h) rfl rfl (Nat.le_of_ble_eq_true rfl) ⟨(Nat.le_of_ble_eq_true rfl), (Nat.le_of_ble_eq_true rfl)⟩ (mcd (by omega)) ?_
      intro r454 μ453
      refine ll_if_eq E (pc := 173) (tgt := 463) dL_bundles_173 rfl ?_ ?_
      · refine ll_iconst E (pc := 463) dL_bundles_463 kc_0 ?_
        exact ll_mzreturn E hr (fun _ _ => wp0) rfl dL_bundles_464 (by omega)
      · refine ll_aload_n E (pc := 176) dL_bundles_176 rfl ?_
        refine ll_ldc2 E (pc := 177) dL_bundles_177 kw_L_217 ?_
        refine ll_mcallSi E X (pc := 180) (d := 8) [.ref (ad 0), .long (28214960352604253 : Int64)] [] dL_bundles_180 cv_L_209 (fun h => cmL_types X.1 h) rfl rfl (Nat.le_of_ble_eq_true rfl) ⟨(Nat.le_of_ble_eq_true rfl), (Nat.le_of_ble_eq_true rfl)⟩ (mcd (by omega)) ?_
        intro r456 μ455
        refine ll_if_eq E (pc := 183) (tgt := 463) dL_bundles_183 rfl ?_ ?_
        · refine ll_iconst E (pc := 463) dL_bundles_463 kc_0 ?_
          exact ll_mzreturn E hr (fun _ _ => wp0) rfl dL_bundles_464 (by omega)
        · refine ll_aload_n E (pc := 186) dL_bundles_186 rfl ?_
          refine ll_ycallVi E X (pc := 187) (d := 7) (mc1 := 1) (ci := 8) (o9 := 0) [] [] dL_bundles_187 cv_L_60 (fun h => cxX8_addAll X.1 h) (Nat.le_of_ble_eq_true rfl) sx_0 ci_8 rfl rfl (Nat.le_of_ble_eq_true rfl) ⟨(Nat.le_of_ble_eq_true rfl), (Nat.le_of_ble_eq_true rfl)⟩ (mcd (by omega)) ?_
          intro r458 μ457
          refine ll_iconst E (pc := 190) dL_bundles_190 kc_5 ?_
          refine ll_icmp_ne E (pc := 191) (tgt := 463) dL_bundles_191 rfl ?_ ?_
          · refine ll_iconst E (pc := 463) dL_bundles_463 kc_0 ?_
            exact ll_mzreturn E hr (fun _ _ => wp0) rfl dL_bundles_464 (by omega)
          · refine ll_aload_n E (pc := 194) dL_bundles_194 rfl ?_
            refine ll_callVi E (pc := 195) (d := 0) (ci := 8) (o9 := 0) [] [] dL_bundles_195 cv_L_219 (fun h => ctX8_clearBuffer h) (Nat.le_of_ble_eq_true rfl) sx_0 ci_8 rfl rfl (Nat.le_of_ble_eq_true rfl) ⟨(Nat.le_of_ble_eq_true rfl), (Nat.le_of_ble_eq_true rfl)⟩ (mcc (by omega)) ?_
            intro r460 μ459
            refine ll_if_ne E (pc := 198) (tgt := 463) dL_bundles_198 rfl ?_ ?_
            · refine ll_iconst E (pc := 463) dL_bundles_463 kc_0 ?_
              exact ll_mzreturn E hr (fun _ _ => wp0) rfl dL_bundles_464 (by omega)
            · exact ll_lo (lo' := [some (.ref (ad 0))]) ⟨rfl, trivial⟩ (kL_bundles_L201 E X hr μ459 _ (by omega))
set_option maxRecDepth 20000 in
theorem cmL_bundles {l : Launch} {D : va_G} {cI cR : ClassId} {μ : Mem} (hl9 : l.stackTraces = false) {r : Int32} {μ' : Mem} (hf : fL_bundles μ = some (r, μ')) : CM l yL_bundles (.code yL_bundles cL_bundles 1 (some .boolean)) 14 8785 D cI cR (fun _ => 0) shX 0 [] μ (some (.int r)) μ' :=
  cm_of (own := RL) (ov := fun (r : Int32) => (some (.int r))) hl9 (by decide +kernel) rfl (Nat.le_of_ble_eq_true rfl) (fun p e s m below meth c A0 E X hr => by
    refine ll_lo (lo' := [none]) trivial ?_
    rw [fL_bundles]
    refine ll_newX E (pc := 0) wn_29 wn_1 wn_2 wn_c179 wn_3 wn_4 dL_bundles_0 dL_bundles_3 dL_bundles_4 (Nat.le_of_ble_eq_true rfl) ⟨(Nat.le_of_ble_eq_true rfl), (Nat.le_of_ble_eq_true rfl)⟩ (mcd (by omega)) (fun ad E => ?_)
    refine ll_astore_n E (pc := 7) (lo' := [some (.ref (ad 0))]) dL_bundles_7 (Nat.le_of_ble_eq_true rfl) rfl rfl ?_
    refine ll_aload_n E (pc := 8) dL_bundles_8 rfl ?_
    refine ll_bipush E (pc := 9) dL_bundles_9 kb_10 ?_
    refine ll_iconst E (pc := 11) dL_bundles_11 kc_0 ?_
    refine ll_iconst E (pc := 12) dL_bundles_12 kc_0 ?_
    refine ll_iconst E (pc := 13) dL_bundles_13 kc_0 ?_
    refine ll_iconst E (pc := 14) dL_bundles_14 kc_0 ?_
    refine ll_mcallH E X (pc := 15) (d := 10) [.ref (ad 0), .int (10 : Int32), .int (0 : Int32), .int (0 : Int32), .int (0 : Int32), .int (0 : Int32)] [] dL_bundles_15 cvH_L_161 (fun h => cmL_call X.1 h) rfl rfl (Nat.le_of_ble_eq_true rfl) ⟨(Nat.le_of_ble_eq_true rfl), (Nat.le_of_ble_eq_true rfl)⟩ (mcd (by omega)) ?_
    intro r462 μ461
    refine ll_sipush E (pc := 18) dL_bundles_18 ks_m2013 ?_
    refine ll_icmp_ne E (pc := 21) (tgt := 463) dL_bundles_21 rfl ?_ ?_
    · refine ll_iconst E (pc := 463) dL_bundles_463 kc_0 ?_
      exact ll_mzreturn E hr (fun _ _ => wp0) rfl dL_bundles_464 (by omega)
    · refine ll_aload_n E (pc := 24) dL_bundles_24 rfl ?_
      refine ll_bipush E (pc := 25) dL_bundles_25 kb_11 ?_
      refine ll_iconst E (pc := 27) dL_bundles_27 kc_0 ?_
      refine ll_iconst E (pc := 28) dL_bundles_28 kc_0 ?_
      refine ll_iconst E (pc := 29) dL_bundles_29 kc_0 ?_
      refine ll_iconst E (pc := 30) dL_bundles_30 kc_0 ?_
      refine ll_mcallH E X (pc := 31) (d := 10) [.ref (ad 0), .int (11 : Int32), .int (0 : Int32), .int (0 : Int32), .int (0 : Int32), .int (0 : Int32)] [] dL_bundles_31 cvH_L_161 (fun h => cmL_call X.1 h) rfl rfl (Nat.le_of_ble_eq_true rfl) ⟨(Nat.le_of_ble_eq_true rfl), (Nat.le_of_ble_eq_true rfl)⟩ (mcd (by omega)) ?_
      intro r464 μ463
      refine ll_sipush E (pc := 34) dL_bundles_34 ks_m2013 ?_
      refine ll_icmp_ne E (pc := 37) (tgt := 463) dL_bundles_37 rfl ?_ ?_
      · refine ll_iconst E (pc := 463) dL_bundles_463 kc_0 ?_
        exact ll_mzreturn E hr (fun _ _ => wp0) rfl dL_bundles_464 (by omega)
      · refine ll_aload_n E (pc := 40) dL_bundles_40 rfl ?_
        refine ll_callVi E (pc := 41) (d := 5) (ci := 8) (o9 := 0) [] [] dL_bundles_41 cv_L_180 (fun h => ctX8_pack h) (Nat.le_of_ble_eq_true rfl) sx_0 ci_8 rfl rfl (Nat.le_of_ble_eq_true rfl) ⟨(Nat.le_of_ble_eq_true rfl), (Nat.le_of_ble_eq_true rfl)⟩ (mcc (by omega)) ?_
        intro r466 μ465
        refine ll_if_ne E (pc := 44) (tgt := 463) dL_bundles_44 rfl ?_ ?_
        · refine ll_iconst E (pc := 463) dL_bundles_463 kc_0 ?_
          exact ll_mzreturn E hr (fun _ _ => wp0) rfl dL_bundles_464 (by omega)
        · refine ll_aload_n E (pc := 47) dL_bundles_47 rfl ?_
          refine ll_callVi E (pc := 48) (d := 2) (ci := 8) (o9 := 0) [] [] dL_bundles_48 cv_L_143 (fun h => ctX8_bundles h) (Nat.le_of_ble_eq_true rfl) sx_0 ci_8 rfl rfl (Nat.le_of_ble_eq_true rfl) ⟨(Nat.le_of_ble_eq_true rfl), (Nat.le_of_ble_eq_true rfl)⟩ (mcc (by omega)) ?_
          intro r468 μ467
          refine ll_if_ne E (pc := 51) (tgt := 463) dL_bundles_51 rfl ?_ ?_
          · refine ll_iconst E (pc := 463) dL_bundles_463 kc_0 ?_
            exact ll_mzreturn E hr (fun _ _ => wp0) rfl dL_bundles_464 (by omega)
          · refine ll_aload_n E (pc := 54) dL_bundles_54 rfl ?_
            refine ll_callVi E (pc := 55) (d := 5) (ci := 8) (o9 := 0) [] [] dL_bundles_55 cv_L_146 (fun h => ctX8_whyWrong h) (Nat.le_of_ble_eq_true rfl) sx_0 ci_8 rfl rfl (Nat.le_of_ble_eq_true rfl) ⟨(Nat.le_of_ble_eq_true rfl), (Nat.le_of_ble_eq_true rfl)⟩ (mcc (by omega)) ?_
            intro r470 μ469
            refine ll_if_ne E (pc := 58) (tgt := 463) dL_bundles_58 rfl ?_ ?_
            · refine ll_iconst E (pc := 463) dL_bundles_463 kc_0 ?_
              exact ll_mzreturn E hr (fun _ _ => wp0) rfl dL_bundles_464 (by omega)
            · refine ll_aload_n E (pc := 61) dL_bundles_61 rfl ?_
              refine ll_callVi E (pc := 62) (d := 5) (ci := 8) (o9 := 0) [] [] dL_bundles_62 cv_L_149 (fun h => ctX8_wrongAt h) (Nat.le_of_ble_eq_true rfl) sx_0 ci_8 rfl rfl (Nat.le_of_ble_eq_true rfl) ⟨(Nat.le_of_ble_eq_true rfl), (Nat.le_of_ble_eq_true rfl)⟩ (mcc (by omega)) ?_
              intro r472 μ471
              refine ll_iconst E (pc := 65) dL_bundles_65 kc_m1 ?_
              refine ll_icmp_ne E (pc := 66) (tgt := 463) dL_bundles_66 rfl ?_ ?_
              · refine ll_iconst E (pc := 463) dL_bundles_463 kc_0 ?_
                exact ll_mzreturn E hr (fun _ _ => wp0) rfl dL_bundles_464 (by omega)
              · refine ll_aload_n E (pc := 69) dL_bundles_69 rfl ?_
                refine ll_callVd E (pc := 70) (d := 2) (ci := 8) (o9 := 0) [] [] dL_bundles_70 cv_L_183 (fun h => ctX8_filledShare h) (Nat.le_of_ble_eq_true rfl) sx_0 ci_8 rfl rfl (Nat.le_of_ble_eq_true rfl) ⟨(Nat.le_of_ble_eq_true rfl), (Nat.le_of_ble_eq_true rfl)⟩ (mcc (by omega)) ?_
                intro r474 μ473
                refine ll_dconst0 E (pc := 73) dL_bundles_73 ?_
                refine ll_dcmp E (pc := 74) dL_bundles_74 ?_
                refine ll_if_ne E (pc := 75) (tgt := 463) dL_bundles_75 rfl ?_ ?_
                · refine ll_iconst E (pc := 463) dL_bundles_463 kc_0 ?_
                  exact ll_mzreturn E hr (fun _ _ => wp0) rfl dL_bundles_464 (by omega)
                · refine ll_aload_n E (pc := 78) dL_bundles_78 rfl ?_
                  refine ll_callVi E (pc := 79) (d := 6) (ci := 8) (o9 := 0) [] [] dL_bundles_79 cv_L_187 (fun h => ctX8_doesAgree h) (Nat.le_of_ble_eq_true rfl) sx_0 ci_8 rfl rfl (Nat.le_of_ble_eq_true rfl) ⟨(Nat.le_of_ble_eq_true rfl), (Nat.le_of_ble_eq_true rfl)⟩ (mcc (by omega)) ?_
                  intro r476 μ475
                  refine ll_if_eq E (pc := 82) (tgt := 463) dL_bundles_82 rfl ?_ ?_
                  · refine ll_iconst E (pc := 463) dL_bundles_463 kc_0 ?_
                    exact ll_mzreturn E hr (fun _ _ => wp0) rfl dL_bundles_464 (by omega)
                  · refine ll_aload_n E (pc := 85) dL_bundles_85 rfl ?_
                    refine ll_callVi E (pc := 86) (d := 3) (ci := 8) (o9 := 0) [] [] dL_bundles_86 cv_L_155 (fun h => ctX8_beatByUnits h) (Nat.le_of_ble_eq_true rfl) sx_0 ci_8 rfl rfl (Nat.le_of_ble_eq_true rfl) ⟨(Nat.le_of_ble_eq_true rfl), (Nat.le_of_ble_eq_true rfl)⟩ (mcc (by omega)) ?_
                    intro r478 μ477
                    refine ll_iconst E (pc := 89) dL_bundles_89 kc_1 ?_
                    refine ll_icmp_ne E (pc := 90) (tgt := 463) dL_bundles_90 rfl ?_ ?_
                    · refine ll_iconst E (pc := 463) dL_bundles_463 kc_0 ?_
                      exact ll_mzreturn E hr (fun _ _ => wp0) rfl dL_bundles_464 (by omega)
                    · refine ll_aload_n E (pc := 93) dL_bundles_93 rfl ?_
                      refine ll_callVi E (pc := 94) (d := 6) (ci := 8) (o9 := 0) [] [] dL_bundles_94 cv_L_191 (fun h => ctX8_beatByCircles h) (Nat.le_of_ble_eq_true rfl) sx_0 ci_8 rfl rfl (Nat.le_of_ble_eq_true rfl) ⟨(Nat.le_of_ble_eq_true rfl), (Nat.le_of_ble_eq_true rfl)⟩ (mcc (by omega)) ?_
                      intro r480 μ479
                      refine ll_iconst E (pc := 97) dL_bundles_97 kc_1 ?_
                      refine ll_icmp_ne E (pc := 98) (tgt := 463) dL_bundles_98 rfl ?_ ?_
                      · refine ll_iconst E (pc := 463) dL_bundles_463 kc_0 ?_
                        exact ll_mzreturn E hr (fun _ _ => wp0) rfl dL_bundles_464 (by omega)
                      · refine ll_aload_n E (pc := 101) dL_bundles_101 rfl ?_
                        refine ll_callVi E (pc := 102) (d := 6) (ci := 8) (o9 := 0) [] [] dL_bundles_102 cv_L_194 (fun h => ctX8_beat h) (Nat.le_of_ble_eq_true rfl) sx_0 ci_8 rfl rfl (Nat.le_of_ble_eq_true rfl) ⟨(Nat.le_of_ble_eq_true rfl), (Nat.le_of_ble_eq_true rfl)⟩ (mcc (by omega)) ?_
                        intro r482 μ481
                        refine ll_iconst E (pc := 105) dL_bundles_105 kc_2 ?_
                        refine ll_icmp_ne E (pc := 106) (tgt := 463) dL_bundles_106 rfl ?_ ?_
                        · refine ll_iconst E (pc := 463) dL_bundles_463 kc_0 ?_
                          exact ll_mzreturn E hr (fun _ _ => wp0) rfl dL_bundles_464 (by omega)
                        · refine ll_aload_n E (pc := 109) dL_bundles_109 rfl ?_
                          refine ll_callVi E (pc := 110) (d := 6) (ci := 8) (o9 := 0) [] [] dL_bundles_110 cv_L_158 (fun h => ctX8_jumpBundle h) (Nat.le_of_ble_eq_true rfl) sx_0 ci_8 rfl rfl (Nat.le_of_ble_eq_true rfl) ⟨(Nat.le_of_ble_eq_true rfl), (Nat.le_of_ble_eq_true rfl)⟩ (mcc (by omega)) ?_
                          intro r484 μ483
                          refine ll_if_ne E (pc := 113) (tgt := 463) dL_bundles_113 rfl ?_ ?_
                          · refine ll_iconst E (pc := 463) dL_bundles_463 kc_0 ?_
                            exact ll_mzreturn E hr (fun _ _ => wp0) rfl dL_bundles_464 (by omega)
                          · refine ll_aload_n E (pc := 116) dL_bundles_116 rfl ?_
                            refine ll_callVi E (pc := 117) (d := 6) (ci := 8) (o9 := 0) [] [] dL_bundles_117 cv_L_197 (fun h => ctX8_overlap h) (Nat.le_of_ble_eq_true rfl) sx_0 ci_8 rfl rfl (Nat.le_of_ble_eq_true rfl) ⟨(Nat.le_of_ble_eq_true rfl), (Nat.le_of_ble_eq_true rfl)⟩ (mcc (by omega)) ?_
                            intro r486 μ485
                            refine ll_if_ne E (pc := 120) (tgt := 463) dL_bundles_120 rfl ?_ ?_
                            · refine ll_iconst E (pc := 463) dL_bundles_463 kc_0 ?_
                              exact ll_mzreturn E hr (fun _ _ => wp0) rfl dL_bundles_464 (by omega)
                            · refine ll_aload_n E (pc := 123) dL_bundles_123 rfl ?_
                              refine ll_bipush E (pc := 124) dL_bundles_124 kb_20 ?_
                              refine ll_ycallVi E X (pc := 126) (d := 8) (mc1 := 1) (ci := 8) (o9 := 0) [.int (20 : Int32)] [] dL_bundles_126 cv_L_127 (fun h => cxX8_loopBundles X.1 h) (Nat.le_of_ble_eq_true rfl) sx_0 ci_8 rfl rfl (Nat.le_of_ble_eq_true rfl) ⟨(Nat.le_of_ble_eq_true rfl), (Nat.le_of_ble_eq_true rfl)⟩ (mcd (by omega)) ?_
                              intro r488 μ487
                              refine ll_if_ne E (pc := 129) (tgt := 463) dL_bundles_129 rfl ?_ ?_
                              · refine ll_iconst E (pc := 463) dL_bundles_463 kc_0 ?_
                                exact ll_mzreturn E hr (fun _ _ => wp0) rfl dL_bundles_464 (by omega)
                              · refine ll_aload_n E (pc := 132) dL_bundles_132 rfl ?_
                                refine ll_callVi E (pc := 133) (d := 5) (ci := 8) (o9 := 0) [] [] dL_bundles_133 cv_L_200 (fun h => ctX8_spanByEarliest h) (Nat.le_of_ble_eq_true rfl) sx_0 ci_8 rfl rfl (Nat.le_of_ble_eq_true rfl) ⟨(Nat.le_of_ble_eq_true rfl), (Nat.le_of_ble_eq_true rfl)⟩ (mcc (by omega)) ?_
                                intro r490 μ489
                                refine ll_if_ne E (pc := 136) (tgt := 463) dL_bundles_136 rfl ?_ ?_
                                · refine ll_iconst E (pc := 463) dL_bundles_463 kc_0 ?_
                                  exact ll_mzreturn E hr (fun _ _ => wp0) rfl dL_bundles_464 (by omega)
                                · refine ll_aload_n E (pc := 139) dL_bundles_139 rfl ?_
                                  refine ll_mcallSi E X (pc := 140) (d := 12) [.ref (ad 0)] [] dL_bundles_140 cv_L_203 (fun h => cmL_refused X.1 h) rfl rfl (Nat.le_of_ble_eq_true rfl) ⟨(Nat.le_of_ble_eq_true rfl), (Nat.le_of_ble_eq_true rfl)⟩ (mcd (by omega)) ?_
                                  intro r492 μ491
                                  refine ll_if_eq E (pc := 143) (tgt := 463) dL_bundles_143 rfl ?_ ?_
                                  · refine ll_iconst E (pc := 463) dL_bundles_463 kc_0 ?_
                                    exact ll_mzreturn E hr (fun _ _ => wp0) rfl dL_bundles_464 (by omega)
                                  · exact ll_lo (lo' := [some (.ref (ad 0))]) ⟨rfl, trivial⟩ (kL_bundles_L146 E X hr μ491 _ (by omega))) hf
