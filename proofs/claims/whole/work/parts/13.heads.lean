def vs_X7_add : List Cond := .code yX7_add cX7_add 3 none :: zT
def rm_X7_add : Room := { frames := 0, cells := 0, slots := 0, locals := 0 }
theorem cw_X7_add {rm R : Room} {s : State} {args : Array Value} {own : String} {index : Nat} {c0 : Cond} (hts : ∀ w ∈ c0 :: zT, w.before args s = true) (hml : Cond.methodLink own index yX7_add ∈ zT) (hrc : rm.cells = 0) (hrs : rm.slots = 0) (hR : rm.frames + 1 ≤ R.frames ∧ 8 + (3 + 11) + rm.locals ≤ R.locals) : CallW R s args own RX7 index yX7_add cX7_add 3 none vs_X7_add rm 0 0 1 :=
  zwV 1 hts hml mw_311 mw_312 mw_2 mw_313 hrc hrs (by decide +kernel) hR
def vs_X11_feed : List Cond := .code yX11_feed cX11_feed 6 (some .int) :: zT
def rm_X11_feed : Room := { frames := 1, cells := 0, slots := 0, locals := 22 }
theorem cw_X11_feed {rm R : Room} {s : State} {args : Array Value} {own : String} {index : Nat} {c0 : Cond} (hts : ∀ w ∈ c0 :: zT, w.before args s = true) (hml : Cond.methodLink own index yX11_feed ∈ zT) (hrc : rm.cells = 0) (hrs : rm.slots = 0) (hR : rm.frames + 1 ≤ R.frames ∧ 8 + (6 + 11) + rm.locals ≤ R.locals) : CallW R s args own RX11 index yX11_feed cX11_feed 6 (some .int) vs_X11_feed rm 0 0 5 :=
  zwV 5 hts hml mw_307 mw_308 mw_1 mw_309 hrc hrs (by decide +kernel) hR
def vs_X11_end : List Cond := .code yX11_end cX11_end 2 (some .boolean) :: zT
def rm_X11_end : Room := { frames := 0, cells := 0, slots := 0, locals := 0 }
theorem cw_X11_end {rm R : Room} {s : State} {args : Array Value} {own : String} {index : Nat} {c0 : Cond} (hts : ∀ w ∈ c0 :: zT, w.before args s = true) (hml : Cond.methodLink own index yX11_end ∈ zT) (hrc : rm.cells = 0) (hrs : rm.slots = 0) (hR : rm.frames + 1 ≤ R.frames ∧ 8 + (2 + 11) + rm.locals ≤ R.locals) : CallW R s args own RX11 index yX11_end cX11_end 2 (some .boolean) vs_X11_end rm 0 0 1 :=
  zwV 1 hts hml mw_315 mw_316 mw_1 mw_317 hrc hrs (by decide +kernel) hR
def vs_X4_clear : List Cond := .code yX4_clear cX4_clear 1 none :: zT
def rm_X4_clear : Room := { frames := 0, cells := 0, slots := 0, locals := 0 }
theorem cw_X4_clear {rm R : Room} {s : State} {args : Array Value} {own : String} {index : Nat} {c0 : Cond} (hts : ∀ w ∈ c0 :: zT, w.before args s = true) (hml : Cond.methodLink own index yX4_clear ∈ zT) (hrc : rm.cells = 0) (hrs : rm.slots = 0) (hR : rm.frames + 1 ≤ R.frames ∧ 8 + (1 + 11) + rm.locals ≤ R.locals) : CallW R s args own RX4 index yX4_clear cX4_clear 1 none vs_X4_clear rm 0 0 0 :=
  zwV 0 hts hml mw_327 mw_328 mw_4 mw_329 hrc hrs (by decide +kernel) hR
def vs_X6_clear : List Cond := .code yX6_clear cX6_clear 1 none :: zT
def rm_X6_clear : Room := { frames := 0, cells := 0, slots := 0, locals := 0 }
theorem cw_X6_clear {rm R : Room} {s : State} {args : Array Value} {own : String} {index : Nat} {c0 : Cond} (hts : ∀ w ∈ c0 :: zT, w.before args s = true) (hml : Cond.methodLink own index yX6_clear ∈ zT) (hrc : rm.cells = 0) (hrs : rm.slots = 0) (hR : rm.frames + 1 ≤ R.frames ∧ 8 + (1 + 11) + rm.locals ≤ R.locals) : CallW R s args own RX6 index yX6_clear cX6_clear 1 none vs_X6_clear rm 0 0 0 :=
  zwV 0 hts hml mw_331 mw_332 mw_5 mw_333 hrc hrs (by decide +kernel) hR
def vs_X7_at : List Cond := .code yX7_at cX7_at 2 (some .int) :: zT
def rm_X7_at : Room := { frames := 0, cells := 0, slots := 0, locals := 0 }
theorem cw_X7_at {rm R : Room} {s : State} {args : Array Value} {own : String} {index : Nat} {c0 : Cond} (hts : ∀ w ∈ c0 :: zT, w.before args s = true) (hml : Cond.methodLink own index yX7_at ∈ zT) (hrc : rm.cells = 0) (hrs : rm.slots = 0) (hR : rm.frames + 1 ≤ R.frames ∧ 8 + (2 + 11) + rm.locals ≤ R.locals) : CallW R s args own RX7 index yX7_at cX7_at 2 (some .int) vs_X7_at rm 0 0 1 :=
  zwV 1 hts hml mw_342 mw_343 mw_2 mw_344 hrc hrs (by decide +kernel) hR
def vs_X8_isBlank : List Cond := .code yX8_isBlank cX8_isBlank 1 (some .boolean) :: zT
def rm_X8_isBlank : Room := { frames := 0, cells := 0, slots := 0, locals := 0 }
theorem cw_X8_isBlank {R : Room} {s : State} {args : Array Value} {own : String} {index : Nat} {c0 : Cond} (hts : ∀ w ∈ c0 :: zT, w.before args s = true) (hml : Cond.methodLink own index yX8_isBlank ∈ zT) (hR : rm_X8_isBlank.frames + 1 ≤ R.frames ∧ 8 + (1 + 11) + rm_X8_isBlank.locals ≤ R.locals) : CallB R s args own index yX8_isBlank cX8_isBlank 1 (some .boolean) vs_X8_isBlank rm_X8_isBlank 0 0 1 ∧ (Cond.static yX8_isBlank).before args s = true :=
  zwS 1 hts hml mw_346 mw_7 mw_347 rfl rfl (by decide +kernel) hR
def vs_X8_skipBlanks : List Cond := .code yX8_skipBlanks cX8_skipBlanks 2 none :: zT
def rm_X8_skipBlanks : Room := { frames := 1, cells := 0, slots := 0, locals := 21 }
theorem cw_X8_skipBlanks {rm R : Room} {s : State} {args : Array Value} {own : String} {index : Nat} {c0 : Cond} (hts : ∀ w ∈ c0 :: zT, w.before args s = true) (hml : Cond.methodLink own index yX8_skipBlanks ∈ zT) (hrc : rm.cells = 0) (hrs : rm.slots = 0) (hR : rm.frames + 1 ≤ R.frames ∧ 8 + (2 + 11) + rm.locals ≤ R.locals) : CallW R s args own RX8 index yX8_skipBlanks cX8_skipBlanks 2 none vs_X8_skipBlanks rm 0 0 0 :=
  zwV 0 hts hml mw_339 mw_1325 mw_7 mw_340 hrc hrs (by decide +kernel) hR
def vs_X8_isLetter : List Cond := .code yX8_isLetter cX8_isLetter 1 (some .boolean) :: zT
def rm_X8_isLetter : Room := { frames := 0, cells := 0, slots := 0, locals := 0 }
theorem cw_X8_isLetter {R : Room} {s : State} {args : Array Value} {own : String} {index : Nat} {c0 : Cond} (hts : ∀ w ∈ c0 :: zT, w.before args s = true) (hml : Cond.methodLink own index yX8_isLetter ∈ zT) (hR : rm_X8_isLetter.frames + 1 ≤ R.frames ∧ 8 + (1 + 11) + rm_X8_isLetter.locals ≤ R.locals) : CallB R s args own index yX8_isLetter cX8_isLetter 1 (some .boolean) vs_X8_isLetter rm_X8_isLetter 0 0 1 ∧ (Cond.static yX8_isLetter).before args s = true :=
  zwS 1 hts hml mw_352 mw_7 mw_353 rfl rfl (by decide +kernel) hR
def vs_X8_isDigit : List Cond := .code yX8_isDigit cX8_isDigit 1 (some .boolean) :: zT
def rm_X8_isDigit : Room := { frames := 0, cells := 0, slots := 0, locals := 0 }
theorem cw_X8_isDigit {R : Room} {s : State} {args : Array Value} {own : String} {index : Nat} {c0 : Cond} (hts : ∀ w ∈ c0 :: zT, w.before args s = true) (hml : Cond.methodLink own index yX8_isDigit ∈ zT) (hR : rm_X8_isDigit.frames + 1 ≤ R.frames ∧ 8 + (1 + 11) + rm_X8_isDigit.locals ≤ R.locals) : CallB R s args own index yX8_isDigit cX8_isDigit 1 (some .boolean) vs_X8_isDigit rm_X8_isDigit 0 0 1 ∧ (Cond.static yX8_isDigit).before args s = true :=
  zwS 1 hts hml mw_355 mw_7 mw_356 rfl rfl (by decide +kernel) hR
def vs_X8_number : List Cond := .code yX8_number cX8_number 3 (some .int) :: zT
def rm_X8_number : Room := { frames := 1, cells := 0, slots := 0, locals := 21 }
theorem cw_X8_number {rm R : Room} {s : State} {args : Array Value} {own : String} {index : Nat} {c0 : Cond} (hts : ∀ w ∈ c0 :: zT, w.before args s = true) (hml : Cond.methodLink own index yX8_number ∈ zT) (hrc : rm.cells = 0) (hrs : rm.slots = 0) (hR : rm.frames + 1 ≤ R.frames ∧ 8 + (3 + 11) + rm.locals ≤ R.locals) : CallW R s args own RX8 index yX8_number cX8_number 3 (some .int) vs_X8_number rm 0 0 0 :=
  zwV 0 hts hml mw_361 mw_1328 mw_7 mw_362 hrc hrs (by decide +kernel) hR
def vs_X8_word : List Cond := .code yX8_word cX8_word 3 (some .int) :: zT
def rm_X8_word : Room := { frames := 1, cells := 0, slots := 0, locals := 21 }
theorem cw_X8_word {rm R : Room} {s : State} {args : Array Value} {own : String} {index : Nat} {c0 : Cond} (hts : ∀ w ∈ c0 :: zT, w.before args s = true) (hml : Cond.methodLink own index yX8_word ∈ zT) (hrc : rm.cells = 0) (hrs : rm.slots = 0) (hR : rm.frames + 1 ≤ R.frames ∧ 8 + (3 + 11) + rm.locals ≤ R.locals) : CallW R s args own RX8 index yX8_word cX8_word 3 (some .int) vs_X8_word rm 0 0 0 :=
  zwV 0 hts hml mw_358 mw_1327 mw_7 mw_359 hrc hrs (by decide +kernel) hR
def vs_X8_cutOne : List Cond := .code yX8_cutOne cX8_cutOne 2 (some .int) :: zT
def rm_X8_cutOne : Room := { frames := 2, cells := 0, slots := 0, locals := 43 }
theorem cw_X8_cutOne {rm R : Room} {s : State} {args : Array Value} {own : String} {index : Nat} {c0 : Cond} (hts : ∀ w ∈ c0 :: zT, w.before args s = true) (hml : Cond.methodLink own index yX8_cutOne ∈ zT) (hrc : rm.cells = 0) (hrs : rm.slots = 0) (hR : rm.frames + 1 ≤ R.frames ∧ 8 + (2 + 11) + rm.locals ≤ R.locals) : CallW R s args own RX8 index yX8_cutOne cX8_cutOne 2 (some .int) vs_X8_cutOne rm 0 0 0 :=
  zwV 0 hts hml mw_349 mw_1326 mw_7 mw_350 hrc hrs (by decide +kernel) hR
def vs_X8_cut : List Cond := .code yX8_cut cX8_cut 5 none :: zT
def rm_X8_cut : Room := { frames := 3, cells := 0, slots := 0, locals := 64 }
theorem cw_X8_cut {rm R : Room} {s : State} {args : Array Value} {own : String} {index : Nat} {c0 : Cond} (hts : ∀ w ∈ c0 :: zT, w.before args s = true) (hml : Cond.methodLink own index yX8_cut ∈ zT) (hrc : rm.cells = 0) (hrs : rm.slots = 0) (hR : rm.frames + 1 ≤ R.frames ∧ 8 + (5 + 11) + rm.locals ≤ R.locals) : CallW R s args own RX8 index yX8_cut cX8_cut 5 none vs_X8_cut rm 0 0 0 :=
  zwV 0 hts hml mw_335 mw_336 mw_7 mw_337 hrc hrs (by decide +kernel) hR
def vs_X5_take : List Cond := .code yX5_take cX5_take 2 (some .boolean) :: zT
def rm_X5_take : Room := { frames := 0, cells := 0, slots := 0, locals := 0 }
theorem cw_X5_take {rm R : Room} {s : State} {args : Array Value} {own : String} {index : Nat} {c0 : Cond} (hts : ∀ w ∈ c0 :: zT, w.before args s = true) (hml : Cond.methodLink own index yX5_take ∈ zT) (hrc : rm.cells = 0) (hrs : rm.slots = 0) (hR : rm.frames + 1 ≤ R.frames ∧ 8 + (2 + 11) + rm.locals ≤ R.locals) : CallW R s args own RX5 index yX5_take cX5_take 2 (some .boolean) vs_X5_take rm 0 0 0 :=
  zwV 0 hts hml mw_364 mw_1329 mw_6 mw_365 hrc hrs (by decide +kernel) hR
def vs_X5_fail : List Cond := .code yX5_fail cX5_fail 3 (some .boolean) :: zT
def rm_X5_fail : Room := { frames := 0, cells := 0, slots := 0, locals := 0 }
theorem cw_X5_fail {rm R : Room} {s : State} {args : Array Value} {own : String} {index : Nat} {c0 : Cond} (hts : ∀ w ∈ c0 :: zT, w.before args s = true) (hml : Cond.methodLink own index yX5_fail ∈ zT) (hrc : rm.cells = 0) (hrs : rm.slots = 0) (hR : rm.frames + 1 ≤ R.frames ∧ 8 + (3 + 11) + rm.locals ≤ R.locals) : CallW R s args own RX5 index yX5_fail cX5_fail 3 (some .boolean) vs_X5_fail rm 0 0 2 :=
  zwV 2 hts hml mw_370 mw_1331 mw_6 mw_371 hrc hrs (by decide +kernel) hR
def vs_X5_seesName : List Cond := .code yX5_seesName cX5_seesName 1 (some .boolean) :: zT
def rm_X5_seesName : Room := { frames := 1, cells := 0, slots := 0, locals := 22 }
theorem cw_X5_seesName {rm R : Room} {s : State} {args : Array Value} {own : String} {index : Nat} {c0 : Cond} (hts : ∀ w ∈ c0 :: zT, w.before args s = true) (hml : Cond.methodLink own index yX5_seesName ∈ zT) (hrc : rm.cells = 0) (hrs : rm.slots = 0) (hR : rm.frames + 1 ≤ R.frames ∧ 8 + (1 + 11) + rm.locals ≤ R.locals) : CallW R s args own RX5 index yX5_seesName cX5_seesName 1 (some .boolean) vs_X5_seesName rm 0 0 0 :=
  zwV 0 hts hml mw_373 mw_1332 mw_6 mw_374 hrc hrs (by decide +kernel) hR
def vs_X4_numberOf : List Cond := .code yX4_numberOf cX4_numberOf 3 (some .int) :: zT
def rm_X4_numberOf : Room := { frames := 0, cells := 0, slots := 0, locals := 0 }
theorem cw_X4_numberOf {rm R : Room} {s : State} {args : Array Value} {own : String} {index : Nat} {c0 : Cond} (hts : ∀ w ∈ c0 :: zT, w.before args s = true) (hml : Cond.methodLink own index yX4_numberOf ∈ zT) (hrc : rm.cells = 0) (hrs : rm.slots = 0) (hR : rm.frames + 1 ≤ R.frames ∧ 8 + (3 + 11) + rm.locals ≤ R.locals) : CallW R s args own RX4 index yX4_numberOf cX4_numberOf 3 (some .int) vs_X4_numberOf rm 0 0 1 :=
  zwV 1 hts hml mw_376 mw_377 mw_4 mw_378 hrc hrs (by decide +kernel) hR
def vs_X5_takeWord : List Cond := .code yX5_takeWord cX5_takeWord 2 (some .boolean) :: zT
def rm_X5_takeWord : Room := { frames := 1, cells := 0, slots := 0, locals := 22 }
theorem cw_X5_takeWord {rm R : Room} {s : State} {args : Array Value} {own : String} {index : Nat} {c0 : Cond} (hts : ∀ w ∈ c0 :: zT, w.before args s = true) (hml : Cond.methodLink own index yX5_takeWord ∈ zT) (hrc : rm.cells = 0) (hrs : rm.slots = 0) (hR : rm.frames + 1 ≤ R.frames ∧ 8 + (2 + 11) + rm.locals ≤ R.locals) : CallW R s args own RX5 index yX5_takeWord cX5_takeWord 2 (some .boolean) vs_X5_takeWord rm 0 0 1 :=
  zwV 1 hts hml mw_380 mw_1333 mw_6 mw_381 hrc hrs (by decide +kernel) hR
def vs_X5_seesNumber : List Cond := .code yX5_seesNumber cX5_seesNumber 2 (some .boolean) :: zT
def rm_X5_seesNumber : Room := { frames := 1, cells := 0, slots := 0, locals := 22 }
theorem cw_X5_seesNumber {rm R : Room} {s : State} {args : Array Value} {own : String} {index : Nat} {c0 : Cond} (hts : ∀ w ∈ c0 :: zT, w.before args s = true) (hml : Cond.methodLink own index yX5_seesNumber ∈ zT) (hrc : rm.cells = 0) (hrs : rm.slots = 0) (hR : rm.frames + 1 ≤ R.frames ∧ 8 + (2 + 11) + rm.locals ≤ R.locals) : CallW R s args own RX5 index yX5_seesNumber cX5_seesNumber 2 (some .boolean) vs_X5_seesNumber rm 0 0 1 :=
  zwV 1 hts hml mw_383 mw_1334 mw_6 mw_384 hrc hrs (by decide +kernel) hR
def vs_X3_count : List Cond := .code yX3_count cX3_count 1 (some .int) :: zT
def rm_X3_count : Room := { frames := 0, cells := 0, slots := 0, locals := 0 }
theorem cw_X3_count {R : Room} {s : State} {args : Array Value} {own : String} {index : Nat} {c0 : Cond} (hts : ∀ w ∈ c0 :: zT, w.before args s = true) (hml : Cond.methodLink own index yX3_count ∈ zT) (hR : rm_X3_count.frames + 1 ≤ R.frames ∧ 8 + (1 + 11) + rm_X3_count.locals ≤ R.locals) : CallB R s args own index yX3_count cX3_count 1 (some .int) vs_X3_count rm_X3_count 0 0 1 ∧ (Cond.static yX3_count).before args s = true :=
  zwS 1 hts hml mw_218 mw_3 mw_219 rfl rfl (by decide +kernel) hR
def vs_X4_add : List Cond := .code yX4_add cX4_add 3 none :: zT
def rm_X4_add : Room := { frames := 1, cells := 0, slots := 0, locals := 20 }
theorem cw_X4_add {rm R : Room} {s : State} {args : Array Value} {own : String} {index : Nat} {c0 : Cond} (hts : ∀ w ∈ c0 :: zT, w.before args s = true) (hml : Cond.methodLink own index yX4_add ∈ zT) (hrc : rm.cells = 0) (hrs : rm.slots = 0) (hR : rm.frames + 1 ≤ R.frames ∧ 8 + (3 + 11) + rm.locals ≤ R.locals) : CallW R s args own RX4 index yX4_add cX4_add 3 none vs_X4_add rm 0 0 2 :=
  zwV 2 hts hml mw_386 mw_387 mw_4 mw_388 hrc hrs (by decide +kernel) hR
def vs_X5_readWho : List Cond := .code yX5_readWho cX5_readWho 2 (some .boolean) :: zT
def rm_X5_readWho : Room := { frames := 2, cells := 0, slots := 0, locals := 43 }
theorem cw_X5_readWho {rm R : Room} {s : State} {args : Array Value} {own : String} {index : Nat} {c0 : Cond} (hts : ∀ w ∈ c0 :: zT, w.before args s = true) (hml : Cond.methodLink own index yX5_readWho ∈ zT) (hrc : rm.cells = 0) (hrs : rm.slots = 0) (hR : rm.frames + 1 ≤ R.frames ∧ 8 + (2 + 11) + rm.locals ≤ R.locals) : CallW R s args own RX5 index yX5_readWho cX5_readWho 2 (some .boolean) vs_X5_readWho rm 0 0 0 :=
  zwV 0 hts hml mw_367 mw_1330 mw_6 mw_368 hrc hrs (by decide +kernel) hR
def vs_X5_isSign : List Cond := .code yX5_isSign cX5_isSign 2 (some .boolean) :: zT
def rm_X5_isSign : Room := { frames := 0, cells := 0, slots := 0, locals := 0 }
theorem cw_X5_isSign {rm R : Room} {s : State} {args : Array Value} {own : String} {index : Nat} {c0 : Cond} (hts : ∀ w ∈ c0 :: zT, w.before args s = true) (hml : Cond.methodLink own index yX5_isSign ∈ zT) (hrc : rm.cells = 0) (hrs : rm.slots = 0) (hR : rm.frames + 1 ≤ R.frames ∧ 8 + (2 + 11) + rm.locals ≤ R.locals) : CallW R s args own RX5 index yX5_isSign cX5_isSign 2 (some .boolean) vs_X5_isSign rm 0 0 1 :=
  zwV 1 hts hml mw_408 mw_1339 mw_6 mw_409 hrc hrs (by decide +kernel) hR
def vs_X5_takeSign : List Cond := .code yX5_takeSign cX5_takeSign 2 (some .boolean) :: zT
def rm_X5_takeSign : Room := { frames := 1, cells := 0, slots := 0, locals := 22 }
theorem cw_X5_takeSign {rm R : Room} {s : State} {args : Array Value} {own : String} {index : Nat} {c0 : Cond} (hts : ∀ w ∈ c0 :: zT, w.before args s = true) (hml : Cond.methodLink own index yX5_takeSign ∈ zT) (hrc : rm.cells = 0) (hrs : rm.slots = 0) (hR : rm.frames + 1 ≤ R.frames ∧ 8 + (2 + 11) + rm.locals ≤ R.locals) : CallW R s args own RX5 index yX5_takeSign cX5_takeSign 2 (some .boolean) vs_X5_takeSign rm 0 0 1 :=
  zwV 1 hts hml mw_414 mw_1341 mw_6 mw_415 hrc hrs (by decide +kernel) hR
def vs_X5_takeOpening : List Cond := .code yX5_takeOpening cX5_takeOpening 1 (some .boolean) :: zT
def rm_X5_takeOpening : Room := { frames := 1, cells := 0, slots := 0, locals := 22 }
theorem cw_X5_takeOpening {rm R : Room} {s : State} {args : Array Value} {own : String} {index : Nat} {c0 : Cond} (hts : ∀ w ∈ c0 :: zT, w.before args s = true) (hml : Cond.methodLink own index yX5_takeOpening ∈ zT) (hrc : rm.cells = 0) (hrs : rm.slots = 0) (hR : rm.frames + 1 ≤ R.frames ∧ 8 + (1 + 11) + rm.locals ≤ R.locals) : CallW R s args own RX5 index yX5_takeOpening cX5_takeOpening 1 (some .boolean) vs_X5_takeOpening rm 0 0 0 :=
  zwV 0 hts hml mw_411 mw_1340 mw_6 mw_412 hrc hrs (by decide +kernel) hR
def vs_X6_emit : List Cond := .code yX6_emit cX6_emit 2 none :: zT
def rm_X6_emit : Room := { frames := 0, cells := 0, slots := 0, locals := 0 }
theorem cw_X6_emit {rm R : Room} {s : State} {args : Array Value} {own : String} {index : Nat} {c0 : Cond} (hts : ∀ w ∈ c0 :: zT, w.before args s = true) (hml : Cond.methodLink own index yX6_emit ∈ zT) (hrc : rm.cells = 0) (hrs : rm.slots = 0) (hR : rm.frames + 1 ≤ R.frames ∧ 8 + (2 + 11) + rm.locals ≤ R.locals) : CallW R s args own RX6 index yX6_emit cX6_emit 2 none vs_X6_emit rm 0 0 1 :=
  zwV 1 hts hml mw_404 mw_405 mw_5 mw_406 hrc hrs (by decide +kernel) hR
def vs_X5_readChoice : List Cond := .code yX5_readChoice cX5_readChoice 2 (some .boolean) :: zT
theorem cw_X5_readChoice {rm R : Room} {s : State} {args : Array Value} {own : String} {index : Nat} {c0 : Cond} (hts : ∀ w ∈ c0 :: zT, w.before args s = true) (hml : Cond.methodLink own index yX5_readChoice ∈ zT) (hrc : rm.cells = 0) (hrs : rm.slots = 0) (hR : rm.frames + 1 ≤ R.frames ∧ 8 + (2 + 11) + rm.locals ≤ R.locals) : CallW R s args own RX5 index yX5_readChoice cX5_readChoice 2 (some .boolean) vs_X5_readChoice rm 0 0 1 :=
  zwV 1 hts hml mw_417 mw_1342 mw_6 mw_418 hrc hrs (by decide +kernel) hR
def vs_X5_readPart : List Cond := .code yX5_readPart cX5_readPart 1 (some .boolean) :: zT
theorem cw_X5_readPart {rm R : Room} {s : State} {args : Array Value} {own : String} {index : Nat} {c0 : Cond} (hts : ∀ w ∈ c0 :: zT, w.before args s = true) (hml : Cond.methodLink own index yX5_readPart ∈ zT) (hrc : rm.cells = 0) (hrs : rm.slots = 0) (hR : rm.frames + 1 ≤ R.frames ∧ 8 + (1 + 11) + rm.locals ≤ R.locals) : CallW R s args own RX5 index yX5_readPart cX5_readPart 1 (some .boolean) vs_X5_readPart rm 0 0 0 :=
  zwV 0 hts hml mw_400 mw_1338 mw_6 mw_401 hrc hrs (by decide +kernel) hR
def vs_X5_readProduct : List Cond := .code yX5_readProduct cX5_readProduct 3 (some .boolean) :: zT
theorem cw_X5_readProduct {rm R : Room} {s : State} {args : Array Value} {own : String} {index : Nat} {c0 : Cond} (hts : ∀ w ∈ c0 :: zT, w.before args s = true) (hml : Cond.methodLink own index yX5_readProduct ∈ zT) (hrc : rm.cells = 0) (hrs : rm.slots = 0) (hR : rm.frames + 1 ≤ R.frames ∧ 8 + (3 + 11) + rm.locals ≤ R.locals) : CallW R s args own RX5 index yX5_readProduct cX5_readProduct 3 (some .boolean) vs_X5_readProduct rm 0 0 0 :=
  zwV 0 hts hml mw_397 mw_1337 mw_6 mw_398 hrc hrs (by decide +kernel) hR
def vs_X5_readSum : List Cond := .code yX5_readSum cX5_readSum 3 (some .boolean) :: zT
theorem cw_X5_readSum {rm R : Room} {s : State} {args : Array Value} {own : String} {index : Nat} {c0 : Cond} (hts : ∀ w ∈ c0 :: zT, w.before args s = true) (hml : Cond.methodLink own index yX5_readSum ∈ zT) (hrc : rm.cells = 0) (hrs : rm.slots = 0) (hR : rm.frames + 1 ≤ R.frames ∧ 8 + (3 + 11) + rm.locals ≤ R.locals) : CallW R s args own RX5 index yX5_readSum cX5_readSum 3 (some .boolean) vs_X5_readSum rm 0 0 0 :=
  zwV 0 hts hml mw_394 mw_1336 mw_6 mw_395 hrc hrs (by decide +kernel) hR
def vs_X5_readBoth : List Cond := .code yX5_readBoth cX5_readBoth 2 (some .boolean) :: zT
theorem cw_X5_readBoth {rm R : Room} {s : State} {args : Array Value} {own : String} {index : Nat} {c0 : Cond} (hts : ∀ w ∈ c0 :: zT, w.before args s = true) (hml : Cond.methodLink own index yX5_readBoth ∈ zT) (hrc : rm.cells = 0) (hrs : rm.slots = 0) (hR : rm.frames + 1 ≤ R.frames ∧ 8 + (2 + 11) + rm.locals ≤ R.locals) : CallW R s args own RX5 index yX5_readBoth cX5_readBoth 2 (some .boolean) vs_X5_readBoth rm 0 0 0 :=
  zwV 0 hts hml mw_423 mw_1344 mw_6 mw_424 hrc hrs (by decide +kernel) hR
def vs_X5_readTest : List Cond := .code yX5_readTest cX5_readTest 2 (some .boolean) :: zT
theorem cw_X5_readTest {rm R : Room} {s : State} {args : Array Value} {own : String} {index : Nat} {c0 : Cond} (hts : ∀ w ∈ c0 :: zT, w.before args s = true) (hml : Cond.methodLink own index yX5_readTest ∈ zT) (hrc : rm.cells = 0) (hrs : rm.slots = 0) (hR : rm.frames + 1 ≤ R.frames ∧ 8 + (2 + 11) + rm.locals ≤ R.locals) : CallW R s args own RX5 index yX5_readTest cX5_readTest 2 (some .boolean) vs_X5_readTest rm 0 0 0 :=
  zwV 0 hts hml mw_420 mw_1343 mw_6 mw_421 hrc hrs (by decide +kernel) hR
def vs_X5_readComparison : List Cond := .code yX5_readComparison cX5_readComparison 2 (some .boolean) :: zT
def rm_X5_readComparison : Room := { frames := 49, cells := 0, slots := 0, locals := 1602 }
theorem cw_X5_readComparison {rm R : Room} {s : State} {args : Array Value} {own : String} {index : Nat} {c0 : Cond} (hts : ∀ w ∈ c0 :: zT, w.before args s = true) (hml : Cond.methodLink own index yX5_readComparison ∈ zT) (hrc : rm.cells = 0) (hrs : rm.slots = 0) (hR : rm.frames + 1 ≤ R.frames ∧ 8 + (2 + 11) + rm.locals ≤ R.locals) : CallW R s args own RX5 index yX5_readComparison cX5_readComparison 2 (some .boolean) vs_X5_readComparison rm 0 0 0 :=
  zwV 0 hts hml mw_432 mw_1347 mw_6 mw_433 hrc hrs (by decide +kernel) hR
def vs_X5_seesPerson : List Cond := .code yX5_seesPerson cX5_seesPerson 3 (some .boolean) :: zT
def rm_X5_seesPerson : Room := { frames := 2, cells := 0, slots := 0, locals := 42 }
theorem cw_X5_seesPerson {rm R : Room} {s : State} {args : Array Value} {own : String} {index : Nat} {c0 : Cond} (hts : ∀ w ∈ c0 :: zT, w.before args s = true) (hml : Cond.methodLink own index yX5_seesPerson ∈ zT) (hrc : rm.cells = 0) (hrs : rm.slots = 0) (hR : rm.frames + 1 ≤ R.frames ∧ 8 + (3 + 11) + rm.locals ≤ R.locals) : CallW R s args own RX5 index yX5_seesPerson cX5_seesPerson 3 (some .boolean) vs_X5_seesPerson rm 0 0 1 :=
  zwV 1 hts hml mw_429 mw_1346 mw_6 mw_430 hrc hrs (by decide +kernel) hR
def vs_X5_readFact : List Cond := .code yX5_readFact cX5_readFact 1 (some .boolean) :: zT
theorem cw_X5_readFact {rm R : Room} {s : State} {args : Array Value} {own : String} {index : Nat} {c0 : Cond} (hts : ∀ w ∈ c0 :: zT, w.before args s = true) (hml : Cond.methodLink own index yX5_readFact ∈ zT) (hrc : rm.cells = 0) (hrs : rm.slots = 0) (hR : rm.frames + 1 ≤ R.frames ∧ 8 + (1 + 11) + rm.locals ≤ R.locals) : CallW R s args own RX5 index yX5_readFact cX5_readFact 1 (some .boolean) vs_X5_readFact rm 0 0 0 :=
  zwV 0 hts hml mw_426 mw_1345 mw_6 mw_427 hrc hrs (by decide +kernel) hR
def vs_X6_add : List Cond := .code yX6_add cX6_add 4 none :: zT
def rm_X6_add : Room := { frames := 0, cells := 0, slots := 0, locals := 0 }
theorem cw_X6_add {rm R : Room} {s : State} {args : Array Value} {own : String} {index : Nat} {c0 : Cond} (hts : ∀ w ∈ c0 :: zT, w.before args s = true) (hml : Cond.methodLink own index yX6_add ∈ zT) (hrc : rm.cells = 0) (hrs : rm.slots = 0) (hR : rm.frames + 1 ≤ R.frames ∧ 8 + (4 + 11) + rm.locals ≤ R.locals) : CallW R s args own RX6 index yX6_add cX6_add 4 none vs_X6_add rm 0 0 3 :=
  zwV 3 hts hml mw_435 mw_436 mw_5 mw_437 hrc hrs (by decide +kernel) hR
def vs_X5_readRule : List Cond := .code yX5_readRule cX5_readRule 4 (some .boolean) :: zT
def rm_X5_readRule : Room := { frames := 100, cells := 0, slots := 0, locals := 3391 }
theorem cw_X5_readRule {rm R : Room} {s : State} {args : Array Value} {own : String} {index : Nat} {c0 : Cond} (hts : ∀ w ∈ c0 :: zT, w.before args s = true) (hml : Cond.methodLink own index yX5_readRule ∈ zT) (hrc : rm.cells = 0) (hrs : rm.slots = 0) (hR : rm.frames + 1 ≤ R.frames ∧ 8 + (4 + 11) + rm.locals ≤ R.locals) : CallW R s args own RX5 index yX5_readRule cX5_readRule 4 (some .boolean) vs_X5_readRule rm 0 0 1 :=
  zwV 1 hts hml mw_391 mw_1335 mw_6 mw_392 hrc hrs (by decide +kernel) hR
def vs_X3_number : List Cond := .code yX3_number cX3_number 4 (some .int) :: zT
def rm_X3_number : Room := { frames := 1, cells := 0, slots := 0, locals := 60 }
theorem cw_X3_number {R : Room} {s : State} {args : Array Value} {own : String} {index : Nat} {c0 : Cond} (hts : ∀ w ∈ c0 :: zT, w.before args s = true) (hml : Cond.methodLink own index yX3_number ∈ zT) (hR : rm_X3_number.frames + 1 ≤ R.frames ∧ 8 + (4 + 11) + rm_X3_number.locals ≤ R.locals) : CallB R s args own index yX3_number cX3_number 4 (some .int) vs_X3_number rm_X3_number 0 0 2 ∧ (Cond.static yX3_number).before args s = true :=
  zwS 2 hts hml mw_442 mw_3 mw_443 rfl rfl (by decide +kernel) hR
def vs_X5_readBar : List Cond := .code yX5_readBar cX5_readBar 2 (some .boolean) :: zT
def rm_X5_readBar : Room := { frames := 3, cells := 0, slots := 0, locals := 83 }
theorem cw_X5_readBar {rm R : Room} {s : State} {args : Array Value} {own : String} {index : Nat} {c0 : Cond} (hts : ∀ w ∈ c0 :: zT, w.before args s = true) (hml : Cond.methodLink own index yX5_readBar ∈ zT) (hrc : rm.cells = 0) (hrs : rm.slots = 0) (hR : rm.frames + 1 ≤ R.frames ∧ 8 + (2 + 11) + rm.locals ≤ R.locals) : CallW R s args own RX5 index yX5_readBar cX5_readBar 2 (some .boolean) vs_X5_readBar rm 0 0 0 :=
  zwV 0 hts hml mw_439 mw_1348 mw_6 mw_440 hrc hrs (by decide +kernel) hR
def vs_X4_isPerson : List Cond := .code yX4_isPerson cX4_isPerson 2 (some .boolean) :: zT
def rm_X4_isPerson : Room := { frames := 0, cells := 0, slots := 0, locals := 0 }
theorem cw_X4_isPerson {rm R : Room} {s : State} {args : Array Value} {own : String} {index : Nat} {c0 : Cond} (hts : ∀ w ∈ c0 :: zT, w.before args s = true) (hml : Cond.methodLink own index yX4_isPerson ∈ zT) (hrc : rm.cells = 0) (hrs : rm.slots = 0) (hR : rm.frames + 1 ≤ R.frames ∧ 8 + (2 + 11) + rm.locals ≤ R.locals) : CallW R s args own RX4 index yX4_isPerson cX4_isPerson 2 (some .boolean) vs_X4_isPerson rm 0 0 1 :=
  zwV 1 hts hml mw_454 mw_455 mw_4 mw_456 hrc hrs (by decide +kernel) hR
def vs_X5_readMost : List Cond := .code yX5_readMost cX5_readMost 2 (some .boolean) :: zT
def rm_X5_readMost : Room := { frames := 3, cells := 0, slots := 0, locals := 64 }
theorem cw_X5_readMost {rm R : Room} {s : State} {args : Array Value} {own : String} {index : Nat} {c0 : Cond} (hts : ∀ w ∈ c0 :: zT, w.before args s = true) (hml : Cond.methodLink own index yX5_readMost ∈ zT) (hrc : rm.cells = 0) (hrs : rm.slots = 0) (hR : rm.frames + 1 ≤ R.frames ∧ 8 + (2 + 11) + rm.locals ≤ R.locals) : CallW R s args own RX5 index yX5_readMost cX5_readMost 2 (some .boolean) vs_X5_readMost rm 0 0 0 :=
  zwV 0 hts hml mw_451 mw_1349 mw_6 mw_452 hrc hrs (by decide +kernel) hR
def vs_X5_read : List Cond := .code yX5_read cX5_read 3 (some .boolean) :: zT
def rm_X5_read : Room := { frames := 101, cells := 0, slots := 0, locals := 3414 }
theorem cw_X5_read {rm R : Room} {s : State} {args : Array Value} {own : String} {index : Nat} {c0 : Cond} (hts : ∀ w ∈ c0 :: zT, w.before args s = true) (hml : Cond.methodLink own index yX5_read ∈ zT) (hrc : rm.cells = 0) (hrs : rm.slots = 0) (hR : rm.frames + 1 ≤ R.frames ∧ 8 + (3 + 11) + rm.locals ≤ R.locals) : CallW R s args own RX5 index yX5_read cX5_read 3 (some .boolean) vs_X5_read rm 0 0 0 :=
  zwV 0 hts hml mw_323 mw_324 mw_6 mw_325 hrc hrs (by decide +kernel) hR
def vs_X4_copy : List Cond := .code yX4_copy cX4_copy 2 none :: zT
def rm_X4_copy : Room := { frames := 1, cells := 0, slots := 0, locals := 60 }
theorem cw_X4_copy {rm R : Room} {s : State} {args : Array Value} {own : String} {index : Nat} {c0 : Cond} (hts : ∀ w ∈ c0 :: zT, w.before args s = true) (hml : Cond.methodLink own index yX4_copy ∈ zT) (hrc : rm.cells = 0) (hrs : rm.slots = 0) (hR : rm.frames + 1 ≤ R.frames ∧ 8 + (2 + 11) + rm.locals ≤ R.locals) : CallW R s args own RX4 index yX4_copy cX4_copy 2 none vs_X4_copy rm 0 0 1 :=
  zwV 1 hts hml mw_458 mw_459 mw_4 mw_460 hrc hrs (by decide +kernel) hR
def vs_X6_copy : List Cond := .code yX6_copy cX6_copy 2 none :: zT
def rm_X6_copy : Room := { frames := 1, cells := 0, slots := 0, locals := 60 }
theorem cw_X6_copy {rm R : Room} {s : State} {args : Array Value} {own : String} {index : Nat} {c0 : Cond} (hts : ∀ w ∈ c0 :: zT, w.before args s = true) (hml : Cond.methodLink own index yX6_copy ∈ zT) (hrc : rm.cells = 0) (hrs : rm.slots = 0) (hR : rm.frames + 1 ≤ R.frames ∧ 8 + (2 + 11) + rm.locals ≤ R.locals) : CallW R s args own RX6 index yX6_copy cX6_copy 2 none vs_X6_copy rm 0 0 1 :=
  zwV 1 hts hml mw_465 mw_466 mw_5 mw_467 hrc hrs (by decide +kernel) hR
def vs_J7_fill_d0a16 : List Cond := .code yJ7_fill_d0a16 cJ7_fill_d0a16 5 none :: zT
def rm_J7_fill_d0a16 : Room := { frames := 0, cells := 0, slots := 0, locals := 0 }
theorem cw_J7_fill_d0a16 {R : Room} {s : State} {args : Array Value} {own : String} {index : Nat} {c0 : Cond} (hts : ∀ w ∈ c0 :: zT, w.before args s = true) (hml : Cond.methodLink own index yJ7_fill_d0a16 ∈ zT) (hR : rm_J7_fill_d0a16.frames + 1 ≤ R.frames ∧ 8 + (5 + 11) + rm_J7_fill_d0a16.locals ≤ R.locals) : CallB R s args own index yJ7_fill_d0a16 cJ7_fill_d0a16 5 none vs_J7_fill_d0a16 rm_J7_fill_d0a16 0 0 2 ∧ (Cond.static yJ7_fill_d0a16).before args s = true :=
  zwS 2 hts hml mw_277 mw_17 mw_278 rfl rfl (by decide +kernel) hR
def vs_X10_pretend : List Cond := .code yX10_pretend cX10_pretend 3 none :: zT
def rm_X10_pretend : Room := { frames := 0, cells := 0, slots := 0, locals := 0 }
theorem cw_X10_pretend {rm R : Room} {s : State} {args : Array Value} {own : String} {index : Nat} {c0 : Cond} (hts : ∀ w ∈ c0 :: zT, w.before args s = true) (hml : Cond.methodLink own index yX10_pretend ∈ zT) (hrc : rm.cells = 0) (hrs : rm.slots = 0) (hR : rm.frames + 1 ≤ R.frames ∧ 8 + (3 + 11) + rm.locals ≤ R.locals) : CallW R s args own RX10 index yX10_pretend cX10_pretend 3 none vs_X10_pretend rm 0 0 2 :=
  zwV 2 hts hml mw_285 mw_286 mw_12 mw_287 hrc hrs (by decide +kernel) hR
def vs_X10_startAnew : List Cond := .code yX10_startAnew cX10_startAnew 1 none :: zT
def rm_X10_startAnew : Room := { frames := 1, cells := 0, slots := 0, locals := 24 }
theorem cw_X10_startAnew {rm R : Room} {s : State} {args : Array Value} {own : String} {index : Nat} {c0 : Cond} (hts : ∀ w ∈ c0 :: zT, w.before args s = true) (hml : Cond.methodLink own index yX10_startAnew ∈ zT) (hrc : rm.cells = 0) (hrs : rm.slots = 0) (hR : rm.frames + 1 ≤ R.frames ∧ 8 + (1 + 11) + rm.locals ≤ R.locals) : CallW R s args own RX10 index yX10_startAnew cX10_startAnew 1 none vs_X10_startAnew rm 0 0 0 :=
  zwV 0 hts hml mw_280 mw_281 mw_12 mw_282 hrc hrs (by decide +kernel) hR
def vs_X11_forget : List Cond := .code yX11_forget cX11_forget 1 none :: zT
def rm_X11_forget : Room := { frames := 2, cells := 0, slots := 0, locals := 44 }
theorem cw_X11_forget {rm R : Room} {s : State} {args : Array Value} {own : String} {index : Nat} {c0 : Cond} (hts : ∀ w ∈ c0 :: zT, w.before args s = true) (hml : Cond.methodLink own index yX11_forget ∈ zT) (hrc : rm.cells = 0) (hrs : rm.slots = 0) (hR : rm.frames + 1 ≤ R.frames ∧ 8 + (1 + 11) + rm.locals ≤ R.locals) : CallW R s args own RX11 index yX11_forget cX11_forget 1 none vs_X11_forget rm 0 0 0 :=
  zwV 0 hts hml mw_272 mw_1324 mw_1 mw_273 hrc hrs (by decide +kernel) hR
def vs_X11_land : List Cond := .code yX11_land cX11_land 2 (some .int) :: zT
def rm_X11_land : Room := { frames := 102, cells := 0, slots := 0, locals := 3436 }
theorem cw_X11_land {rm R : Room} {s : State} {args : Array Value} {own : String} {index : Nat} {c0 : Cond} (hts : ∀ w ∈ c0 :: zT, w.before args s = true) (hml : Cond.methodLink own index yX11_land ∈ zT) (hrc : rm.cells = 0) (hrs : rm.slots = 0) (hR : rm.frames + 1 ≤ R.frames ∧ 8 + (2 + 11) + rm.locals ≤ R.locals) : CallW R s args own RX11 index yX11_land cX11_land 2 (some .int) vs_X11_land rm 0 0 0 :=
  zwV 0 hts hml mw_319 mw_320 mw_1 mw_321 hrc hrs (by decide +kernel) hR
def vs_X11_fault : List Cond := .code yX11_fault cX11_fault 2 (some .int) :: zT
def rm_X11_fault : Room := { frames := 0, cells := 0, slots := 0, locals := 0 }
theorem cw_X11_fault {rm R : Room} {s : State} {args : Array Value} {own : String} {index : Nat} {c0 : Cond} (hts : ∀ w ∈ c0 :: zT, w.before args s = true) (hml : Cond.methodLink own index yX11_fault ∈ zT) (hrc : rm.cells = 0) (hrs : rm.slots = 0) (hR : rm.frames + 1 ≤ R.frames ∧ 8 + (2 + 11) + rm.locals ≤ R.locals) : CallW R s args own RX11 index yX11_fault cX11_fault 2 (some .int) vs_X11_fault rm 0 0 1 :=
  zwV 1 hts hml mw_470 mw_471 mw_1 mw_472 hrc hrs (by decide +kernel) hR
def vs_X6_countOf : List Cond := .code yX6_countOf cX6_countOf 4 (some .int) :: zT
def rm_X6_countOf : Room := { frames := 0, cells := 0, slots := 0, locals := 0 }
theorem cw_X6_countOf {rm R : Room} {s : State} {args : Array Value} {own : String} {index : Nat} {c0 : Cond} (hts : ∀ w ∈ c0 :: zT, w.before args s = true) (hml : Cond.methodLink own index yX6_countOf ∈ zT) (hrc : rm.cells = 0) (hrs : rm.slots = 0) (hR : rm.frames + 1 ≤ R.frames ∧ 8 + (4 + 11) + rm.locals ≤ R.locals) : CallW R s args own RX6 index yX6_countOf cX6_countOf 4 (some .int) vs_X6_countOf rm 0 0 1 :=
  zwV 1 hts hml mw_478 mw_479 mw_5 mw_480 hrc hrs (by decide +kernel) hR
def vs_J13_bitCount_95d88 : List Cond := .code yJ13_bitCount_95d88 cJ13_bitCount_95d88 2 (some .int) :: zT
def rm_J13_bitCount_95d88 : Room := { frames := 0, cells := 0, slots := 0, locals := 0 }
theorem cw_J13_bitCount_95d88 {R : Room} {s : State} {args : Array Value} {own : String} {index : Nat} {c0 : Cond} (hts : ∀ w ∈ c0 :: zT, w.before args s = true) (hml : Cond.methodLink own index yJ13_bitCount_95d88 ∈ zT) (hR : rm_J13_bitCount_95d88.frames + 1 ≤ R.frames ∧ 8 + (2 + 11) + rm_J13_bitCount_95d88.locals ≤ R.locals) : CallB R s args own index yJ13_bitCount_95d88 cJ13_bitCount_95d88 2 (some .int) vs_J13_bitCount_95d88 rm_J13_bitCount_95d88 0 0 1 ∧ (Cond.static yJ13_bitCount_95d88).before args s = true :=
  zwS 1 hts hml mw_482 mw_21 mw_483 rfl rfl (by decide +kernel) hR
def vs_X11_has : List Cond := .code yX11_has cX11_has 2 (some .int) :: zT
def rm_X11_has : Room := { frames := 1, cells := 0, slots := 0, locals := 23 }
theorem cw_X11_has {rm R : Room} {s : State} {args : Array Value} {own : String} {index : Nat} {c0 : Cond} (hts : ∀ w ∈ c0 :: zT, w.before args s = true) (hml : Cond.methodLink own index yX11_has ∈ zT) (hrc : rm.cells = 0) (hrs : rm.slots = 0) (hR : rm.frames + 1 ≤ R.frames ∧ 8 + (2 + 11) + rm.locals ≤ R.locals) : CallW R s args own RX11 index yX11_has cX11_has 2 (some .int) vs_X11_has rm 0 0 1 :=
  zwV 1 hts hml mw_474 mw_475 mw_1 mw_476 hrc hrs (by decide +kernel) hR
def vs_X11_letter : List Cond := .code yX11_letter cX11_letter 3 (some .int) :: zT
def rm_X11_letter : Room := { frames := 1, cells := 0, slots := 0, locals := 21 }
theorem cw_X11_letter {rm R : Room} {s : State} {args : Array Value} {own : String} {index : Nat} {c0 : Cond} (hts : ∀ w ∈ c0 :: zT, w.before args s = true) (hml : Cond.methodLink own index yX11_letter ∈ zT) (hrc : rm.cells = 0) (hrs : rm.slots = 0) (hR : rm.frames + 1 ≤ R.frames ∧ 8 + (3 + 11) + rm.locals ≤ R.locals) : CallW R s args own RX11 index yX11_letter cX11_letter 3 (some .int) vs_X11_letter rm 0 0 2 :=
  zwV 2 hts hml mw_488 mw_489 mw_1 mw_490 hrc hrs (by decide +kernel) hR
def vs_X4_isNet : List Cond := .code yX4_isNet cX4_isNet 3 (some .boolean) :: zT
def rm_X4_isNet : Room := { frames := 0, cells := 0, slots := 0, locals := 0 }
theorem cw_X4_isNet {rm R : Room} {s : State} {args : Array Value} {own : String} {index : Nat} {c0 : Cond} (hts : ∀ w ∈ c0 :: zT, w.before args s = true) (hml : Cond.methodLink own index yX4_isNet ∈ zT) (hrc : rm.cells = 0) (hrs : rm.slots = 0) (hR : rm.frames + 1 ≤ R.frames ∧ 8 + (3 + 11) + rm.locals ≤ R.locals) : CallW R s args own RX4 index yX4_isNet cX4_isNet 3 (some .boolean) vs_X4_isNet rm 0 0 1 :=
  zwV 1 hts hml mw_497 mw_498 mw_4 mw_499 hrc hrs (by decide +kernel) hR
def vs_X4_may : List Cond := .code yX4_may cX4_may 4 (some .boolean) :: zT
def rm_X4_may : Room := { frames := 1, cells := 0, slots := 0, locals := 21 }
theorem cw_X4_may {rm R : Room} {s : State} {args : Array Value} {own : String} {index : Nat} {c0 : Cond} (hts : ∀ w ∈ c0 :: zT, w.before args s = true) (hml : Cond.methodLink own index yX4_may ∈ zT) (hrc : rm.cells = 0) (hrs : rm.slots = 0) (hR : rm.frames + 1 ≤ R.frames ∧ 8 + (4 + 11) + rm.locals ≤ R.locals) : CallW R s args own RX4 index yX4_may cX4_may 4 (some .boolean) vs_X4_may rm 0 0 1 :=
  zwV 1 hts hml mw_501 mw_502 mw_4 mw_503 hrc hrs (by decide +kernel) hR
def vs_X11_net : List Cond := .code yX11_net cX11_net 3 (some .boolean) :: zT
def rm_X11_net : Room := { frames := 2, cells := 0, slots := 0, locals := 44 }
theorem cw_X11_net {rm R : Room} {s : State} {args : Array Value} {own : String} {index : Nat} {c0 : Cond} (hts : ∀ w ∈ c0 :: zT, w.before args s = true) (hml : Cond.methodLink own index yX11_net ∈ zT) (hrc : rm.cells = 0) (hrs : rm.slots = 0) (hR : rm.frames + 1 ≤ R.frames ∧ 8 + (3 + 11) + rm.locals ≤ R.locals) : CallW R s args own RX11 index yX11_net cX11_net 3 (some .boolean) vs_X11_net rm 0 0 1 :=
  zwV 1 hts hml mw_493 mw_494 mw_1 mw_495 hrc hrs (by decide +kernel) hR
def vs_X11_net_ : List Cond := .code yX11_net_ cX11_net_ 1 (some .long) :: zT
def rm_X11_net_ : Room := { frames := 0, cells := 0, slots := 0, locals := 0 }
theorem cw_X11_net_ {rm R : Room} {s : State} {args : Array Value} {own : String} {index : Nat} {c0 : Cond} (hts : ∀ w ∈ c0 :: zT, w.before args s = true) (hml : Cond.methodLink own index yX11_net_ ∈ zT) (hrc : rm.cells = 0) (hrs : rm.slots = 0) (hR : rm.frames + 1 ≤ R.frames ∧ 8 + (1 + 11) + rm.locals ≤ R.locals) : CallW R s args own RX11 index yX11_net_ cX11_net_ 1 (some .long) vs_X11_net_ rm 0 0 0 :=
  zwV 0 hts hml mw_506 mw_507 mw_1 mw_508 hrc hrs (by decide +kernel) hR
def vs_X3_within : List Cond := .code yX3_within cX3_within 7 (some .long) :: zT
def rm_X3_within : Room := { frames := 2, cells := 0, slots := 0, locals := 83 }
theorem cw_X3_within {rm R : Room} {s : State} {args : Array Value} {own : String} {index : Nat} {c0 : Cond} (hts : ∀ w ∈ c0 :: zT, w.before args s = true) (hml : Cond.methodLink own index yX3_within ∈ zT) (hrc : rm.cells = 0) (hrs : rm.slots = 0) (hR : rm.frames + 1 ≤ R.frames ∧ 8 + (7 + 11) + rm.locals ≤ R.locals) : CallW R s args own RX3 index yX3_within cX3_within 7 (some .long) vs_X3_within rm 0 0 2 :=
  zwV 2 hts hml mw_514 mw_515 mw_3 mw_516 hrc hrs (by decide +kernel) hR
def vs_X3_star : List Cond := .code yX3_star cX3_star 3 (some .long) :: zT
def rm_X3_star : Room := { frames := 1, cells := 0, slots := 0, locals := 20 }
theorem cw_X3_star {rm R : Room} {s : State} {args : Array Value} {own : String} {index : Nat} {c0 : Cond} (hts : ∀ w ∈ c0 :: zT, w.before args s = true) (hml : Cond.methodLink own index yX3_star ∈ zT) (hrc : rm.cells = 0) (hrs : rm.slots = 0) (hR : rm.frames + 1 ≤ R.frames ∧ 8 + (3 + 11) + rm.locals ≤ R.locals) : CallW R s args own RX3 index yX3_star cX3_star 3 (some .long) vs_X3_star rm 0 0 2 :=
  zwV 2 hts hml mw_519 mw_520 mw_3 mw_521 hrc hrs (by decide +kernel) hR
def vs_X3_circle : List Cond := .code yX3_circle cX3_circle 9 (some .long) :: zT
def rm_X3_circle : Room := { frames := 2, cells := 0, slots := 0, locals := 83 }
theorem cw_X3_circle {rm R : Room} {s : State} {args : Array Value} {own : String} {index : Nat} {c0 : Cond} (hts : ∀ w ∈ c0 :: zT, w.before args s = true) (hml : Cond.methodLink own index yX3_circle ∈ zT) (hrc : rm.cells = 0) (hrs : rm.slots = 0) (hR : rm.frames + 1 ≤ R.frames ∧ 8 + (9 + 11) + rm.locals ≤ R.locals) : CallW R s args own RX3 index yX3_circle cX3_circle 9 (some .long) vs_X3_circle rm 0 0 3 :=
  zwV 3 hts hml mw_524 mw_525 mw_3 mw_526 hrc hrs (by decide +kernel) hR
def vs_X11_shape : List Cond := .code yX11_shape cX11_shape 4 (some .long) :: zT
def rm_X11_shape : Room := { frames := 3, cells := 0, slots := 0, locals := 111 }
theorem cw_X11_shape {rm R : Room} {s : State} {args : Array Value} {own : String} {index : Nat} {c0 : Cond} (hts : ∀ w ∈ c0 :: zT, w.before args s = true) (hml : Cond.methodLink own index yX11_shape ∈ zT) (hrc : rm.cells = 0) (hrs : rm.slots = 0) (hR : rm.frames + 1 ≤ R.frames ∧ 8 + (4 + 11) + rm.locals ≤ R.locals) : CallW R s args own RX11 index yX11_shape cX11_shape 4 (some .long) vs_X11_shape rm 0 0 2 :=
  zwV 2 hts hml mw_510 mw_511 mw_1 mw_512 hrc hrs (by decide +kernel) hR
def vs_X11_canBeExtra : List Cond := .code yX11_canBeExtra cX11_canBeExtra 1 (some .boolean) :: zT
def rm_X11_canBeExtra : Room := { frames := 0, cells := 0, slots := 0, locals := 0 }
theorem cw_X11_canBeExtra {R : Room} {s : State} {args : Array Value} {own : String} {index : Nat} {c0 : Cond} (hts : ∀ w ∈ c0 :: zT, w.before args s = true) (hml : Cond.methodLink own index yX11_canBeExtra ∈ zT) (hR : rm_X11_canBeExtra.frames + 1 ≤ R.frames ∧ 8 + (1 + 11) + rm_X11_canBeExtra.locals ≤ R.locals) : CallB R s args own index yX11_canBeExtra cX11_canBeExtra 1 (some .boolean) vs_X11_canBeExtra rm_X11_canBeExtra 0 0 1 ∧ (Cond.static yX11_canBeExtra).before args s = true :=
  zwS 1 hts hml mw_532 mw_1 mw_533 rfl rfl (by decide +kernel) hR
def vs_X11_extra : List Cond := .code yX11_extra cX11_extra 2 (some .boolean) :: zT
def rm_X11_extra : Room := { frames := 1, cells := 0, slots := 0, locals := 20 }
theorem cw_X11_extra {rm R : Room} {s : State} {args : Array Value} {own : String} {index : Nat} {c0 : Cond} (hts : ∀ w ∈ c0 :: zT, w.before args s = true) (hml : Cond.methodLink own index yX11_extra ∈ zT) (hrc : rm.cells = 0) (hrs : rm.slots = 0) (hR : rm.frames + 1 ≤ R.frames ∧ 8 + (2 + 11) + rm.locals ≤ R.locals) : CallW R s args own RX11 index yX11_extra cX11_extra 2 (some .boolean) vs_X11_extra rm 0 0 1 :=
  zwV 1 hts hml mw_528 mw_529 mw_1 mw_530 hrc hrs (by decide +kernel) hR
def vs_X10_mix : List Cond := .code yX10_mix cX10_mix 2 (some .long) :: zT
def rm_X10_mix : Room := { frames := 0, cells := 0, slots := 0, locals := 0 }
theorem cw_X10_mix {R : Room} {s : State} {args : Array Value} {own : String} {index : Nat} {c0 : Cond} (hts : ∀ w ∈ c0 :: zT, w.before args s = true) (hml : Cond.methodLink own index yX10_mix ∈ zT) (hR : rm_X10_mix.frames + 1 ≤ R.frames ∧ 8 + (2 + 11) + rm_X10_mix.locals ≤ R.locals) : CallB R s args own index yX10_mix cX10_mix 2 (some .long) vs_X10_mix rm_X10_mix 0 0 1 ∧ (Cond.static yX10_mix).before args s = true :=
  zwS 1 hts hml mw_548 mw_12 mw_549 rfl rfl (by decide +kernel) hR
def vs_X10_lay : List Cond := .code yX10_lay cX10_lay 5 none :: zT
def rm_X10_lay : Room := { frames := 0, cells := 0, slots := 0, locals := 0 }
theorem cw_X10_lay {rm R : Room} {s : State} {args : Array Value} {own : String} {index : Nat} {c0 : Cond} (hts : ∀ w ∈ c0 :: zT, w.before args s = true) (hml : Cond.methodLink own index yX10_lay ∈ zT) (hrc : rm.cells = 0) (hrs : rm.slots = 0) (hR : rm.frames + 1 ≤ R.frames ∧ 8 + (5 + 11) + rm.locals ≤ R.locals) : CallW R s args own RX10 index yX10_lay cX10_lay 5 none vs_X10_lay rm 0 0 1 :=
  zwV 1 hts hml mw_554 mw_555 mw_12 mw_556 hrc hrs (by decide +kernel) hR
def vs_X10_spread : List Cond := .code yX10_spread cX10_spread 8 none :: zT
def rm_X10_spread : Room := { frames := 0, cells := 0, slots := 0, locals := 0 }
theorem cw_X10_spread {rm R : Room} {s : State} {args : Array Value} {own : String} {index : Nat} {c0 : Cond} (hts : ∀ w ∈ c0 :: zT, w.before args s = true) (hml : Cond.methodLink own index yX10_spread ∈ zT) (hrc : rm.cells = 0) (hrs : rm.slots = 0) (hR : rm.frames + 1 ≤ R.frames ∧ 8 + (8 + 11) + rm.locals ≤ R.locals) : CallW R s args own RX10 index yX10_spread cX10_spread 8 none vs_X10_spread rm 0 0 1 :=
  zwV 1 hts hml mw_558 mw_559 mw_12 mw_560 hrc hrs (by decide +kernel) hR
def vs_J6_bitCount_0f7a4 : List Cond := .code yJ6_bitCount_0f7a4 cJ6_bitCount_0f7a4 1 (some .int) :: zT
def rm_J6_bitCount_0f7a4 : Room := { frames := 0, cells := 0, slots := 0, locals := 0 }
theorem cw_J6_bitCount_0f7a4 {R : Room} {s : State} {args : Array Value} {own : String} {index : Nat} {c0 : Cond} (hts : ∀ w ∈ c0 :: zT, w.before args s = true) (hml : Cond.methodLink own index yJ6_bitCount_0f7a4 ∈ zT) (hR : rm_J6_bitCount_0f7a4.frames + 1 ≤ R.frames ∧ 8 + (1 + 11) + rm_J6_bitCount_0f7a4.locals ≤ R.locals) : CallB R s args own index yJ6_bitCount_0f7a4 cJ6_bitCount_0f7a4 1 (some .int) vs_J6_bitCount_0f7a4 rm_J6_bitCount_0f7a4 0 0 1 ∧ (Cond.static yJ6_bitCount_0f7a4).before args s = true :=
  zwS 1 hts hml mw_562 mw_22 mw_563 rfl rfl (by decide +kernel) hR
def vs_X6_apply : List Cond := .code yX6_apply cX6_apply 9 (some .int) :: zT
def rm_X6_apply : Room := { frames := 0, cells := 0, slots := 0, locals := 0 }
theorem cw_X6_apply {rm R : Room} {s : State} {args : Array Value} {own : String} {index : Nat} {c0 : Cond} (hts : ∀ w ∈ c0 :: zT, w.before args s = true) (hml : Cond.methodLink own index yX6_apply ∈ zT) (hrc : rm.cells = 0) (hrs : rm.slots = 0) (hR : rm.frames + 1 ≤ R.frames ∧ 8 + (9 + 11) + rm.locals ≤ R.locals) : CallW R s args own RX6 index yX6_apply cX6_apply 9 (some .int) vs_X6_apply rm 0 0 2 :=
  zwV 2 hts hml mw_576 mw_1351 mw_5 mw_577 hrc hrs (by decide +kernel) hR
def vs_X6_firstSum : List Cond := .code yX6_firstSum cX6_firstSum 5 (some .long) :: zT
def rm_X6_firstSum : Room := { frames := 1, cells := 0, slots := 0, locals := 28 }
theorem cw_X6_firstSum {rm R : Room} {s : State} {args : Array Value} {own : String} {index : Nat} {c0 : Cond} (hts : ∀ w ∈ c0 :: zT, w.before args s = true) (hml : Cond.methodLink own index yX6_firstSum ∈ zT) (hrc : rm.cells = 0) (hrs : rm.slots = 0) (hR : rm.frames + 1 ≤ R.frames ∧ 8 + (5 + 11) + rm.locals ≤ R.locals) : CallW R s args own RX6 index yX6_firstSum cX6_firstSum 5 (some .long) vs_X6_firstSum rm 0 0 1 :=
  zwV 1 hts hml mw_572 mw_573 mw_5 mw_574 hrc hrs (by decide +kernel) hR
def vs_X10_reckon : List Cond := .code yX10_reckon cX10_reckon 7 (some .long) :: zT
def rm_X10_reckon : Room := { frames := 2, cells := 0, slots := 0, locals := 60 }
theorem cw_X10_reckon {rm R : Room} {s : State} {args : Array Value} {own : String} {index : Nat} {c0 : Cond} (hts : ∀ w ∈ c0 :: zT, w.before args s = true) (hml : Cond.methodLink own index yX10_reckon ∈ zT) (hrc : rm.cells = 0) (hrs : rm.slots = 0) (hR : rm.frames + 1 ≤ R.frames ∧ 8 + (7 + 11) + rm.locals ≤ R.locals) : CallW R s args own RX10 index yX10_reckon cX10_reckon 7 (some .long) vs_X10_reckon rm 0 0 2 :=
  zwV 2 hts hml mw_551 mw_1350 mw_12 mw_552 hrc hrs (by decide +kernel) hR
def vs_X10_of : List Cond := .code yX10_of cX10_of 9 (some .long) :: zT
def rm_X10_of : Room := { frames := 3, cells := 0, slots := 0, locals := 86 }
theorem cw_X10_of {rm R : Room} {s : State} {args : Array Value} {own : String} {index : Nat} {c0 : Cond} (hts : ∀ w ∈ c0 :: zT, w.before args s = true) (hml : Cond.methodLink own index yX10_of ∈ zT) (hrc : rm.cells = 0) (hrs : rm.slots = 0) (hR : rm.frames + 1 ≤ R.frames ∧ 8 + (9 + 11) + rm.locals ≤ R.locals) : CallW R s args own RX10 index yX10_of cX10_of 9 (some .long) vs_X10_of rm 0 0 2 :=
  zwV 2 hts hml mw_543 mw_544 mw_12 mw_545 hrc hrs (by decide +kernel) hR
def vs_X10_inAll : List Cond := .code yX10_inAll cX10_inAll 6 (some .long) :: zT
def rm_X10_inAll : Room := { frames := 4, cells := 0, slots := 0, locals := 114 }
theorem cw_X10_inAll {rm R : Room} {s : State} {args : Array Value} {own : String} {index : Nat} {c0 : Cond} (hts : ∀ w ∈ c0 :: zT, w.before args s = true) (hml : Cond.methodLink own index yX10_inAll ∈ zT) (hrc : rm.cells = 0) (hrs : rm.slots = 0) (hR : rm.frames + 1 ≤ R.frames ∧ 8 + (6 + 11) + rm.locals ≤ R.locals) : CallW R s args own RX10 index yX10_inAll cX10_inAll 6 (some .long) vs_X10_inAll rm 0 0 1 :=
  zwV 1 hts hml mw_539 mw_540 mw_12 mw_541 hrc hrs (by decide +kernel) hR
def vs_X11_worth : List Cond := .code yX11_worth cX11_worth 2 (some .long) :: zT
def rm_X11_worth : Room := { frames := 5, cells := 0, slots := 0, locals := 139 }
theorem cw_X11_worth {rm R : Room} {s : State} {args : Array Value} {own : String} {index : Nat} {c0 : Cond} (hts : ∀ w ∈ c0 :: zT, w.before args s = true) (hml : Cond.methodLink own index yX11_worth ∈ zT) (hrc : rm.cells = 0) (hrs : rm.slots = 0) (hR : rm.frames + 1 ≤ R.frames ∧ 8 + (2 + 11) + rm.locals ≤ R.locals) : CallW R s args own RX11 index yX11_worth cX11_worth 2 (some .long) vs_X11_worth rm 0 0 1 :=
  zwV 1 hts hml mw_535 mw_536 mw_1 mw_537 hrc hrs (by decide +kernel) hR
def vs_X11_ways : List Cond := .code yX11_ways cX11_ways 3 (some .int) :: zT
def rm_X11_ways : Room := { frames := 1, cells := 0, slots := 0, locals := 27 }
theorem cw_X11_ways {rm R : Room} {s : State} {args : Array Value} {own : String} {index : Nat} {c0 : Cond} (hts : ∀ w ∈ c0 :: zT, w.before args s = true) (hml : Cond.methodLink own index yX11_ways ∈ zT) (hrc : rm.cells = 0) (hrs : rm.slots = 0) (hR : rm.frames + 1 ≤ R.frames ∧ 8 + (3 + 11) + rm.locals ≤ R.locals) : CallW R s args own RX11 index yX11_ways cX11_ways 3 (some .int) vs_X11_ways rm 0 0 2 :=
  zwV 2 hts hml mw_582 mw_583 mw_1 mw_584 hrc hrs (by decide +kernel) hR
def vs_X11_isKind : List Cond := .code yX11_isKind cX11_isKind 1 (some .boolean) :: zT
def rm_X11_isKind : Room := { frames := 0, cells := 0, slots := 0, locals := 0 }
theorem cw_X11_isKind {R : Room} {s : State} {args : Array Value} {own : String} {index : Nat} {c0 : Cond} (hts : ∀ w ∈ c0 :: zT, w.before args s = true) (hml : Cond.methodLink own index yX11_isKind ∈ zT) (hR : rm_X11_isKind.frames + 1 ≤ R.frames ∧ 8 + (1 + 11) + rm_X11_isKind.locals ≤ R.locals) : CallB R s args own index yX11_isKind cX11_isKind 1 (some .boolean) vs_X11_isKind rm_X11_isKind 0 0 1 ∧ (Cond.static yX11_isKind).before args s = true :=
  zwS 1 hts hml mw_592 mw_1 mw_593 rfl rfl (by decide +kernel) hR
def vs_X0_gains : List Cond := .code yX0_gains cX0_gains 6 (some .boolean) :: zT
def rm_X0_gains : Room := { frames := 4, cells := 0, slots := 0, locals := 114 }
theorem cw_X0_gains {rm R : Room} {s : State} {args : Array Value} {own : String} {index : Nat} {c0 : Cond} (hts : ∀ w ∈ c0 :: zT, w.before args s = true) (hml : Cond.methodLink own index yX0_gains ∈ zT) (hrc : rm.cells = 0) (hrs : rm.slots = 0) (hR : rm.frames + 1 ≤ R.frames ∧ 8 + (6 + 11) + rm.locals ≤ R.locals) : CallW R s args own RX0 index yX0_gains cX0_gains 6 (some .boolean) vs_X0_gains rm 0 0 3 :=
  zwV 3 hts hml mw_603 mw_1353 mw_13 mw_604 hrc hrs (by decide +kernel) hR
def vs_X0_found : List Cond := .code yX0_found cX0_found 5 (some .boolean) :: zT
def rm_X0_found : Room := { frames := 0, cells := 0, slots := 0, locals := 0 }
theorem cw_X0_found {rm R : Room} {s : State} {args : Array Value} {own : String} {index : Nat} {c0 : Cond} (hts : ∀ w ∈ c0 :: zT, w.before args s = true) (hml : Cond.methodLink own index yX0_found ∈ zT) (hrc : rm.cells = 0) (hrs : rm.slots = 0) (hR : rm.frames + 1 ≤ R.frames ∧ 8 + (5 + 11) + rm.locals ≤ R.locals) : CallW R s args own RX0 index yX0_found cX0_found 5 (some .boolean) vs_X0_found rm 0 0 3 :=
  zwV 3 hts hml mw_607 mw_1354 mw_13 mw_608 hrc hrs (by decide +kernel) hR
def vs_X0_firstCut : List Cond := .code yX0_firstCut cX0_firstCut 6 (some .boolean) :: zT
def rm_X0_firstCut : Room := { frames := 5, cells := 0, slots := 0, locals := 139 }
theorem cw_X0_firstCut {rm R : Room} {s : State} {args : Array Value} {own : String} {index : Nat} {c0 : Cond} (hts : ∀ w ∈ c0 :: zT, w.before args s = true) (hml : Cond.methodLink own index yX0_firstCut ∈ zT) (hrc : rm.cells = 0) (hrs : rm.slots = 0) (hR : rm.frames + 1 ≤ R.frames ∧ 8 + (6 + 11) + rm.locals ≤ R.locals) : CallW R s args own RX0 index yX0_firstCut cX0_firstCut 6 (some .boolean) vs_X0_firstCut rm 0 0 1 :=
  zwV 1 hts hml mw_599 mw_1352 mw_13 mw_600 hrc hrs (by decide +kernel) hR
def vs_X0_moves : List Cond := .code yX0_moves cX0_moves 11 (some .boolean) :: zT
def rm_X0_moves : Room := { frames := 4, cells := 0, slots := 0, locals := 114 }
theorem cw_X0_moves {rm R : Room} {s : State} {args : Array Value} {own : String} {index : Nat} {c0 : Cond} (hts : ∀ w ∈ c0 :: zT, w.before args s = true) (hml : Cond.methodLink own index yX0_moves ∈ zT) (hrc : rm.cells = 0) (hrs : rm.slots = 0) (hR : rm.frames + 1 ≤ R.frames ∧ 8 + (11 + 11) + rm.locals ≤ R.locals) : CallW R s args own RX0 index yX0_moves cX0_moves 11 (some .boolean) vs_X0_moves rm 0 0 2 :=
  zwV 2 hts hml mw_614 mw_615 mw_13 mw_616 hrc hrs (by decide +kernel) hR
def vs_X0_bothOf : List Cond := .code yX0_bothOf cX0_bothOf 2 (some .int) :: zT
def rm_X0_bothOf : Room := { frames := 0, cells := 0, slots := 0, locals := 0 }
theorem cw_X0_bothOf {rm R : Room} {s : State} {args : Array Value} {own : String} {index : Nat} {c0 : Cond} (hts : ∀ w ∈ c0 :: zT, w.before args s = true) (hml : Cond.methodLink own index yX0_bothOf ∈ zT) (hrc : rm.cells = 0) (hrs : rm.slots = 0) (hR : rm.frames + 1 ≤ R.frames ∧ 8 + (2 + 11) + rm.locals ≤ R.locals) : CallW R s args own RX0 index yX0_bothOf cX0_bothOf 2 (some .int) vs_X0_bothOf rm 0 0 1 :=
  zwV 1 hts hml mw_619 mw_1355 mw_13 mw_620 hrc hrs (by decide +kernel) hR
def vs_X0_firstAdd : List Cond := .code yX0_firstAdd cX0_firstAdd 4 (some .boolean) :: zT
def rm_X0_firstAdd : Room := { frames := 5, cells := 0, slots := 0, locals := 144 }
theorem cw_X0_firstAdd {rm R : Room} {s : State} {args : Array Value} {own : String} {index : Nat} {c0 : Cond} (hts : ∀ w ∈ c0 :: zT, w.before args s = true) (hml : Cond.methodLink own index yX0_firstAdd ∈ zT) (hrc : rm.cells = 0) (hrs : rm.slots = 0) (hR : rm.frames + 1 ≤ R.frames ∧ 8 + (4 + 11) + rm.locals ≤ R.locals) : CallW R s args own RX0 index yX0_firstAdd cX0_firstAdd 4 (some .boolean) vs_X0_firstAdd rm 0 0 1 :=
  zwV 1 hts hml mw_610 mw_611 mw_13 mw_612 hrc hrs (by decide +kernel) hR
def vs_X0_firstSeveral : List Cond := .code yX0_firstSeveral cX0_firstSeveral 9 (some .boolean) :: zT
def rm_X0_firstSeveral : Room := { frames := 5, cells := 0, slots := 0, locals := 139 }
theorem cw_X0_firstSeveral {rm R : Room} {s : State} {args : Array Value} {own : String} {index : Nat} {c0 : Cond} (hts : ∀ w ∈ c0 :: zT, w.before args s = true) (hml : Cond.methodLink own index yX0_firstSeveral ∈ zT) (hrc : rm.cells = 0) (hrs : rm.slots = 0) (hR : rm.frames + 1 ≤ R.frames ∧ 8 + (9 + 11) + rm.locals ≤ R.locals) : CallW R s args own RX0 index yX0_firstSeveral cX0_firstSeveral 9 (some .boolean) vs_X0_firstSeveral rm 0 0 1 :=
  zwV 1 hts hml mw_622 mw_1356 mw_13 mw_623 hrc hrs (by decide +kernel) hR
def vs_X0_swapsAway : List Cond := .code yX0_swapsAway cX0_swapsAway 9 (some .boolean) :: zT
def rm_X0_swapsAway : Room := { frames := 4, cells := 0, slots := 0, locals := 114 }
theorem cw_X0_swapsAway {rm R : Room} {s : State} {args : Array Value} {own : String} {index : Nat} {c0 : Cond} (hts : ∀ w ∈ c0 :: zT, w.before args s = true) (hml : Cond.methodLink own index yX0_swapsAway ∈ zT) (hrc : rm.cells = 0) (hrs : rm.slots = 0) (hR : rm.frames + 1 ≤ R.frames ∧ 8 + (9 + 11) + rm.locals ≤ R.locals) : CallW R s args own RX0 index yX0_swapsAway cX0_swapsAway 9 (some .boolean) vs_X0_swapsAway rm 0 0 3 :=
  zwV 3 hts hml mw_630 mw_1358 mw_13 mw_631 hrc hrs (by decide +kernel) hR
def vs_X0_firstSwap : List Cond := .code yX0_firstSwap cX0_firstSwap 5 (some .boolean) :: zT
def rm_X0_firstSwap : Room := { frames := 5, cells := 0, slots := 0, locals := 142 }
theorem cw_X0_firstSwap {rm R : Room} {s : State} {args : Array Value} {own : String} {index : Nat} {c0 : Cond} (hts : ∀ w ∈ c0 :: zT, w.before args s = true) (hml : Cond.methodLink own index yX0_firstSwap ∈ zT) (hrc : rm.cells = 0) (hrs : rm.slots = 0) (hR : rm.frames + 1 ≤ R.frames ∧ 8 + (5 + 11) + rm.locals ≤ R.locals) : CallW R s args own RX0 index yX0_firstSwap cX0_firstSwap 5 (some .boolean) vs_X0_firstSwap rm 0 0 1 :=
  zwV 1 hts hml mw_626 mw_1357 mw_13 mw_627 hrc hrs (by decide +kernel) hR
def vs_X0_firstTogether : List Cond := .code yX0_firstTogether cX0_firstTogether 8 (some .boolean) :: zT
def rm_X0_firstTogether : Room := { frames := 4, cells := 0, slots := 0, locals := 114 }
theorem cw_X0_firstTogether {rm R : Room} {s : State} {args : Array Value} {own : String} {index : Nat} {c0 : Cond} (hts : ∀ w ∈ c0 :: zT, w.before args s = true) (hml : Cond.methodLink own index yX0_firstTogether ∈ zT) (hrc : rm.cells = 0) (hrs : rm.slots = 0) (hR : rm.frames + 1 ≤ R.frames ∧ 8 + (8 + 11) + rm.locals ≤ R.locals) : CallW R s args own RX0 index yX0_firstTogether cX0_firstTogether 8 (some .boolean) vs_X0_firstTogether rm 0 0 1 :=
  zwV 1 hts hml mw_633 mw_1359 mw_13 mw_634 hrc hrs (by decide +kernel) hR
def vs_X0_firstMaker : List Cond := .code yX0_firstMaker cX0_firstMaker 4 (some .int) :: zT
def rm_X0_firstMaker : Room := { frames := 0, cells := 0, slots := 0, locals := 0 }
theorem cw_X0_firstMaker {rm R : Room} {s : State} {args : Array Value} {own : String} {index : Nat} {c0 : Cond} (hts : ∀ w ∈ c0 :: zT, w.before args s = true) (hml : Cond.methodLink own index yX0_firstMaker ∈ zT) (hrc : rm.cells = 0) (hrs : rm.slots = 0) (hR : rm.frames + 1 ≤ R.frames ∧ 8 + (4 + 11) + rm.locals ≤ R.locals) : CallW R s args own RX0 index yX0_firstMaker cX0_firstMaker 4 (some .int) vs_X0_firstMaker rm 0 0 1 :=
  zwV 1 hts hml mw_642 mw_1362 mw_13 mw_643 hrc hrs (by decide +kernel) hR
def vs_X0_gainers : List Cond := .code yX0_gainers cX0_gainers 5 (some .int) :: zT
def rm_X0_gainers : Room := { frames := 4, cells := 0, slots := 0, locals := 114 }
theorem cw_X0_gainers {rm R : Room} {s : State} {args : Array Value} {own : String} {index : Nat} {c0 : Cond} (hts : ∀ w ∈ c0 :: zT, w.before args s = true) (hml : Cond.methodLink own index yX0_gainers ∈ zT) (hrc : rm.cells = 0) (hrs : rm.slots = 0) (hR : rm.frames + 1 ≤ R.frames ∧ 8 + (5 + 11) + rm.locals ≤ R.locals) : CallW R s args own RX0 index yX0_gainers cX0_gainers 5 (some .int) vs_X0_gainers rm 0 0 1 :=
  zwV 1 hts hml mw_645 mw_1363 mw_13 mw_646 hrc hrs (by decide +kernel) hR
def vs_X0_leastSet : List Cond := .code yX0_leastSet cX0_leastSet 7 (some .int) :: zT
def rm_X0_leastSet : Room := { frames := 0, cells := 0, slots := 0, locals := 0 }
theorem cw_X0_leastSet {rm R : Room} {s : State} {args : Array Value} {own : String} {index : Nat} {c0 : Cond} (hts : ∀ w ∈ c0 :: zT, w.before args s = true) (hml : Cond.methodLink own index yX0_leastSet ∈ zT) (hrc : rm.cells = 0) (hrs : rm.slots = 0) (hR : rm.frames + 1 ≤ R.frames ∧ 8 + (7 + 11) + rm.locals ≤ R.locals) : CallW R s args own RX0 index yX0_leastSet cX0_leastSet 7 (some .int) vs_X0_leastSet rm 0 0 3 :=
  zwV 3 hts hml mw_648 mw_1364 mw_13 mw_649 hrc hrs (by decide +kernel) hR
def vs_X0_firstSet : List Cond := .code yX0_firstSet cX0_firstSet 11 (some .boolean) :: zT
def rm_X0_firstSet : Room := { frames := 5, cells := 0, slots := 0, locals := 138 }
theorem cw_X0_firstSet {rm R : Room} {s : State} {args : Array Value} {own : String} {index : Nat} {c0 : Cond} (hts : ∀ w ∈ c0 :: zT, w.before args s = true) (hml : Cond.methodLink own index yX0_firstSet ∈ zT) (hrc : rm.cells = 0) (hrs : rm.slots = 0) (hR : rm.frames + 1 ≤ R.frames ∧ 8 + (11 + 11) + rm.locals ≤ R.locals) : CallW R s args own RX0 index yX0_firstSet cX0_firstSet 11 (some .boolean) vs_X0_firstSet rm 0 0 1 :=
  zwV 1 hts hml mw_639 mw_1361 mw_13 mw_640 hrc hrs (by decide +kernel) hR
def vs_X0_firstBothGain : List Cond := .code yX0_firstBothGain cX0_firstBothGain 6 (some .boolean) :: zT
def rm_X0_firstBothGain : Room := { frames := 5, cells := 0, slots := 0, locals := 139 }
theorem cw_X0_firstBothGain {rm R : Room} {s : State} {args : Array Value} {own : String} {index : Nat} {c0 : Cond} (hts : ∀ w ∈ c0 :: zT, w.before args s = true) (hml : Cond.methodLink own index yX0_firstBothGain ∈ zT) (hrc : rm.cells = 0) (hrs : rm.slots = 0) (hR : rm.frames + 1 ≤ R.frames ∧ 8 + (6 + 11) + rm.locals ≤ R.locals) : CallW R s args own RX0 index yX0_firstBothGain cX0_firstBothGain 6 (some .boolean) vs_X0_firstBothGain rm 0 0 1 :=
  zwV 1 hts hml mw_636 mw_1360 mw_13 mw_637 hrc hrs (by decide +kernel) hR
def vs_X0_endRest : List Cond := .code yX0_endRest cX0_endRest 5 (some .boolean) :: zT
def rm_X0_endRest : Room := { frames := 6, cells := 0, slots := 0, locals := 168 }
theorem cw_X0_endRest {rm R : Room} {s : State} {args : Array Value} {own : String} {index : Nat} {c0 : Cond} (hts : ∀ w ∈ c0 :: zT, w.before args s = true) (hml : Cond.methodLink own index yX0_endRest ∈ zT) (hrc : rm.cells = 0) (hrs : rm.slots = 0) (hR : rm.frames + 1 ≤ R.frames ∧ 8 + (5 + 11) + rm.locals ≤ R.locals) : CallW R s args own RX0 index yX0_endRest cX0_endRest 5 (some .boolean) vs_X0_endRest rm 0 0 3 :=
  zwV 3 hts hml mw_595 mw_596 mw_13 mw_597 hrc hrs (by decide +kernel) hR
def vs_X11_rest : List Cond := .code yX11_rest cX11_rest 2 (some .int) :: zT
def rm_X11_rest : Room := { frames := 7, cells := 0, slots := 0, locals := 192 }
theorem cw_X11_rest {rm R : Room} {s : State} {args : Array Value} {own : String} {index : Nat} {c0 : Cond} (hts : ∀ w ∈ c0 :: zT, w.before args s = true) (hml : Cond.methodLink own index yX11_rest ∈ zT) (hrc : rm.cells = 0) (hrs : rm.slots = 0) (hR : rm.frames + 1 ≤ R.frames ∧ 8 + (2 + 11) + rm.locals ≤ R.locals) : CallW R s args own RX11 index yX11_rest cX11_rest 2 (some .int) vs_X11_rest rm 0 0 1 :=
  zwV 1 hts hml mw_588 mw_589 mw_1 mw_590 hrc hrs (by decide +kernel) hR
def vs_X11_bars : List Cond := .code yX11_bars cX11_bars 2 (some .long) :: zT
def rm_X11_bars : Room := { frames := 0, cells := 0, slots := 0, locals := 0 }
theorem cw_X11_bars {rm R : Room} {s : State} {args : Array Value} {own : String} {index : Nat} {c0 : Cond} (hts : ∀ w ∈ c0 :: zT, w.before args s = true) (hml : Cond.methodLink own index yX11_bars ∈ zT) (hrc : rm.cells = 0) (hrs : rm.slots = 0) (hR : rm.frames + 1 ≤ R.frames ∧ 8 + (2 + 11) + rm.locals ≤ R.locals) : CallW R s args own RX11 index yX11_bars cX11_bars 2 (some .long) vs_X11_bars rm 0 0 1 :=
  zwV 1 hts hml mw_651 mw_652 mw_1 mw_653 hrc hrs (by decide +kernel) hR
def vs_X9_drawnPair : List Cond := .code yX9_drawnPair cX9_drawnPair 7 (some .int) :: zT
def rm_X9_drawnPair : Room := { frames := 5, cells := 0, slots := 0, locals := 144 }
theorem cw_X9_drawnPair {rm R : Room} {s : State} {args : Array Value} {own : String} {index : Nat} {c0 : Cond} (hts : ∀ w ∈ c0 :: zT, w.before args s = true) (hml : Cond.methodLink own index yX9_drawnPair ∈ zT) (hrc : rm.cells = 0) (hrs : rm.slots = 0) (hR : rm.frames + 1 ≤ R.frames ∧ 8 + (7 + 11) + rm.locals ≤ R.locals) : CallW R s args own RX9 index yX9_drawnPair cX9_drawnPair 7 (some .int) vs_X9_drawnPair rm 0 0 2 :=
  zwV 2 hts hml mw_664 mw_665 mw_14 mw_666 hrc hrs (by decide +kernel) hR
def vs_X9_firstPair : List Cond := .code yX9_firstPair cX9_firstPair 4 (some .int) :: zT
def rm_X9_firstPair : Room := { frames := 5, cells := 0, slots := 0, locals := 144 }
theorem cw_X9_firstPair {rm R : Room} {s : State} {args : Array Value} {own : String} {index : Nat} {c0 : Cond} (hts : ∀ w ∈ c0 :: zT, w.before args s = true) (hml : Cond.methodLink own index yX9_firstPair ∈ zT) (hrc : rm.cells = 0) (hrs : rm.slots = 0) (hR : rm.frames + 1 ≤ R.frames ∧ 8 + (4 + 11) + rm.locals ≤ R.locals) : CallW R s args own RX9 index yX9_firstPair cX9_firstPair 4 (some .int) vs_X9_firstPair rm 0 0 1 :=
  zwV 1 hts hml mw_659 mw_660 mw_14 mw_661 hrc hrs (by decide +kernel) hR
def vs_X11_step : List Cond := .code yX11_step cX11_step 3 (some .int) :: zT
def rm_X11_step : Room := { frames := 6, cells := 0, slots := 0, locals := 170 }
theorem cw_X11_step {rm R : Room} {s : State} {args : Array Value} {own : String} {index : Nat} {c0 : Cond} (hts : ∀ w ∈ c0 :: zT, w.before args s = true) (hml : Cond.methodLink own index yX11_step ∈ zT) (hrc : rm.cells = 0) (hrs : rm.slots = 0) (hR : rm.frames + 1 ≤ R.frames ∧ 8 + (3 + 11) + rm.locals ≤ R.locals) : CallW R s args own RX11 index yX11_step cX11_step 3 (some .int) vs_X11_step rm 0 0 1 :=
  zwV 1 hts hml mw_655 mw_656 mw_1 mw_657 hrc hrs (by decide +kernel) hR
def vs_X9_stepsSinceThere : List Cond := .code yX9_stepsSinceThere cX9_stepsSinceThere 2 (some .int) :: zT
def rm_X9_stepsSinceThere : Room := { frames := 0, cells := 0, slots := 0, locals := 0 }
theorem cw_X9_stepsSinceThere {rm R : Room} {s : State} {args : Array Value} {own : String} {index : Nat} {c0 : Cond} (hts : ∀ w ∈ c0 :: zT, w.before args s = true) (hml : Cond.methodLink own index yX9_stepsSinceThere ∈ zT) (hrc : rm.cells = 0) (hrs : rm.slots = 0) (hR : rm.frames + 1 ≤ R.frames ∧ 8 + (2 + 11) + rm.locals ≤ R.locals) : CallW R s args own RX9 index yX9_stepsSinceThere cX9_stepsSinceThere 2 (some .int) vs_X9_stepsSinceThere rm 0 0 0 :=
  zwV 0 hts hml mw_681 mw_1365 mw_14 mw_682 hrc hrs (by decide +kernel) hR
def vs_X9_from : List Cond := .code yX9_from cX9_from 5 none :: zT
def rm_X9_from : Room := { frames := 6, cells := 0, slots := 0, locals := 167 }
theorem cw_X9_from {rm R : Room} {s : State} {args : Array Value} {own : String} {index : Nat} {c0 : Cond} (hts : ∀ w ∈ c0 :: zT, w.before args s = true) (hml : Cond.methodLink own index yX9_from ∈ zT) (hrc : rm.cells = 0) (hrs : rm.slots = 0) (hR : rm.frames + 1 ≤ R.frames ∧ 8 + (5 + 11) + rm.locals ≤ R.locals) : CallW R s args own RX9 index yX9_from cX9_from 5 none vs_X9_from rm 0 0 1 :=
  zwV 1 hts hml mw_676 mw_677 mw_14 mw_678 hrc hrs (by decide +kernel) hR
def vs_X9_lastNet : List Cond := .code yX9_lastNet cX9_lastNet 1 (some .long) :: zT
def rm_X9_lastNet : Room := { frames := 0, cells := 0, slots := 0, locals := 0 }
theorem cw_X9_lastNet {rm R : Room} {s : State} {args : Array Value} {own : String} {index : Nat} {c0 : Cond} (hts : ∀ w ∈ c0 :: zT, w.before args s = true) (hml : Cond.methodLink own index yX9_lastNet ∈ zT) (hrc : rm.cells = 0) (hrs : rm.slots = 0) (hR : rm.frames + 1 ≤ R.frames ∧ 8 + (1 + 11) + rm.locals ≤ R.locals) : CallW R s args own RX9 index yX9_lastNet cX9_lastNet 1 (some .long) vs_X9_lastNet rm 0 0 0 :=
  zwV 0 hts hml mw_684 mw_685 mw_14 mw_686 hrc hrs (by decide +kernel) hR
def vs_X9_leastOfRing : List Cond := .code yX9_leastOfRing cX9_leastOfRing 4 (some .long) :: zT
def rm_X9_leastOfRing : Room := { frames := 0, cells := 0, slots := 0, locals := 0 }
theorem cw_X9_leastOfRing {rm R : Room} {s : State} {args : Array Value} {own : String} {index : Nat} {c0 : Cond} (hts : ∀ w ∈ c0 :: zT, w.before args s = true) (hml : Cond.methodLink own index yX9_leastOfRing ∈ zT) (hrc : rm.cells = 0) (hrs : rm.slots = 0) (hR : rm.frames + 1 ≤ R.frames ∧ 8 + (4 + 11) + rm.locals ≤ R.locals) : CallW R s args own RX9 index yX9_leastOfRing cX9_leastOfRing 4 (some .long) vs_X9_leastOfRing rm 0 0 0 :=
  zwV 0 hts hml mw_688 mw_689 mw_14 mw_690 hrc hrs (by decide +kernel) hR
def vs_X11_go : List Cond := .code yX11_go cX11_go 1 (some .int) :: zT
def rm_X11_go : Room := { frames := 7, cells := 0, slots := 0, locals := 191 }
theorem cw_X11_go {rm R : Room} {s : State} {args : Array Value} {own : String} {index : Nat} {c0 : Cond} (hts : ∀ w ∈ c0 :: zT, w.before args s = true) (hml : Cond.methodLink own index yX11_go ∈ zT) (hrc : rm.cells = 0) (hrs : rm.slots = 0) (hR : rm.frames + 1 ≤ R.frames ∧ 8 + (1 + 11) + rm.locals ≤ R.locals) : CallW R s args own RX11 index yX11_go cX11_go 1 (some .int) vs_X11_go rm 0 0 0 :=
  zwV 0 hts hml mw_672 mw_673 mw_1 mw_674 hrc hrs (by decide +kernel) hR
def vs_X11_ring : List Cond := .code yX11_ring cX11_ring 2 (some .long) :: zT
def rm_X11_ring : Room := { frames := 0, cells := 0, slots := 0, locals := 0 }
theorem cw_X11_ring {rm R : Room} {s : State} {args : Array Value} {own : String} {index : Nat} {c0 : Cond} (hts : ∀ w ∈ c0 :: zT, w.before args s = true) (hml : Cond.methodLink own index yX11_ring ∈ zT) (hrc : rm.cells = 0) (hrs : rm.slots = 0) (hR : rm.frames + 1 ≤ R.frames ∧ 8 + (2 + 11) + rm.locals ≤ R.locals) : CallW R s args own RX11 index yX11_ring cX11_ring 2 (some .long) vs_X11_ring rm 0 0 1 :=
  zwV 1 hts hml mw_693 mw_694 mw_1 mw_695 hrc hrs (by decide +kernel) hR
def vs_X11_areFew : List Cond := .code yX11_areFew cX11_areFew 1 (some .boolean) :: zT
def rm_X11_areFew : Room := { frames := 0, cells := 0, slots := 0, locals := 0 }
theorem cw_X11_areFew {rm R : Room} {s : State} {args : Array Value} {own : String} {index : Nat} {c0 : Cond} (hts : ∀ w ∈ c0 :: zT, w.before args s = true) (hml : Cond.methodLink own index yX11_areFew ∈ zT) (hrc : rm.cells = 0) (hrs : rm.slots = 0) (hR : rm.frames + 1 ≤ R.frames ∧ 8 + (1 + 11) + rm.locals ≤ R.locals) : CallW R s args own RX11 index yX11_areFew cX11_areFew 1 (some .boolean) vs_X11_areFew rm 0 0 0 :=
  zwV 0 hts hml mw_701 mw_1366 mw_1 mw_702 hrc hrs (by decide +kernel) hR
def vs_J7_fill_53178 : List Cond := .code yJ7_fill_53178 cJ7_fill_53178 4 none :: zT
def rm_J7_fill_53178 : Room := { frames := 0, cells := 0, slots := 0, locals := 0 }
theorem cw_J7_fill_53178 {R : Room} {s : State} {args : Array Value} {own : String} {index : Nat} {c0 : Cond} (hts : ∀ w ∈ c0 :: zT, w.before args s = true) (hml : Cond.methodLink own index yJ7_fill_53178 ∈ zT) (hR : rm_J7_fill_53178.frames + 1 ≤ R.frames ∧ 8 + (4 + 11) + rm_J7_fill_53178.locals ≤ R.locals) : CallB R s args own index yJ7_fill_53178 cJ7_fill_53178 4 none vs_J7_fill_53178 rm_J7_fill_53178 0 0 2 ∧ (Cond.static yJ7_fill_53178).before args s = true :=
  zwS 2 hts hml mw_269 mw_17 mw_270 rfl rfl (by decide +kernel) hR
def vs_X2_start : List Cond := .code yX2_start cX2_start 3 none :: zT
def rm_X2_start : Room := { frames := 1, cells := 0, slots := 0, locals := 60 }
theorem cw_X2_start {rm R : Room} {s : State} {args : Array Value} {own : String} {index : Nat} {c0 : Cond} (hts : ∀ w ∈ c0 :: zT, w.before args s = true) (hml : Cond.methodLink own index yX2_start ∈ zT) (hrc : rm.cells = 0) (hrs : rm.slots = 0) (hR : rm.frames + 1 ≤ R.frames ∧ 8 + (3 + 11) + rm.locals ≤ R.locals) : CallW R s args own RX2 index yX2_start cX2_start 3 none vs_X2_start rm 0 0 1 :=
  zwV 1 hts hml mw_715 mw_716 mw_15 mw_717 hrc hrs (by decide +kernel) hR
def vs_X2_renamed : List Cond := .code yX2_renamed cX2_renamed 7 (some .long) :: zT
def rm_X2_renamed : Room := { frames := 2, cells := 0, slots := 0, locals := 83 }
theorem cw_X2_renamed {rm R : Room} {s : State} {args : Array Value} {own : String} {index : Nat} {c0 : Cond} (hts : ∀ w ∈ c0 :: zT, w.before args s = true) (hml : Cond.methodLink own index yX2_renamed ∈ zT) (hrc : rm.cells = 0) (hrs : rm.slots = 0) (hR : rm.frames + 1 ≤ R.frames ∧ 8 + (7 + 11) + rm.locals ≤ R.locals) : CallW R s args own RX2 index yX2_renamed cX2_renamed 7 (some .long) vs_X2_renamed rm 0 0 1 :=
  zwV 1 hts hml mw_720 mw_1368 mw_15 mw_721 hrc hrs (by decide +kernel) hR
def vs_X2_swap : List Cond := .code yX2_swap cX2_swap 4 none :: zT
def rm_X2_swap : Room := { frames := 0, cells := 0, slots := 0, locals := 0 }
theorem cw_X2_swap {rm R : Room} {s : State} {args : Array Value} {own : String} {index : Nat} {c0 : Cond} (hts : ∀ w ∈ c0 :: zT, w.before args s = true) (hml : Cond.methodLink own index yX2_swap ∈ zT) (hrc : rm.cells = 0) (hrs : rm.slots = 0) (hR : rm.frames + 1 ≤ R.frames ∧ 8 + (4 + 11) + rm.locals ≤ R.locals) : CallW R s args own RX2 index yX2_swap cX2_swap 4 none vs_X2_swap rm 0 0 2 :=
  zwV 2 hts hml mw_728 mw_1369 mw_15 mw_729 hrc hrs (by decide +kernel) hR
def vs_X2_advance : List Cond := .code yX2_advance cX2_advance 5 (some .boolean) :: zT
def rm_X2_advance : Room := { frames := 1, cells := 0, slots := 0, locals := 23 }
theorem cw_X2_advance {rm R : Room} {s : State} {args : Array Value} {own : String} {index : Nat} {c0 : Cond} (hts : ∀ w ∈ c0 :: zT, w.before args s = true) (hml : Cond.methodLink own index yX2_advance ∈ zT) (hrc : rm.cells = 0) (hrs : rm.slots = 0) (hR : rm.frames + 1 ≤ R.frames ∧ 8 + (5 + 11) + rm.locals ≤ R.locals) : CallW R s args own RX2 index yX2_advance cX2_advance 5 (some .boolean) vs_X2_advance rm 0 0 0 :=
  zwV 0 hts hml mw_724 mw_725 mw_15 mw_726 hrc hrs (by decide +kernel) hR
def vs_X2_mark : List Cond := .code yX2_mark cX2_mark 9 none :: zT
def rm_X2_mark : Room := { frames := 3, cells := 0, slots := 0, locals := 109 }
theorem cw_X2_mark {rm R : Room} {s : State} {args : Array Value} {own : String} {index : Nat} {c0 : Cond} (hts : ∀ w ∈ c0 :: zT, w.before args s = true) (hml : Cond.methodLink own index yX2_mark ∈ zT) (hrc : rm.cells = 0) (hrs : rm.slots = 0) (hR : rm.frames + 1 ≤ R.frames ∧ 8 + (9 + 11) + rm.locals ≤ R.locals) : CallW R s args own RX2 index yX2_mark cX2_mark 9 none vs_X2_mark rm 0 0 3 :=
  zwV 3 hts hml mw_711 mw_712 mw_15 mw_713 hrc hrs (by decide +kernel) hR
def vs_X11_keepShapes : List Cond := .code yX11_keepShapes cX11_keepShapes 5 none :: zT
def rm_X11_keepShapes : Room := { frames := 4, cells := 0, slots := 0, locals := 137 }
theorem cw_X11_keepShapes {rm R : Room} {s : State} {args : Array Value} {own : String} {index : Nat} {c0 : Cond} (hts : ∀ w ∈ c0 :: zT, w.before args s = true) (hml : Cond.methodLink own index yX11_keepShapes ∈ zT) (hrc : rm.cells = 0) (hrs : rm.slots = 0) (hR : rm.frames + 1 ≤ R.frames ∧ 8 + (5 + 11) + rm.locals ≤ R.locals) : CallW R s args own RX11 index yX11_keepShapes cX11_keepShapes 5 none vs_X11_keepShapes rm 0 0 0 :=
  zwV 0 hts hml mw_708 mw_1367 mw_1 mw_709 hrc hrs (by decide +kernel) hR
def vs_X1_note : List Cond := .code yX1_note cX1_note 5 none :: zT
def rm_X1_note : Room := { frames := 0, cells := 0, slots := 0, locals := 0 }
theorem cw_X1_note {rm R : Room} {s : State} {args : Array Value} {own : String} {index : Nat} {c0 : Cond} (hts : ∀ w ∈ c0 :: zT, w.before args s = true) (hml : Cond.methodLink own index yX1_note ∈ zT) (hrc : rm.cells = 0) (hrs : rm.slots = 0) (hR : rm.frames + 1 ≤ R.frames ∧ 8 + (5 + 11) + rm.locals ≤ R.locals) : CallW R s args own RX1 index yX1_note cX1_note 5 none vs_X1_note rm 0 0 1 :=
  zwV 1 hts hml mw_704 mw_705 mw_16 mw_706 hrc hrs (by decide +kernel) hR
def vs_X11_all : List Cond := .code yX11_all cX11_all 7 (some .int) :: zT
def rm_X11_all : Room := { frames := 7, cells := 0, slots := 0, locals := 192 }
theorem cw_X11_all {rm R : Room} {s : State} {args : Array Value} {own : String} {index : Nat} {c0 : Cond} (hts : ∀ w ∈ c0 :: zT, w.before args s = true) (hml : Cond.methodLink own index yX11_all ∈ zT) (hrc : rm.cells = 0) (hrs : rm.slots = 0) (hR : rm.frames + 1 ≤ R.frames ∧ 8 + (7 + 11) + rm.locals ≤ R.locals) : CallW R s args own RX11 index yX11_all cX11_all 7 (some .int) vs_X11_all rm 0 0 2 :=
  zwV 2 hts hml mw_697 mw_698 mw_1 mw_699 hrc hrs (by decide +kernel) hR
def vs_X1_isPlace : List Cond := .code yX1_isPlace cX1_isPlace 2 (some .boolean) :: zT
def rm_X1_isPlace : Room := { frames := 0, cells := 0, slots := 0, locals := 0 }
theorem cw_X1_isPlace {rm R : Room} {s : State} {args : Array Value} {own : String} {index : Nat} {c0 : Cond} (hts : ∀ w ∈ c0 :: zT, w.before args s = true) (hml : Cond.methodLink own index yX1_isPlace ∈ zT) (hrc : rm.cells = 0) (hrs : rm.slots = 0) (hR : rm.frames + 1 ≤ R.frames ∧ 8 + (2 + 11) + rm.locals ≤ R.locals) : CallW R s args own RX1 index yX1_isPlace cX1_isPlace 2 (some .boolean) vs_X1_isPlace rm 0 0 1 :=
  zwV 1 hts hml mw_735 mw_736 mw_16 mw_737 hrc hrs (by decide +kernel) hR
def vs_X11_one : List Cond := .code yX11_one cX11_one 2 (some .long) :: zT
def rm_X11_one : Room := { frames := 1, cells := 0, slots := 0, locals := 21 }
theorem cw_X11_one {rm R : Room} {s : State} {args : Array Value} {own : String} {index : Nat} {c0 : Cond} (hts : ∀ w ∈ c0 :: zT, w.before args s = true) (hml : Cond.methodLink own index yX11_one ∈ zT) (hrc : rm.cells = 0) (hrs : rm.slots = 0) (hR : rm.frames + 1 ≤ R.frames ∧ 8 + (2 + 11) + rm.locals ≤ R.locals) : CallW R s args own RX11 index yX11_one cX11_one 2 (some .long) vs_X11_one rm 0 0 1 :=
  zwV 1 hts hml mw_731 mw_732 mw_1 mw_733 hrc hrs (by decide +kernel) hR
def vs_X11_bestNet : List Cond := .code yX11_bestNet cX11_bestNet 9 (some .long) :: zT
def rm_X11_bestNet : Room := { frames := 5, cells := 0, slots := 0, locals := 139 }
theorem cw_X11_bestNet {rm R : Room} {s : State} {args : Array Value} {own : String} {index : Nat} {c0 : Cond} (hts : ∀ w ∈ c0 :: zT, w.before args s = true) (hml : Cond.methodLink own index yX11_bestNet ∈ zT) (hrc : rm.cells = 0) (hrs : rm.slots = 0) (hR : rm.frames + 1 ≤ R.frames ∧ 8 + (9 + 11) + rm.locals ≤ R.locals) : CallW R s args own RX11 index yX11_bestNet cX11_bestNet 9 (some .long) vs_X11_bestNet rm 0 0 0 :=
  zwV 0 hts hml mw_743 mw_1370 mw_1 mw_744 hrc hrs (by decide +kernel) hR
def vs_X11_best : List Cond := .code yX11_best cX11_best 1 (some .long) :: zT
def rm_X11_best : Room := { frames := 6, cells := 0, slots := 0, locals := 167 }
theorem cw_X11_best {rm R : Room} {s : State} {args : Array Value} {own : String} {index : Nat} {c0 : Cond} (hts : ∀ w ∈ c0 :: zT, w.before args s = true) (hml : Cond.methodLink own index yX11_best ∈ zT) (hrc : rm.cells = 0) (hrs : rm.slots = 0) (hR : rm.frames + 1 ≤ R.frames ∧ 8 + (1 + 11) + rm.locals ≤ R.locals) : CallW R s args own RX11 index yX11_best cX11_best 1 (some .long) vs_X11_best rm 0 0 0 :=
  zwV 0 hts hml mw_739 mw_740 mw_1 mw_741 hrc hrs (by decide +kernel) hR
def vs_X11_loss : List Cond := .code yX11_loss cX11_loss 12 (some .long) :: zT
def rm_X11_loss : Room := { frames := 7, cells := 0, slots := 0, locals := 192 }
theorem cw_X11_loss {rm R : Room} {s : State} {args : Array Value} {own : String} {index : Nat} {c0 : Cond} (hts : ∀ w ∈ c0 :: zT, w.before args s = true) (hml : Cond.methodLink own index yX11_loss ∈ zT) (hrc : rm.cells = 0) (hrs : rm.slots = 0) (hR : rm.frames + 1 ≤ R.frames ∧ 8 + (12 + 11) + rm.locals ≤ R.locals) : CallW R s args own RX11 index yX11_loss cX11_loss 12 (some .long) vs_X11_loss rm 0 0 2 :=
  zwV 2 hts hml mw_746 mw_747 mw_1 mw_748 hrc hrs (by decide +kernel) hR
def vs_X11_netOfOrder : List Cond := .code yX11_netOfOrder cX11_netOfOrder 8 (some .long) :: zT
def rm_X11_netOfOrder : Room := { frames := 5, cells := 0, slots := 0, locals := 144 }
theorem cw_X11_netOfOrder {rm R : Room} {s : State} {args : Array Value} {own : String} {index : Nat} {c0 : Cond} (hts : ∀ w ∈ c0 :: zT, w.before args s = true) (hml : Cond.methodLink own index yX11_netOfOrder ∈ zT) (hrc : rm.cells = 0) (hrs : rm.slots = 0) (hR : rm.frames + 1 ≤ R.frames ∧ 8 + (8 + 11) + rm.locals ≤ R.locals) : CallW R s args own RX11 index yX11_netOfOrder cX11_netOfOrder 8 (some .long) vs_X11_netOfOrder rm 0 0 0 :=
  zwV 0 hts hml mw_755 mw_1371 mw_1 mw_756 hrc hrs (by decide +kernel) hR
def vs_X11_coming : List Cond := .code yX11_coming cX11_coming 3 (some .int) :: zT
def rm_X11_coming : Room := { frames := 6, cells := 0, slots := 0, locals := 171 }
theorem cw_X11_coming {rm R : Room} {s : State} {args : Array Value} {own : String} {index : Nat} {c0 : Cond} (hts : ∀ w ∈ c0 :: zT, w.before args s = true) (hml : Cond.methodLink own index yX11_coming ∈ zT) (hrc : rm.cells = 0) (hrs : rm.slots = 0) (hR : rm.frames + 1 ≤ R.frames ∧ 8 + (3 + 11) + rm.locals ≤ R.locals) : CallW R s args own RX11 index yX11_coming cX11_coming 3 (some .int) vs_X11_coming rm 0 0 0 :=
  zwV 0 hts hml mw_750 mw_751 mw_1 mw_752 hrc hrs (by decide +kernel) hR
def vs_X11_comes : List Cond := .code yX11_comes cX11_comes 3 (some .long) :: zT
def rm_X11_comes : Room := { frames := 1, cells := 0, slots := 0, locals := 21 }
theorem cw_X11_comes {rm R : Room} {s : State} {args : Array Value} {own : String} {index : Nat} {c0 : Cond} (hts : ∀ w ∈ c0 :: zT, w.before args s = true) (hml : Cond.methodLink own index yX11_comes ∈ zT) (hrc : rm.cells = 0) (hrs : rm.slots = 0) (hR : rm.frames + 1 ≤ R.frames ∧ 8 + (3 + 11) + rm.locals ≤ R.locals) : CallW R s args own RX11 index yX11_comes cX11_comes 3 (some .long) vs_X11_comes rm 0 0 2 :=
  zwV 2 hts hml mw_761 mw_762 mw_1 mw_763 hrc hrs (by decide +kernel) hR
def vs_X11_giftOf : List Cond := .code yX11_giftOf cX11_giftOf 13 (some .long) :: zT
def rm_X11_giftOf : Room := { frames := 4, cells := 0, slots := 0, locals := 114 }
theorem cw_X11_giftOf {rm R : Room} {s : State} {args : Array Value} {own : String} {index : Nat} {c0 : Cond} (hts : ∀ w ∈ c0 :: zT, w.before args s = true) (hml : Cond.methodLink own index yX11_giftOf ∈ zT) (hrc : rm.cells = 0) (hrs : rm.slots = 0) (hR : rm.frames + 1 ≤ R.frames ∧ 8 + (13 + 11) + rm.locals ≤ R.locals) : CallW R s args own RX11 index yX11_giftOf cX11_giftOf 13 (some .long) vs_X11_giftOf rm 0 0 3 :=
  zwV 3 hts hml mw_770 mw_1372 mw_1 mw_771 hrc hrs (by decide +kernel) hR
def vs_X11_gifts : List Cond := .code yX11_gifts cX11_gifts 5 (some .long) :: zT
def rm_X11_gifts : Room := { frames := 6, cells := 0, slots := 0, locals := 167 }
theorem cw_X11_gifts {rm R : Room} {s : State} {args : Array Value} {own : String} {index : Nat} {c0 : Cond} (hts : ∀ w ∈ c0 :: zT, w.before args s = true) (hml : Cond.methodLink own index yX11_gifts ∈ zT) (hrc : rm.cells = 0) (hrs : rm.slots = 0) (hR : rm.frames + 1 ≤ R.frames ∧ 8 + (5 + 11) + rm.locals ≤ R.locals) : CallW R s args own RX11 index yX11_gifts cX11_gifts 5 (some .long) vs_X11_gifts rm 0 0 1 :=
  zwV 1 hts hml mw_765 mw_766 mw_1 mw_767 hrc hrs (by decide +kernel) hR
def vs_X11_gift : List Cond := .code yX11_gift cX11_gift 4 (some .long) :: zT
def rm_X11_gift : Room := { frames := 5, cells := 0, slots := 0, locals := 146 }
theorem cw_X11_gift {rm R : Room} {s : State} {args : Array Value} {own : String} {index : Nat} {c0 : Cond} (hts : ∀ w ∈ c0 :: zT, w.before args s = true) (hml : Cond.methodLink own index yX11_gift ∈ zT) (hrc : rm.cells = 0) (hrs : rm.slots = 0) (hR : rm.frames + 1 ≤ R.frames ∧ 8 + (4 + 11) + rm.locals ≤ R.locals) : CallW R s args own RX11 index yX11_gift cX11_gift 4 (some .long) vs_X11_gift rm 0 0 3 :=
  zwV 3 hts hml mw_779 mw_780 mw_1 mw_781 hrc hrs (by decide +kernel) hR
def vs_X11_good : List Cond := .code yX11_good cX11_good 10 (some .long) :: zT
def rm_X11_good : Room := { frames := 5, cells := 0, slots := 0, locals := 144 }
theorem cw_X11_good {rm R : Room} {s : State} {args : Array Value} {own : String} {index : Nat} {c0 : Cond} (hts : ∀ w ∈ c0 :: zT, w.before args s = true) (hml : Cond.methodLink own index yX11_good ∈ zT) (hrc : rm.cells = 0) (hrs : rm.slots = 0) (hR : rm.frames + 1 ≤ R.frames ∧ 8 + (10 + 11) + rm.locals ≤ R.locals) : CallW R s args own RX11 index yX11_good cX11_good 10 (some .long) vs_X11_good rm 0 0 1 :=
  zwV 1 hts hml mw_783 mw_784 mw_1 mw_785 hrc hrs (by decide +kernel) hR
def vs_X11_edge : List Cond := .code yX11_edge cX11_edge 9 (some .int) :: zT
def rm_X11_edge : Room := { frames := 7, cells := 0, slots := 0, locals := 192 }
theorem cw_X11_edge {rm R : Room} {s : State} {args : Array Value} {own : String} {index : Nat} {c0 : Cond} (hts : ∀ w ∈ c0 :: zT, w.before args s = true) (hml : Cond.methodLink own index yX11_edge ∈ zT) (hrc : rm.cells = 0) (hrs : rm.slots = 0) (hR : rm.frames + 1 ≤ R.frames ∧ 8 + (9 + 11) + rm.locals ≤ R.locals) : CallW R s args own RX11 index yX11_edge cX11_edge 9 (some .int) vs_X11_edge rm 0 0 4 :=
  zwV 4 hts hml mw_787 mw_788 mw_1 mw_789 hrc hrs (by decide +kernel) hR
def vs_X11_lie : List Cond := .code yX11_lie cX11_lie 8 (some .int) :: zT
def rm_X11_lie : Room := { frames := 7, cells := 0, slots := 0, locals := 191 }
theorem cw_X11_lie {rm R : Room} {s : State} {args : Array Value} {own : String} {index : Nat} {c0 : Cond} (hts : ∀ w ∈ c0 :: zT, w.before args s = true) (hml : Cond.methodLink own index yX11_lie ∈ zT) (hrc : rm.cells = 0) (hrs : rm.slots = 0) (hR : rm.frames + 1 ≤ R.frames ∧ 8 + (8 + 11) + rm.locals ≤ R.locals) : CallW R s args own RX11 index yX11_lie cX11_lie 8 (some .int) vs_X11_lie rm 0 0 1 :=
  zwV 1 hts hml mw_793 mw_794 mw_1 mw_795 hrc hrs (by decide +kernel) hR
def vs_X11_lied : List Cond := .code yX11_lied cX11_lied 1 (some .long) :: zT
def rm_X11_lied : Room := { frames := 0, cells := 0, slots := 0, locals := 0 }
theorem cw_X11_lied {rm R : Room} {s : State} {args : Array Value} {own : String} {index : Nat} {c0 : Cond} (hts : ∀ w ∈ c0 :: zT, w.before args s = true) (hml : Cond.methodLink own index yX11_lied ∈ zT) (hrc : rm.cells = 0) (hrs : rm.slots = 0) (hR : rm.frames + 1 ≤ R.frames ∧ 8 + (1 + 11) + rm.locals ≤ R.locals) : CallW R s args own RX11 index yX11_lied cX11_lied 1 (some .long) vs_X11_lied rm 0 0 0 :=
  zwV 0 hts hml mw_798 mw_799 mw_1 mw_800 hrc hrs (by decide +kernel) hR
def vs_X11_image : List Cond := .code yX11_image cX11_image 4 (some .int) :: zT
def rm_X11_image : Room := { frames := 0, cells := 0, slots := 0, locals := 0 }
theorem cw_X11_image {rm R : Room} {s : State} {args : Array Value} {own : String} {index : Nat} {c0 : Cond} (hts : ∀ w ∈ c0 :: zT, w.before args s = true) (hml : Cond.methodLink own index yX11_image ∈ zT) (hrc : rm.cells = 0) (hrs : rm.slots = 0) (hR : rm.frames + 1 ≤ R.frames ∧ 8 + (4 + 11) + rm.locals ≤ R.locals) : CallW R s args own RX11 index yX11_image cX11_image 4 (some .int) vs_X11_image rm 0 0 0 :=
  zwV 0 hts hml mw_802 mw_803 mw_1 mw_804 hrc hrs (by decide +kernel) hR
def vs_X11_octet : List Cond := .code yX11_octet cX11_octet 2 (some .int) :: zT
def rm_X11_octet : Room := { frames := 0, cells := 0, slots := 0, locals := 0 }
theorem cw_X11_octet {rm R : Room} {s : State} {args : Array Value} {own : String} {index : Nat} {c0 : Cond} (hts : ∀ w ∈ c0 :: zT, w.before args s = true) (hml : Cond.methodLink own index yX11_octet ∈ zT) (hrc : rm.cells = 0) (hrs : rm.slots = 0) (hR : rm.frames + 1 ≤ R.frames ∧ 8 + (2 + 11) + rm.locals ≤ R.locals) : CallW R s args own RX11 index yX11_octet cX11_octet 2 (some .int) vs_X11_octet rm 0 0 1 :=
  zwV 1 hts hml mw_806 mw_807 mw_1 mw_808 hrc hrs (by decide +kernel) hR
def vs_X7_xorOfAll : List Cond := .code yX7_xorOfAll cX7_xorOfAll 3 (some .int) :: zT
def rm_X7_xorOfAll : Room := { frames := 0, cells := 0, slots := 0, locals := 0 }
theorem cw_X7_xorOfAll {rm R : Room} {s : State} {args : Array Value} {own : String} {index : Nat} {c0 : Cond} (hts : ∀ w ∈ c0 :: zT, w.before args s = true) (hml : Cond.methodLink own index yX7_xorOfAll ∈ zT) (hrc : rm.cells = 0) (hrs : rm.slots = 0) (hR : rm.frames + 1 ≤ R.frames ∧ 8 + (3 + 11) + rm.locals ≤ R.locals) : CallW R s args own RX7 index yX7_xorOfAll cX7_xorOfAll 3 (some .int) vs_X7_xorOfAll rm 0 0 0 :=
  zwV 0 hts hml mw_814 mw_815 mw_2 mw_816 hrc hrs (by decide +kernel) hR
def vs_X7_number : List Cond := .code yX7_number cX7_number 6 (some .long) :: zT
def rm_X7_number : Room := { frames := 0, cells := 0, slots := 0, locals := 0 }
theorem cw_X7_number {rm R : Room} {s : State} {args : Array Value} {own : String} {index : Nat} {c0 : Cond} (hts : ∀ w ∈ c0 :: zT, w.before args s = true) (hml : Cond.methodLink own index yX7_number ∈ zT) (hrc : rm.cells = 0) (hrs : rm.slots = 0) (hR : rm.frames + 1 ≤ R.frames ∧ 8 + (6 + 11) + rm.locals ≤ R.locals) : CallW R s args own RX7 index yX7_number cX7_number 6 (some .long) vs_X7_number rm 0 0 2 :=
  zwV 2 hts hml mw_818 mw_819 mw_2 mw_820 hrc hrs (by decide +kernel) hR
def vs_X11_takeImage : List Cond := .code yX11_takeImage cX11_takeImage 5 (some .boolean) :: zT
def rm_X11_takeImage : Room := { frames := 2, cells := 0, slots := 0, locals := 44 }
theorem cw_X11_takeImage {rm R : Room} {s : State} {args : Array Value} {own : String} {index : Nat} {c0 : Cond} (hts : ∀ w ∈ c0 :: zT, w.before args s = true) (hml : Cond.methodLink own index yX11_takeImage ∈ zT) (hrc : rm.cells = 0) (hrs : rm.slots = 0) (hR : rm.frames + 1 ≤ R.frames ∧ 8 + (5 + 11) + rm.locals ≤ R.locals) : CallW R s args own RX11 index yX11_takeImage cX11_takeImage 5 (some .boolean) vs_X11_takeImage rm 0 0 2 :=
  zwV 2 hts hml mw_824 mw_1373 mw_1 mw_825 hrc hrs (by decide +kernel) hR
def vs_X11_on : List Cond := .code yX11_on cX11_on 2 (some .boolean) :: zT
def rm_X11_on : Room := { frames := 3, cells := 0, slots := 0, locals := 68 }
theorem cw_X11_on {rm R : Room} {s : State} {args : Array Value} {own : String} {index : Nat} {c0 : Cond} (hts : ∀ w ∈ c0 :: zT, w.before args s = true) (hml : Cond.methodLink own index yX11_on ∈ zT) (hrc : rm.cells = 0) (hrs : rm.slots = 0) (hR : rm.frames + 1 ≤ R.frames ∧ 8 + (2 + 11) + rm.locals ≤ R.locals) : CallW R s args own RX11 index yX11_on cX11_on 2 (some .boolean) vs_X11_on rm 0 0 0 :=
  zwV 0 hts hml mw_810 mw_811 mw_1 mw_812 hrc hrs (by decide +kernel) hR
def vs_X12_feed : List Cond := .code yX12_feed cX12_feed 8 (some .int) :: zT
def rm_X12_feed : Room := { frames := 0, cells := 0, slots := 0, locals := 0 }
theorem cw_X12_feed {rm R : Room} {s : State} {args : Array Value} {own : String} {index : Nat} {c0 : Cond} (hts : ∀ w ∈ c0 :: zT, w.before args s = true) (hml : Cond.methodLink own index yX12_feed ∈ zT) (hrc : rm.cells = 0) (hrs : rm.slots = 0) (hR : rm.frames + 1 ≤ R.frames ∧ 8 + (8 + 11) + rm.locals ≤ R.locals) : CallW R s args own RX12 index yX12_feed cX12_feed 8 (some .int) vs_X12_feed rm 0 0 5 :=
  zwV 5 hts hml mw_918 mw_919 mw_18 mw_920 hrc hrs (by decide +kernel) hR
def vs_X12_end : List Cond := .code yX12_end cX12_end 2 (some .boolean) :: zT
def rm_X12_end : Room := { frames := 0, cells := 0, slots := 0, locals := 0 }
theorem cw_X12_end {rm R : Room} {s : State} {args : Array Value} {own : String} {index : Nat} {c0 : Cond} (hts : ∀ w ∈ c0 :: zT, w.before args s = true) (hml : Cond.methodLink own index yX12_end ∈ zT) (hrc : rm.cells = 0) (hrs : rm.slots = 0) (hR : rm.frames + 1 ≤ R.frames ∧ 8 + (2 + 11) + rm.locals ≤ R.locals) : CallW R s args own RX12 index yX12_end cX12_end 2 (some .boolean) vs_X12_end rm 0 0 1 :=
  zwV 1 hts hml mw_922 mw_923 mw_18 mw_924 hrc hrs (by decide +kernel) hR
def vs_X12_stands : List Cond := .code yX12_stands cX12_stands 2 none :: zT
def rm_X12_stands : Room := { frames := 0, cells := 0, slots := 0, locals := 0 }
theorem cw_X12_stands {rm R : Room} {s : State} {args : Array Value} {own : String} {index : Nat} {c0 : Cond} (hts : ∀ w ∈ c0 :: zT, w.before args s = true) (hml : Cond.methodLink own index yX12_stands ∈ zT) (hrc : rm.cells = 0) (hrs : rm.slots = 0) (hR : rm.frames + 1 ≤ R.frames ∧ 8 + (2 + 11) + rm.locals ≤ R.locals) : CallW R s args own RX12 index yX12_stands cX12_stands 2 none vs_X12_stands rm 0 0 0 :=
  zwV 0 hts hml mw_1034 mw_1404 mw_18 mw_1035 hrc hrs (by decide +kernel) hR
def vs_X12_look : List Cond := .code yX12_look cX12_look 1 (some .int) :: zT
def rm_X12_look : Room := { frames := 0, cells := 0, slots := 0, locals := 0 }
theorem cw_X12_look {rm R : Room} {s : State} {args : Array Value} {own : String} {index : Nat} {c0 : Cond} (hts : ∀ w ∈ c0 :: zT, w.before args s = true) (hml : Cond.methodLink own index yX12_look ∈ zT) (hrc : rm.cells = 0) (hrs : rm.slots = 0) (hR : rm.frames + 1 ≤ R.frames ∧ 8 + (1 + 11) + rm.locals ≤ R.locals) : CallW R s args own RX12 index yX12_look cX12_look 1 (some .int) vs_X12_look rm 0 0 0 :=
  zwV 0 hts hml mw_930 mw_1374 mw_18 mw_931 hrc hrs (by decide +kernel) hR
def vs_X12_isLetter : List Cond := .code yX12_isLetter cX12_isLetter 1 (some .boolean) :: zT
def rm_X12_isLetter : Room := { frames := 0, cells := 0, slots := 0, locals := 0 }
theorem cw_X12_isLetter {R : Room} {s : State} {args : Array Value} {own : String} {index : Nat} {c0 : Cond} (hts : ∀ w ∈ c0 :: zT, w.before args s = true) (hml : Cond.methodLink own index yX12_isLetter ∈ zT) (hR : rm_X12_isLetter.frames + 1 ≤ R.frames ∧ 8 + (1 + 11) + rm_X12_isLetter.locals ≤ R.locals) : CallB R s args own index yX12_isLetter cX12_isLetter 1 (some .boolean) vs_X12_isLetter rm_X12_isLetter 0 0 1 ∧ (Cond.static yX12_isLetter).before args s = true :=
  zwS 1 hts hml mw_942 mw_18 mw_943 rfl rfl (by decide +kernel) hR
def vs_X12_isHere : List Cond := .code yX12_isHere cX12_isHere 4 (some .boolean) :: zT
def rm_X12_isHere : Room := { frames := 1, cells := 0, slots := 0, locals := 20 }
theorem cw_X12_isHere {rm R : Room} {s : State} {args : Array Value} {own : String} {index : Nat} {c0 : Cond} (hts : ∀ w ∈ c0 :: zT, w.before args s = true) (hml : Cond.methodLink own index yX12_isHere ∈ zT) (hrc : rm.cells = 0) (hrs : rm.slots = 0) (hR : rm.frames + 1 ≤ R.frames ∧ 8 + (4 + 11) + rm.locals ≤ R.locals) : CallW R s args own RX12 index yX12_isHere cX12_isHere 4 (some .boolean) vs_X12_isHere rm 0 0 1 :=
  zwV 1 hts hml mw_939 mw_1377 mw_18 mw_940 hrc hrs (by decide +kernel) hR
def vs_X12_takes : List Cond := .code yX12_takes cX12_takes 2 (some .boolean) :: zT
def rm_X12_takes : Room := { frames := 2, cells := 0, slots := 0, locals := 43 }
theorem cw_X12_takes {rm R : Room} {s : State} {args : Array Value} {own : String} {index : Nat} {c0 : Cond} (hts : ∀ w ∈ c0 :: zT, w.before args s = true) (hml : Cond.methodLink own index yX12_takes ∈ zT) (hrc : rm.cells = 0) (hrs : rm.slots = 0) (hR : rm.frames + 1 ≤ R.frames ∧ 8 + (2 + 11) + rm.locals ≤ R.locals) : CallW R s args own RX12 index yX12_takes cX12_takes 2 (some .boolean) vs_X12_takes rm 0 0 1 :=
  zwV 1 hts hml mw_936 mw_1376 mw_18 mw_937 hrc hrs (by decide +kernel) hR
def vs_X12_fail : List Cond := .code yX12_fail cX12_fail 3 none :: zT
def rm_X12_fail : Room := { frames := 0, cells := 0, slots := 0, locals := 0 }
theorem cw_X12_fail {rm R : Room} {s : State} {args : Array Value} {own : String} {index : Nat} {c0 : Cond} (hts : ∀ w ∈ c0 :: zT, w.before args s = true) (hml : Cond.methodLink own index yX12_fail ∈ zT) (hrc : rm.cells = 0) (hrs : rm.slots = 0) (hR : rm.frames + 1 ≤ R.frames ∧ 8 + (3 + 11) + rm.locals ≤ R.locals) : CallW R s args own RX12 index yX12_fail cX12_fail 3 none vs_X12_fail rm 0 0 2 :=
  zwV 2 hts hml mw_945 mw_1378 mw_18 mw_946 hrc hrs (by decide +kernel) hR
def vs_X12_asks : List Cond := .code yX12_asks cX12_asks 2 none :: zT
def rm_X12_asks : Room := { frames := 3, cells := 0, slots := 0, locals := 64 }
theorem cw_X12_asks {rm R : Room} {s : State} {args : Array Value} {own : String} {index : Nat} {c0 : Cond} (hts : ∀ w ∈ c0 :: zT, w.before args s = true) (hml : Cond.methodLink own index yX12_asks ∈ zT) (hrc : rm.cells = 0) (hrs : rm.slots = 0) (hR : rm.frames + 1 ≤ R.frames ∧ 8 + (2 + 11) + rm.locals ≤ R.locals) : CallW R s args own RX12 index yX12_asks cX12_asks 2 none vs_X12_asks rm 0 0 1 :=
  zwV 1 hts hml mw_962 mw_1383 mw_18 mw_963 hrc hrs (by decide +kernel) hR
def vs_X12_code : List Cond := .code yX12_code cX12_code 2 none :: zT
def rm_X12_code : Room := { frames := 0, cells := 0, slots := 0, locals := 0 }
theorem cw_X12_code {rm R : Room} {s : State} {args : Array Value} {own : String} {index : Nat} {c0 : Cond} (hts : ∀ w ∈ c0 :: zT, w.before args s = true) (hml : Cond.methodLink own index yX12_code ∈ zT) (hrc : rm.cells = 0) (hrs : rm.slots = 0) (hR : rm.frames + 1 ≤ R.frames ∧ 8 + (2 + 11) + rm.locals ≤ R.locals) : CallW R s args own RX12 index yX12_code cX12_code 2 none vs_X12_code rm 0 0 1 :=
  zwV 1 hts hml mw_992 mw_1391 mw_18 mw_993 hrc hrs (by decide +kernel) hR
def vs_X12_drops : List Cond := .code yX12_drops cX12_drops 1 none :: zT
def rm_X12_drops : Room := { frames := 1, cells := 0, slots := 0, locals := 21 }
theorem cw_X12_drops {rm R : Room} {s : State} {args : Array Value} {own : String} {index : Nat} {c0 : Cond} (hts : ∀ w ∈ c0 :: zT, w.before args s = true) (hml : Cond.methodLink own index yX12_drops ∈ zT) (hrc : rm.cells = 0) (hrs : rm.slots = 0) (hR : rm.frames + 1 ≤ R.frames ∧ 8 + (1 + 11) + rm.locals ≤ R.locals) : CallW R s args own RX12 index yX12_drops cX12_drops 1 none vs_X12_drops rm 0 0 0 :=
  zwV 0 hts hml mw_1007 mw_1396 mw_18 mw_1008 hrc hrs (by decide +kernel) hR
def vs_X12_isDigit : List Cond := .code yX12_isDigit cX12_isDigit 1 (some .boolean) :: zT
def rm_X12_isDigit : Room := { frames := 0, cells := 0, slots := 0, locals := 0 }
theorem cw_X12_isDigit {R : Room} {s : State} {args : Array Value} {own : String} {index : Nat} {c0 : Cond} (hts : ∀ w ∈ c0 :: zT, w.before args s = true) (hml : Cond.methodLink own index yX12_isDigit ∈ zT) (hR : rm_X12_isDigit.frames + 1 ≤ R.frames ∧ 8 + (1 + 11) + rm_X12_isDigit.locals ≤ R.locals) : CallB R s args own index yX12_isDigit cX12_isDigit 1 (some .boolean) vs_X12_isDigit rm_X12_isDigit 0 0 1 ∧ (Cond.static yX12_isDigit).before args s = true :=
  zwS 1 hts hml mw_968 mw_18 mw_969 rfl rfl (by decide +kernel) hR
def vs_X12_isIn : List Cond := .code yX12_isIn cX12_isIn 6 (some .boolean) :: zT
def rm_X12_isIn : Room := { frames := 0, cells := 0, slots := 0, locals := 0 }
theorem cw_X12_isIn {R : Room} {s : State} {args : Array Value} {own : String} {index : Nat} {c0 : Cond} (hts : ∀ w ∈ c0 :: zT, w.before args s = true) (hml : Cond.methodLink own index yX12_isIn ∈ zT) (hR : rm_X12_isIn.frames + 1 ≤ R.frames ∧ 8 + (6 + 11) + rm_X12_isIn.locals ≤ R.locals) : CallB R s args own index yX12_isIn cX12_isIn 6 (some .boolean) vs_X12_isIn rm_X12_isIn 0 0 3 ∧ (Cond.static yX12_isIn).before args s = true :=
  zwS 3 hts hml mw_971 mw_18 mw_972 rfl rfl (by decide +kernel) hR
def vs_X12_number : List Cond := .code yX12_number cX12_number 5 (some .int) :: zT
def rm_X12_number : Room := { frames := 1, cells := 0, slots := 0, locals := 25 }
theorem cw_X12_number {rm R : Room} {s : State} {args : Array Value} {own : String} {index : Nat} {c0 : Cond} (hts : ∀ w ∈ c0 :: zT, w.before args s = true) (hml : Cond.methodLink own index yX12_number ∈ zT) (hrc : rm.cells = 0) (hrs : rm.slots = 0) (hR : rm.frames + 1 ≤ R.frames ∧ 8 + (5 + 11) + rm.locals ≤ R.locals) : CallW R s args own RX12 index yX12_number cX12_number 5 (some .int) vs_X12_number rm 0 0 2 :=
  zwV 2 hts hml mw_965 mw_1384 mw_18 mw_966 hrc hrs (by decide +kernel) hR
def vs_X12_takesSign : List Cond := .code yX12_takesSign cX12_takesSign 2 (some .boolean) :: zT
def rm_X12_takesSign : Room := { frames := 1, cells := 0, slots := 0, locals := 20 }
theorem cw_X12_takesSign {rm R : Room} {s : State} {args : Array Value} {own : String} {index : Nat} {c0 : Cond} (hts : ∀ w ∈ c0 :: zT, w.before args s = true) (hml : Cond.methodLink own index yX12_takesSign ∈ zT) (hrc : rm.cells = 0) (hrs : rm.slots = 0) (hR : rm.frames + 1 ≤ R.frames ∧ 8 + (2 + 11) + rm.locals ≤ R.locals) : CallW R s args own RX12 index yX12_takesSign cX12_takesSign 2 (some .boolean) vs_X12_takesSign rm 0 0 1 :=
  zwV 1 hts hml mw_989 mw_1390 mw_18 mw_990 hrc hrs (by decide +kernel) hR
def vs_X12_asksSign : List Cond := .code yX12_asksSign cX12_asksSign 2 none :: zT
def rm_X12_asksSign : Room := { frames := 2, cells := 0, slots := 0, locals := 41 }
theorem cw_X12_asksSign {rm R : Room} {s : State} {args : Array Value} {own : String} {index : Nat} {c0 : Cond} (hts : ∀ w ∈ c0 :: zT, w.before args s = true) (hml : Cond.methodLink own index yX12_asksSign ∈ zT) (hrc : rm.cells = 0) (hrs : rm.slots = 0) (hR : rm.frames + 1 ≤ R.frames ∧ 8 + (2 + 11) + rm.locals ≤ R.locals) : CallW R s args own RX12 index yX12_asksSign cX12_asksSign 2 none vs_X12_asksSign rm 0 0 1 :=
  zwV 1 hts hml mw_986 mw_1389 mw_18 mw_987 hrc hrs (by decide +kernel) hR
def vs_X12_opens : List Cond := .code yX12_opens cX12_opens 3 none :: zT
def rm_X12_opens : Room := { frames := 1, cells := 0, slots := 0, locals := 22 }
theorem cw_X12_opens {rm R : Room} {s : State} {args : Array Value} {own : String} {index : Nat} {c0 : Cond} (hts : ∀ w ∈ c0 :: zT, w.before args s = true) (hml : Cond.methodLink own index yX12_opens ∈ zT) (hrc : rm.cells = 0) (hrs : rm.slots = 0) (hR : rm.frames + 1 ≤ R.frames ∧ 8 + (3 + 11) + rm.locals ≤ R.locals) : CallW R s args own RX12 index yX12_opens cX12_opens 3 none vs_X12_opens rm 0 0 2 :=
  zwV 2 hts hml mw_983 mw_1388 mw_18 mw_984 hrc hrs (by decide +kernel) hR
def vs_X12_onePart : List Cond := .code yX12_onePart cX12_onePart 5 none :: zT
def rm_X12_onePart : Room := { frames := 4, cells := 0, slots := 0, locals := 85 }
theorem cw_X12_onePart {rm R : Room} {s : State} {args : Array Value} {own : String} {index : Nat} {c0 : Cond} (hts : ∀ w ∈ c0 :: zT, w.before args s = true) (hml : Cond.methodLink own index yX12_onePart ∈ zT) (hrc : rm.cells = 0) (hrs : rm.slots = 0) (hR : rm.frames + 1 ≤ R.frames ∧ 8 + (5 + 11) + rm.locals ≤ R.locals) : CallW R s args own RX12 index yX12_onePart cX12_onePart 5 none vs_X12_onePart rm 0 0 0 :=
  zwV 0 hts hml mw_980 mw_1387 mw_18 mw_981 hrc hrs (by decide +kernel) hR
def vs_X12_isOn : List Cond := .code yX12_isOn cX12_isOn 2 (some .boolean) :: zT
def rm_X12_isOn : Room := { frames := 0, cells := 0, slots := 0, locals := 0 }
theorem cw_X12_isOn {rm R : Room} {s : State} {args : Array Value} {own : String} {index : Nat} {c0 : Cond} (hts : ∀ w ∈ c0 :: zT, w.before args s = true) (hml : Cond.methodLink own index yX12_isOn ∈ zT) (hrc : rm.cells = 0) (hrs : rm.slots = 0) (hR : rm.frames + 1 ≤ R.frames ∧ 8 + (2 + 11) + rm.locals ≤ R.locals) : CallW R s args own RX12 index yX12_isOn cX12_isOn 2 (some .boolean) vs_X12_isOn rm 0 0 1 :=
  zwV 1 hts hml mw_1010 mw_1397 mw_18 mw_1011 hrc hrs (by decide +kernel) hR
def vs_X12_isMark : List Cond := .code yX12_isMark cX12_isMark 2 (some .boolean) :: zT
def rm_X12_isMark : Room := { frames := 0, cells := 0, slots := 0, locals := 0 }
theorem cw_X12_isMark {rm R : Room} {s : State} {args : Array Value} {own : String} {index : Nat} {c0 : Cond} (hts : ∀ w ∈ c0 :: zT, w.before args s = true) (hml : Cond.methodLink own index yX12_isMark ∈ zT) (hrc : rm.cells = 0) (hrs : rm.slots = 0) (hR : rm.frames + 1 ≤ R.frames ∧ 8 + (2 + 11) + rm.locals ≤ R.locals) : CallW R s args own RX12 index yX12_isMark cX12_isMark 2 (some .boolean) vs_X12_isMark rm 0 0 1 :=
  zwV 1 hts hml mw_1001 mw_1394 mw_18 mw_1002 hrc hrs (by decide +kernel) hR
def vs_X12_mark : List Cond := .code yX12_mark cX12_mark 2 (some .int) :: zT
def rm_X12_mark : Room := { frames := 1, cells := 0, slots := 0, locals := 21 }
theorem cw_X12_mark {rm R : Room} {s : State} {args : Array Value} {own : String} {index : Nat} {c0 : Cond} (hts : ∀ w ∈ c0 :: zT, w.before args s = true) (hml : Cond.methodLink own index yX12_mark ∈ zT) (hrc : rm.cells = 0) (hrs : rm.slots = 0) (hR : rm.frames + 1 ≤ R.frames ∧ 8 + (2 + 11) + rm.locals ≤ R.locals) : CallW R s args own RX12 index yX12_mark cX12_mark 2 (some .int) vs_X12_mark rm 0 0 0 :=
  zwV 0 hts hml mw_998 mw_1393 mw_18 mw_999 hrc hrs (by decide +kernel) hR
def vs_X12_dropsToMark : List Cond := .code yX12_dropsToMark cX12_dropsToMark 1 none :: zT
def rm_X12_dropsToMark : Room := { frames := 2, cells := 0, slots := 0, locals := 41 }
theorem cw_X12_dropsToMark {rm R : Room} {s : State} {args : Array Value} {own : String} {index : Nat} {c0 : Cond} (hts : ∀ w ∈ c0 :: zT, w.before args s = true) (hml : Cond.methodLink own index yX12_dropsToMark ∈ zT) (hrc : rm.cells = 0) (hrs : rm.slots = 0) (hR : rm.frames + 1 ≤ R.frames ∧ 8 + (1 + 11) + rm.locals ≤ R.locals) : CallW R s args own RX12 index yX12_dropsToMark cX12_dropsToMark 1 none vs_X12_dropsToMark rm 0 0 0 :=
  zwV 0 hts hml mw_1004 mw_1395 mw_18 mw_1005 hrc hrs (by decide +kernel) hR
def vs_X12_goesOn : List Cond := .code yX12_goesOn cX12_goesOn 2 (some .boolean) :: zT
def rm_X12_goesOn : Room := { frames := 3, cells := 0, slots := 0, locals := 62 }
theorem cw_X12_goesOn {rm R : Room} {s : State} {args : Array Value} {own : String} {index : Nat} {c0 : Cond} (hts : ∀ w ∈ c0 :: zT, w.before args s = true) (hml : Cond.methodLink own index yX12_goesOn ∈ zT) (hrc : rm.cells = 0) (hrs : rm.slots = 0) (hR : rm.frames + 1 ≤ R.frames ∧ 8 + (2 + 11) + rm.locals ≤ R.locals) : CallW R s args own RX12 index yX12_goesOn cX12_goesOn 2 (some .boolean) vs_X12_goesOn rm 0 0 0 :=
  zwV 0 hts hml mw_995 mw_1392 mw_18 mw_996 hrc hrs (by decide +kernel) hR
def vs_X12_sums : List Cond := .code yX12_sums cX12_sums 3 none :: zT
def rm_X12_sums : Room := { frames := 5, cells := 0, slots := 0, locals := 109 }
theorem cw_X12_sums {rm R : Room} {s : State} {args : Array Value} {own : String} {index : Nat} {c0 : Cond} (hts : ∀ w ∈ c0 :: zT, w.before args s = true) (hml : Cond.methodLink own index yX12_sums ∈ zT) (hrc : rm.cells = 0) (hrs : rm.slots = 0) (hR : rm.frames + 1 ≤ R.frames ∧ 8 + (3 + 11) + rm.locals ≤ R.locals) : CallW R s args own RX12 index yX12_sums cX12_sums 3 none vs_X12_sums rm 0 0 0 :=
  zwV 0 hts hml mw_977 mw_1386 mw_18 mw_978 hrc hrs (by decide +kernel) hR
def vs_X12_isOwnHere : List Cond := .code yX12_isOwnHere cX12_isOwnHere 2 (some .boolean) :: zT
def rm_X12_isOwnHere : Room := { frames := 2, cells := 0, slots := 0, locals := 43 }
theorem cw_X12_isOwnHere {rm R : Room} {s : State} {args : Array Value} {own : String} {index : Nat} {c0 : Cond} (hts : ∀ w ∈ c0 :: zT, w.before args s = true) (hml : Cond.methodLink own index yX12_isOwnHere ∈ zT) (hrc : rm.cells = 0) (hrs : rm.slots = 0) (hR : rm.frames + 1 ≤ R.frames ∧ 8 + (2 + 11) + rm.locals ≤ R.locals) : CallW R s args own RX12 index yX12_isOwnHere cX12_isOwnHere 2 (some .boolean) vs_X12_isOwnHere rm 0 0 0 :=
  zwV 0 hts hml mw_954 mw_1381 mw_18 mw_955 hrc hrs (by decide +kernel) hR
def vs_X12_name : List Cond := .code yX12_name cX12_name 3 (some .long) :: zT
def rm_X12_name : Room := { frames := 3, cells := 0, slots := 0, locals := 64 }
theorem cw_X12_name {rm R : Room} {s : State} {args : Array Value} {own : String} {index : Nat} {c0 : Cond} (hts : ∀ w ∈ c0 :: zT, w.before args s = true) (hml : Cond.methodLink own index yX12_name ∈ zT) (hrc : rm.cells = 0) (hrs : rm.slots = 0) (hR : rm.frames + 1 ≤ R.frames ∧ 8 + (3 + 11) + rm.locals ≤ R.locals) : CallW R s args own RX12 index yX12_name cX12_name 3 (some .long) vs_X12_name rm 0 0 0 :=
  zwV 0 hts hml mw_951 mw_1380 mw_18 mw_952 hrc hrs (by decide +kernel) hR
def vs_X12_personOf : List Cond := .code yX12_personOf cX12_personOf 4 (some .int) :: zT
def rm_X12_personOf : Room := { frames := 0, cells := 0, slots := 0, locals := 0 }
theorem cw_X12_personOf {rm R : Room} {s : State} {args : Array Value} {own : String} {index : Nat} {c0 : Cond} (hts : ∀ w ∈ c0 :: zT, w.before args s = true) (hml : Cond.methodLink own index yX12_personOf ∈ zT) (hrc : rm.cells = 0) (hrs : rm.slots = 0) (hR : rm.frames + 1 ≤ R.frames ∧ 8 + (4 + 11) + rm.locals ≤ R.locals) : CallW R s args own RX12 index yX12_personOf cX12_personOf 4 (some .int) vs_X12_personOf rm 0 0 1 :=
  zwV 1 hts hml mw_959 mw_1382 mw_18 mw_960 hrc hrs (by decide +kernel) hR
def vs_X12_personTold : List Cond := .code yX12_personTold cX12_personTold 5 (some .int) :: zT
def rm_X12_personTold : Room := { frames := 4, cells := 0, slots := 0, locals := 86 }
theorem cw_X12_personTold {rm R : Room} {s : State} {args : Array Value} {own : String} {index : Nat} {c0 : Cond} (hts : ∀ w ∈ c0 :: zT, w.before args s = true) (hml : Cond.methodLink own index yX12_personTold ∈ zT) (hrc : rm.cells = 0) (hrs : rm.slots = 0) (hR : rm.frames + 1 ≤ R.frames ∧ 8 + (5 + 11) + rm.locals ≤ R.locals) : CallW R s args own RX12 index yX12_personTold cX12_personTold 5 (some .int) vs_X12_personTold rm 0 0 1 :=
  zwV 1 hts hml mw_1019 mw_1400 mw_18 mw_1020 hrc hrs (by decide +kernel) hR
def vs_X12_fact : List Cond := .code yX12_fact cX12_fact 2 none :: zT
def rm_X12_fact : Room := { frames := 6, cells := 0, slots := 0, locals := 131 }
theorem cw_X12_fact {rm R : Room} {s : State} {args : Array Value} {own : String} {index : Nat} {c0 : Cond} (hts : ∀ w ∈ c0 :: zT, w.before args s = true) (hml : Cond.methodLink own index yX12_fact ∈ zT) (hrc : rm.cells = 0) (hrs : rm.slots = 0) (hR : rm.frames + 1 ≤ R.frames ∧ 8 + (2 + 11) + rm.locals ≤ R.locals) : CallW R s args own RX12 index yX12_fact cX12_fact 2 none vs_X12_fact rm 0 0 0 :=
  zwV 0 hts hml mw_1016 mw_1399 mw_18 mw_1017 hrc hrs (by decide +kernel) hR
def vs_X12_dropsNots : List Cond := .code yX12_dropsNots cX12_dropsNots 1 none :: zT
def rm_X12_dropsNots : Room := { frames := 2, cells := 0, slots := 0, locals := 41 }
theorem cw_X12_dropsNots {rm R : Room} {s : State} {args : Array Value} {own : String} {index : Nat} {c0 : Cond} (hts : ∀ w ∈ c0 :: zT, w.before args s = true) (hml : Cond.methodLink own index yX12_dropsNots ∈ zT) (hrc : rm.cells = 0) (hrs : rm.slots = 0) (hR : rm.frames + 1 ≤ R.frames ∧ 8 + (1 + 11) + rm.locals ≤ R.locals) : CallW R s args own RX12 index yX12_dropsNots cX12_dropsNots 1 none vs_X12_dropsNots rm 0 0 0 :=
  zwV 0 hts hml mw_1022 mw_1401 mw_18 mw_1023 hrc hrs (by decide +kernel) hR
def vs_X12_hasSquare : List Cond := .code yX12_hasSquare cX12_hasSquare 2 (some .boolean) :: zT
def rm_X12_hasSquare : Room := { frames := 0, cells := 0, slots := 0, locals := 0 }
theorem cw_X12_hasSquare {rm R : Room} {s : State} {args : Array Value} {own : String} {index : Nat} {c0 : Cond} (hts : ∀ w ∈ c0 :: zT, w.before args s = true) (hml : Cond.methodLink own index yX12_hasSquare ∈ zT) (hrc : rm.cells = 0) (hrs : rm.slots = 0) (hR : rm.frames + 1 ≤ R.frames ∧ 8 + (2 + 11) + rm.locals ≤ R.locals) : CallW R s args own RX12 index yX12_hasSquare cX12_hasSquare 2 (some .boolean) vs_X12_hasSquare rm 0 0 0 :=
  zwV 0 hts hml mw_1028 mw_1403 mw_18 mw_1029 hrc hrs (by decide +kernel) hR
def vs_X12_goesOnTest : List Cond := .code yX12_goesOnTest cX12_goesOnTest 1 (some .boolean) :: zT
def rm_X12_goesOnTest : Room := { frames := 3, cells := 0, slots := 0, locals := 64 }
theorem cw_X12_goesOnTest {rm R : Room} {s : State} {args : Array Value} {own : String} {index : Nat} {c0 : Cond} (hts : ∀ w ∈ c0 :: zT, w.before args s = true) (hml : Cond.methodLink own index yX12_goesOnTest ∈ zT) (hrc : rm.cells = 0) (hrs : rm.slots = 0) (hR : rm.frames + 1 ≤ R.frames ∧ 8 + (1 + 11) + rm.locals ≤ R.locals) : CallW R s args own RX12 index yX12_goesOnTest cX12_goesOnTest 1 (some .boolean) vs_X12_goesOnTest rm 0 0 0 :=
  zwV 0 hts hml mw_1025 mw_1402 mw_18 mw_1026 hrc hrs (by decide +kernel) hR
def vs_X12_test : List Cond := .code yX12_test cX12_test 3 none :: zT
def rm_X12_test : Room := { frames := 7, cells := 0, slots := 0, locals := 152 }
theorem cw_X12_test {rm R : Room} {s : State} {args : Array Value} {own : String} {index : Nat} {c0 : Cond} (hts : ∀ w ∈ c0 :: zT, w.before args s = true) (hml : Cond.methodLink own index yX12_test ∈ zT) (hrc : rm.cells = 0) (hrs : rm.slots = 0) (hR : rm.frames + 1 ≤ R.frames ∧ 8 + (3 + 11) + rm.locals ≤ R.locals) : CallW R s args own RX12 index yX12_test cX12_test 3 none vs_X12_test rm 0 0 0 :=
  zwV 0 hts hml mw_1013 mw_1398 mw_18 mw_1014 hrc hrs (by decide +kernel) hR
def vs_X12_rule : List Cond := .code yX12_rule cX12_rule 3 none :: zT
def rm_X12_rule : Room := { frames := 8, cells := 0, slots := 0, locals := 174 }
theorem cw_X12_rule {rm R : Room} {s : State} {args : Array Value} {own : String} {index : Nat} {c0 : Cond} (hts : ∀ w ∈ c0 :: zT, w.before args s = true) (hml : Cond.methodLink own index yX12_rule ∈ zT) (hrc : rm.cells = 0) (hrs : rm.slots = 0) (hR : rm.frames + 1 ≤ R.frames ∧ 8 + (3 + 11) + rm.locals ≤ R.locals) : CallW R s args own RX12 index yX12_rule cX12_rule 3 none vs_X12_rule rm 0 0 1 :=
  zwV 1 hts hml mw_974 mw_1385 mw_18 mw_975 hrc hrs (by decide +kernel) hR
def vs_X12_pairOf : List Cond := .code yX12_pairOf cX12_pairOf 4 (some .int) :: zT
def rm_X12_pairOf : Room := { frames := 0, cells := 0, slots := 0, locals := 0 }
theorem cw_X12_pairOf {R : Room} {s : State} {args : Array Value} {own : String} {index : Nat} {c0 : Cond} (hts : ∀ w ∈ c0 :: zT, w.before args s = true) (hml : Cond.methodLink own index yX12_pairOf ∈ zT) (hR : rm_X12_pairOf.frames + 1 ≤ R.frames ∧ 8 + (4 + 11) + rm_X12_pairOf.locals ≤ R.locals) : CallB R s args own index yX12_pairOf cX12_pairOf 4 (some .int) vs_X12_pairOf rm_X12_pairOf 0 0 2 ∧ (Cond.static yX12_pairOf).before args s = true :=
  zwS 2 hts hml mw_1031 mw_18 mw_1032 rfl rfl (by decide +kernel) hR
def vs_X12_who : List Cond := .code yX12_who cX12_who 4 none :: zT
def rm_X12_who : Room := { frames := 4, cells := 0, slots := 0, locals := 86 }
theorem cw_X12_who {rm R : Room} {s : State} {args : Array Value} {own : String} {index : Nat} {c0 : Cond} (hts : ∀ w ∈ c0 :: zT, w.before args s = true) (hml : Cond.methodLink own index yX12_who ∈ zT) (hrc : rm.cells = 0) (hrs : rm.slots = 0) (hR : rm.frames + 1 ≤ R.frames ∧ 8 + (4 + 11) + rm.locals ≤ R.locals) : CallW R s args own RX12 index yX12_who cX12_who 4 none vs_X12_who rm 0 0 0 :=
  zwV 0 hts hml mw_948 mw_1379 mw_18 mw_949 hrc hrs (by decide +kernel) hR
def vs_X12_statement : List Cond := .code yX12_statement cX12_statement 4 none :: zT
def rm_X12_statement : Room := { frames := 9, cells := 0, slots := 0, locals := 196 }
theorem cw_X12_statement {rm R : Room} {s : State} {args : Array Value} {own : String} {index : Nat} {c0 : Cond} (hts : ∀ w ∈ c0 :: zT, w.before args s = true) (hml : Cond.methodLink own index yX12_statement ∈ zT) (hrc : rm.cells = 0) (hrs : rm.slots = 0) (hR : rm.frames + 1 ≤ R.frames ∧ 8 + (4 + 11) + rm.locals ≤ R.locals) : CallW R s args own RX12 index yX12_statement cX12_statement 4 none vs_X12_statement rm 0 0 0 :=
  zwV 0 hts hml mw_933 mw_1375 mw_18 mw_934 hrc hrs (by decide +kernel) hR
def vs_X12_land : List Cond := .code yX12_land cX12_land 1 (some .int) :: zT
def rm_X12_land : Room := { frames := 10, cells := 0, slots := 0, locals := 219 }
theorem cw_X12_land {rm R : Room} {s : State} {args : Array Value} {own : String} {index : Nat} {c0 : Cond} (hts : ∀ w ∈ c0 :: zT, w.before args s = true) (hml : Cond.methodLink own index yX12_land ∈ zT) (hrc : rm.cells = 0) (hrs : rm.slots = 0) (hR : rm.frames + 1 ≤ R.frames ∧ 8 + (1 + 11) + rm.locals ≤ R.locals) : CallW R s args own RX12 index yX12_land cX12_land 1 (some .int) vs_X12_land rm 0 0 0 :=
  zwV 0 hts hml mw_926 mw_927 mw_18 mw_928 hrc hrs (by decide +kernel) hR
def vs_X12_fault : List Cond := .code yX12_fault cX12_fault 2 (some .int) :: zT
def rm_X12_fault : Room := { frames := 0, cells := 0, slots := 0, locals := 0 }
theorem cw_X12_fault {rm R : Room} {s : State} {args : Array Value} {own : String} {index : Nat} {c0 : Cond} (hts : ∀ w ∈ c0 :: zT, w.before args s = true) (hml : Cond.methodLink own index yX12_fault ∈ zT) (hrc : rm.cells = 0) (hrs : rm.slots = 0) (hR : rm.frames + 1 ≤ R.frames ∧ 8 + (2 + 11) + rm.locals ≤ R.locals) : CallW R s args own RX12 index yX12_fault cX12_fault 2 (some .int) vs_X12_fault rm 0 0 1 :=
  zwV 1 hts hml mw_1037 mw_1038 mw_18 mw_1039 hrc hrs (by decide +kernel) hR
def vs_X12_many : List Cond := .code yX12_many cX12_many 1 (some .int) :: zT
def rm_X12_many : Room := { frames := 0, cells := 0, slots := 0, locals := 0 }
theorem cw_X12_many {rm R : Room} {s : State} {args : Array Value} {own : String} {index : Nat} {c0 : Cond} (hts : ∀ w ∈ c0 :: zT, w.before args s = true) (hml : Cond.methodLink own index yX12_many ∈ zT) (hrc : rm.cells = 0) (hrs : rm.slots = 0) (hR : rm.frames + 1 ≤ R.frames ∧ 8 + (1 + 11) + rm.locals ≤ R.locals) : CallW R s args own RX12 index yX12_many cX12_many 1 (some .int) vs_X12_many rm 0 0 0 :=
  zwV 0 hts hml mw_1045 mw_1405 mw_18 mw_1046 hrc hrs (by decide +kernel) hR
def vs_X12_pairs : List Cond := .code yX12_pairs cX12_pairs 1 (some .int) :: zT
def rm_X12_pairs : Room := { frames := 1, cells := 0, slots := 0, locals := 20 }
theorem cw_X12_pairs {rm R : Room} {s : State} {args : Array Value} {own : String} {index : Nat} {c0 : Cond} (hts : ∀ w ∈ c0 :: zT, w.before args s = true) (hml : Cond.methodLink own index yX12_pairs ∈ zT) (hrc : rm.cells = 0) (hrs : rm.slots = 0) (hR : rm.frames + 1 ≤ R.frames ∧ 8 + (1 + 11) + rm.locals ≤ R.locals) : CallW R s args own RX12 index yX12_pairs cX12_pairs 1 (some .int) vs_X12_pairs rm 0 0 0 :=
  zwV 0 hts hml mw_1048 mw_1406 mw_18 mw_1049 hrc hrs (by decide +kernel) hR
def vs_X12_bits : List Cond := .code yX12_bits cX12_bits 4 (some .int) :: zT
def rm_X12_bits : Room := { frames := 0, cells := 0, slots := 0, locals := 0 }
theorem cw_X12_bits {R : Room} {s : State} {args : Array Value} {own : String} {index : Nat} {c0 : Cond} (hts : ∀ w ∈ c0 :: zT, w.before args s = true) (hml : Cond.methodLink own index yX12_bits ∈ zT) (hR : rm_X12_bits.frames + 1 ≤ R.frames ∧ 8 + (4 + 11) + rm_X12_bits.locals ≤ R.locals) : CallB R s args own index yX12_bits cX12_bits 4 (some .int) vs_X12_bits rm_X12_bits 0 0 1 ∧ (Cond.static yX12_bits).before args s = true :=
  zwS 1 hts hml mw_1051 mw_18 mw_1052 rfl rfl (by decide +kernel) hR
def vs_X12_has : List Cond := .code yX12_has cX12_has 4 (some .int) :: zT
def rm_X12_has : Room := { frames := 2, cells := 0, slots := 0, locals := 40 }
theorem cw_X12_has {rm R : Room} {s : State} {args : Array Value} {own : String} {index : Nat} {c0 : Cond} (hts : ∀ w ∈ c0 :: zT, w.before args s = true) (hml : Cond.methodLink own index yX12_has ∈ zT) (hrc : rm.cells = 0) (hrs : rm.slots = 0) (hR : rm.frames + 1 ≤ R.frames ∧ 8 + (4 + 11) + rm.locals ≤ R.locals) : CallW R s args own RX12 index yX12_has cX12_has 4 (some .int) vs_X12_has rm 0 0 1 :=
  zwV 1 hts hml mw_1041 mw_1042 mw_18 mw_1043 hrc hrs (by decide +kernel) hR
def vs_X12_isPerson : List Cond := .code yX12_isPerson cX12_isPerson 2 (some .boolean) :: zT
def rm_X12_isPerson : Room := { frames := 1, cells := 0, slots := 0, locals := 25 }
theorem cw_X12_isPerson {rm R : Room} {s : State} {args : Array Value} {own : String} {index : Nat} {c0 : Cond} (hts : ∀ w ∈ c0 :: zT, w.before args s = true) (hml : Cond.methodLink own index yX12_isPerson ∈ zT) (hrc : rm.cells = 0) (hrs : rm.slots = 0) (hR : rm.frames + 1 ≤ R.frames ∧ 8 + (2 + 11) + rm.locals ≤ R.locals) : CallW R s args own RX12 index yX12_isPerson cX12_isPerson 2 (some .boolean) vs_X12_isPerson rm 0 0 1 :=
  zwV 1 hts hml mw_1058 mw_1407 mw_18 mw_1059 hrc hrs (by decide +kernel) hR
def vs_X12_letter : List Cond := .code yX12_letter cX12_letter 8 (some .int) :: zT
def rm_X12_letter : Room := { frames := 2, cells := 0, slots := 0, locals := 46 }
theorem cw_X12_letter {rm R : Room} {s : State} {args : Array Value} {own : String} {index : Nat} {c0 : Cond} (hts : ∀ w ∈ c0 :: zT, w.before args s = true) (hml : Cond.methodLink own index yX12_letter ∈ zT) (hrc : rm.cells = 0) (hrs : rm.slots = 0) (hR : rm.frames + 1 ≤ R.frames ∧ 8 + (8 + 11) + rm.locals ≤ R.locals) : CallW R s args own RX12 index yX12_letter cX12_letter 8 (some .int) vs_X12_letter rm 0 0 2 :=
  zwV 2 hts hml mw_1054 mw_1055 mw_18 mw_1056 hrc hrs (by decide +kernel) hR
def vs_X12_isTied : List Cond := .code yX12_isTied cX12_isTied 3 (some .boolean) :: zT
def rm_X12_isTied : Room := { frames := 0, cells := 0, slots := 0, locals := 0 }
theorem cw_X12_isTied {R : Room} {s : State} {args : Array Value} {own : String} {index : Nat} {c0 : Cond} (hts : ∀ w ∈ c0 :: zT, w.before args s = true) (hml : Cond.methodLink own index yX12_isTied ∈ zT) (hR : rm_X12_isTied.frames + 1 ≤ R.frames ∧ 8 + (3 + 11) + rm_X12_isTied.locals ≤ R.locals) : CallB R s args own index yX12_isTied cX12_isTied 3 (some .boolean) vs_X12_isTied rm_X12_isTied 0 0 2 ∧ (Cond.static yX12_isTied).before args s = true :=
  zwS 2 hts hml mw_1072 mw_18 mw_1073 rfl rfl (by decide +kernel) hR
def vs_X12_tiesOf : List Cond := .code yX12_tiesOf cX12_tiesOf 6 (some .int) :: zT
def rm_X12_tiesOf : Room := { frames := 1, cells := 0, slots := 0, locals := 23 }
theorem cw_X12_tiesOf {rm R : Room} {s : State} {args : Array Value} {own : String} {index : Nat} {c0 : Cond} (hts : ∀ w ∈ c0 :: zT, w.before args s = true) (hml : Cond.methodLink own index yX12_tiesOf ∈ zT) (hrc : rm.cells = 0) (hrs : rm.slots = 0) (hR : rm.frames + 1 ≤ R.frames ∧ 8 + (6 + 11) + rm.locals ≤ R.locals) : CallW R s args own RX12 index yX12_tiesOf cX12_tiesOf 6 (some .int) vs_X12_tiesOf rm 0 0 2 :=
  zwV 2 hts hml mw_1069 mw_1409 mw_18 mw_1070 hrc hrs (by decide +kernel) hR
def vs_X12_may : List Cond := .code yX12_may cX12_may 4 (some .boolean) :: zT
def rm_X12_may : Room := { frames := 2, cells := 0, slots := 0, locals := 48 }
theorem cw_X12_may {rm R : Room} {s : State} {args : Array Value} {own : String} {index : Nat} {c0 : Cond} (hts : ∀ w ∈ c0 :: zT, w.before args s = true) (hml : Cond.methodLink own index yX12_may ∈ zT) (hrc : rm.cells = 0) (hrs : rm.slots = 0) (hR : rm.frames + 1 ≤ R.frames ∧ 8 + (4 + 11) + rm.locals ≤ R.locals) : CallW R s args own RX12 index yX12_may cX12_may 4 (some .boolean) vs_X12_may rm 0 0 1 :=
  zwV 1 hts hml mw_1066 mw_1408 mw_18 mw_1067 hrc hrs (by decide +kernel) hR
def vs_X12_net : List Cond := .code yX12_net cX12_net 3 (some .boolean) :: zT
def rm_X12_net : Room := { frames := 3, cells := 0, slots := 0, locals := 71 }
theorem cw_X12_net {rm R : Room} {s : State} {args : Array Value} {own : String} {index : Nat} {c0 : Cond} (hts : ∀ w ∈ c0 :: zT, w.before args s = true) (hml : Cond.methodLink own index yX12_net ∈ zT) (hrc : rm.cells = 0) (hrs : rm.slots = 0) (hR : rm.frames + 1 ≤ R.frames ∧ 8 + (3 + 11) + rm.locals ≤ R.locals) : CallW R s args own RX12 index yX12_net cX12_net 3 (some .boolean) vs_X12_net rm 0 0 1 :=
  zwV 1 hts hml mw_1062 mw_1063 mw_18 mw_1064 hrc hrs (by decide +kernel) hR
def vs_X12_net_ : List Cond := .code yX12_net_ cX12_net_ 1 (some .long) :: zT
def rm_X12_net_ : Room := { frames := 0, cells := 0, slots := 0, locals := 0 }
theorem cw_X12_net_ {rm R : Room} {s : State} {args : Array Value} {own : String} {index : Nat} {c0 : Cond} (hts : ∀ w ∈ c0 :: zT, w.before args s = true) (hml : Cond.methodLink own index yX12_net_ ∈ zT) (hrc : rm.cells = 0) (hrs : rm.slots = 0) (hR : rm.frames + 1 ≤ R.frames ∧ 8 + (1 + 11) + rm.locals ≤ R.locals) : CallW R s args own RX12 index yX12_net_ cX12_net_ 1 (some .long) vs_X12_net_ rm 0 0 0 :=
  zwV 0 hts hml mw_1075 mw_1076 mw_18 mw_1077 hrc hrs (by decide +kernel) hR
def vs_X12_tied : List Cond := .code yX12_tied cX12_tied 3 (some .long) :: zT
def rm_X12_tied : Room := { frames := 1, cells := 0, slots := 0, locals := 23 }
theorem cw_X12_tied {rm R : Room} {s : State} {args : Array Value} {own : String} {index : Nat} {c0 : Cond} (hts : ∀ w ∈ c0 :: zT, w.before args s = true) (hml : Cond.methodLink own index yX12_tied ∈ zT) (hrc : rm.cells = 0) (hrs : rm.slots = 0) (hR : rm.frames + 1 ≤ R.frames ∧ 8 + (3 + 11) + rm.locals ≤ R.locals) : CallW R s args own RX12 index yX12_tied cX12_tied 3 (some .long) vs_X12_tied rm 0 0 2 :=
  zwV 2 hts hml mw_1086 mw_1411 mw_18 mw_1087 hrc hrs (by decide +kernel) hR
def vs_X12_star : List Cond := .code yX12_star cX12_star 5 (some .long) :: zT
def rm_X12_star : Room := { frames := 2, cells := 0, slots := 0, locals := 45 }
theorem cw_X12_star {rm R : Room} {s : State} {args : Array Value} {own : String} {index : Nat} {c0 : Cond} (hts : ∀ w ∈ c0 :: zT, w.before args s = true) (hml : Cond.methodLink own index yX12_star ∈ zT) (hrc : rm.cells = 0) (hrs : rm.slots = 0) (hR : rm.frames + 1 ≤ R.frames ∧ 8 + (5 + 11) + rm.locals ≤ R.locals) : CallW R s args own RX12 index yX12_star cX12_star 5 (some .long) vs_X12_star rm 0 0 1 :=
  zwV 1 hts hml mw_1083 mw_1410 mw_18 mw_1084 hrc hrs (by decide +kernel) hR
def vs_X12_ringBut : List Cond := .code yX12_ringBut cX12_ringBut 7 (some .long) :: zT
def rm_X12_ringBut : Room := { frames := 2, cells := 0, slots := 0, locals := 45 }
theorem cw_X12_ringBut {rm R : Room} {s : State} {args : Array Value} {own : String} {index : Nat} {c0 : Cond} (hts : ∀ w ∈ c0 :: zT, w.before args s = true) (hml : Cond.methodLink own index yX12_ringBut ∈ zT) (hrc : rm.cells = 0) (hrs : rm.slots = 0) (hR : rm.frames + 1 ≤ R.frames ∧ 8 + (7 + 11) + rm.locals ≤ R.locals) : CallW R s args own RX12 index yX12_ringBut cX12_ringBut 7 (some .long) vs_X12_ringBut rm 0 0 1 :=
  zwV 1 hts hml mw_1089 mw_1412 mw_18 mw_1090 hrc hrs (by decide +kernel) hR
def vs_X12_shape : List Cond := .code yX12_shape cX12_shape 8 (some .long) :: zT
def rm_X12_shape : Room := { frames := 3, cells := 0, slots := 0, locals := 71 }
theorem cw_X12_shape {rm R : Room} {s : State} {args : Array Value} {own : String} {index : Nat} {c0 : Cond} (hts : ∀ w ∈ c0 :: zT, w.before args s = true) (hml : Cond.methodLink own index yX12_shape ∈ zT) (hrc : rm.cells = 0) (hrs : rm.slots = 0) (hR : rm.frames + 1 ≤ R.frames ∧ 8 + (8 + 11) + rm.locals ≤ R.locals) : CallW R s args own RX12 index yX12_shape cX12_shape 8 (some .long) vs_X12_shape rm 0 0 2 :=
  zwV 2 hts hml mw_1079 mw_1080 mw_18 mw_1081 hrc hrs (by decide +kernel) hR
def vs_X12_extra : List Cond := .code yX12_extra cX12_extra 2 (some .boolean) :: zT
def rm_X12_extra : Room := { frames := 1, cells := 0, slots := 0, locals := 25 }
theorem cw_X12_extra {rm R : Room} {s : State} {args : Array Value} {own : String} {index : Nat} {c0 : Cond} (hts : ∀ w ∈ c0 :: zT, w.before args s = true) (hml : Cond.methodLink own index yX12_extra ∈ zT) (hrc : rm.cells = 0) (hrs : rm.slots = 0) (hR : rm.frames + 1 ≤ R.frames ∧ 8 + (2 + 11) + rm.locals ≤ R.locals) : CallW R s args own RX12 index yX12_extra cX12_extra 2 (some .boolean) vs_X12_extra rm 0 0 1 :=
  zwV 1 hts hml mw_1092 mw_1093 mw_18 mw_1094 hrc hrs (by decide +kernel) hR
def vs_X12_clip : List Cond := .code yX12_clip cX12_clip 2 (some .long) :: zT
def rm_X12_clip : Room := { frames := 0, cells := 0, slots := 0, locals := 0 }
theorem cw_X12_clip {R : Room} {s : State} {args : Array Value} {own : String} {index : Nat} {c0 : Cond} (hts : ∀ w ∈ c0 :: zT, w.before args s = true) (hml : Cond.methodLink own index yX12_clip ∈ zT) (hR : rm_X12_clip.frames + 1 ≤ R.frames ∧ 8 + (2 + 11) + rm_X12_clip.locals ≤ R.locals) : CallB R s args own index yX12_clip cX12_clip 2 (some .long) vs_X12_clip rm_X12_clip 0 0 1 ∧ (Cond.static yX12_clip).before args s = true :=
  zwS 1 hts hml mw_1129 mw_18 mw_1130 rfl rfl (by decide +kernel) hR
def vs_X12_puts : List Cond := .code yX12_puts cX12_puts 3 none :: zT
def rm_X12_puts : Room := { frames := 0, cells := 0, slots := 0, locals := 0 }
theorem cw_X12_puts {rm R : Room} {s : State} {args : Array Value} {own : String} {index : Nat} {c0 : Cond} (hts : ∀ w ∈ c0 :: zT, w.before args s = true) (hml : Cond.methodLink own index yX12_puts ∈ zT) (hrc : rm.cells = 0) (hrs : rm.slots = 0) (hR : rm.frames + 1 ≤ R.frames ∧ 8 + (3 + 11) + rm.locals ≤ R.locals) : CallW R s args own RX12 index yX12_puts cX12_puts 3 none vs_X12_puts rm 0 0 1 :=
  zwV 1 hts hml mw_1123 mw_1420 mw_18 mw_1124 hrc hrs (by decide +kernel) hR
def vs_X12_floor : List Cond := .code yX12_floor cX12_floor 6 (some .long) :: zT
def rm_X12_floor : Room := { frames := 0, cells := 0, slots := 0, locals := 0 }
theorem cw_X12_floor {R : Room} {s : State} {args : Array Value} {own : String} {index : Nat} {c0 : Cond} (hts : ∀ w ∈ c0 :: zT, w.before args s = true) (hml : Cond.methodLink own index yX12_floor ∈ zT) (hR : rm_X12_floor.frames + 1 ≤ R.frames ∧ 8 + (6 + 11) + rm_X12_floor.locals ≤ R.locals) : CallB R s args own index yX12_floor cX12_floor 6 (some .long) vs_X12_floor rm_X12_floor 0 0 2 ∧ (Cond.static yX12_floor).before args s = true :=
  zwS 2 hts hml mw_1134 mw_18 mw_1135 rfl rfl (by decide +kernel) hR
def vs_X12_joins : List Cond := .code yX12_joins cX12_joins 6 none :: zT
def rm_X12_joins : Room := { frames := 1, cells := 0, slots := 0, locals := 25 }
theorem cw_X12_joins {rm R : Room} {s : State} {args : Array Value} {own : String} {index : Nat} {c0 : Cond} (hts : ∀ w ∈ c0 :: zT, w.before args s = true) (hml : Cond.methodLink own index yX12_joins ∈ zT) (hrc : rm.cells = 0) (hrs : rm.slots = 0) (hR : rm.frames + 1 ≤ R.frames ∧ 8 + (6 + 11) + rm.locals ≤ R.locals) : CallW R s args own RX12 index yX12_joins cX12_joins 6 none vs_X12_joins rm 0 0 1 :=
  zwV 1 hts hml mw_1126 mw_1421 mw_18 mw_1127 hrc hrs (by decide +kernel) hR
def vs_X12_tellsCodes : List Cond := .code yX12_tellsCodes cX12_tellsCodes 7 (some .long) :: zT
def rm_X12_tellsCodes : Room := { frames := 2, cells := 0, slots := 0, locals := 50 }
theorem cw_X12_tellsCodes {rm R : Room} {s : State} {args : Array Value} {own : String} {index : Nat} {c0 : Cond} (hts : ∀ w ∈ c0 :: zT, w.before args s = true) (hml : Cond.methodLink own index yX12_tellsCodes ∈ zT) (hrc : rm.cells = 0) (hrs : rm.slots = 0) (hR : rm.frames + 1 ≤ R.frames ∧ 8 + (7 + 11) + rm.locals ≤ R.locals) : CallW R s args own RX12 index yX12_tellsCodes cX12_tellsCodes 7 (some .long) vs_X12_tellsCodes rm 0 0 4 :=
  zwV 4 hts hml mw_1120 mw_1419 mw_18 mw_1121 hrc hrs (by decide +kernel) hR
def vs_X12_tellsRule : List Cond := .code yX12_tellsRule cX12_tellsRule 5 (some .long) :: zT
def rm_X12_tellsRule : Room := { frames := 3, cells := 0, slots := 0, locals := 76 }
theorem cw_X12_tellsRule {rm R : Room} {s : State} {args : Array Value} {own : String} {index : Nat} {c0 : Cond} (hts : ∀ w ∈ c0 :: zT, w.before args s = true) (hml : Cond.methodLink own index yX12_tellsRule ∈ zT) (hrc : rm.cells = 0) (hrs : rm.slots = 0) (hR : rm.frames + 1 ≤ R.frames ∧ 8 + (5 + 11) + rm.locals ≤ R.locals) : CallW R s args own RX12 index yX12_tellsRule cX12_tellsRule 5 (some .long) vs_X12_tellsRule rm 0 0 3 :=
  zwV 3 hts hml mw_1117 mw_1418 mw_18 mw_1118 hrc hrs (by decide +kernel) hR
def vs_X12_worthTo : List Cond := .code yX12_worthTo cX12_worthTo 5 (some .long) :: zT
def rm_X12_worthTo : Room := { frames := 4, cells := 0, slots := 0, locals := 100 }
theorem cw_X12_worthTo {rm R : Room} {s : State} {args : Array Value} {own : String} {index : Nat} {c0 : Cond} (hts : ∀ w ∈ c0 :: zT, w.before args s = true) (hml : Cond.methodLink own index yX12_worthTo ∈ zT) (hrc : rm.cells = 0) (hrs : rm.slots = 0) (hR : rm.frames + 1 ≤ R.frames ∧ 8 + (5 + 11) + rm.locals ≤ R.locals) : CallW R s args own RX12 index yX12_worthTo cX12_worthTo 5 (some .long) vs_X12_worthTo rm 0 0 1 :=
  zwV 1 hts hml mw_1114 mw_1417 mw_18 mw_1115 hrc hrs (by decide +kernel) hR
def vs_X12_looks : List Cond := .code yX12_looks cX12_looks 10 none :: zT
def rm_X12_looks : Room := { frames := 2, cells := 0, slots := 0, locals := 48 }
theorem cw_X12_looks {rm R : Room} {s : State} {args : Array Value} {own : String} {index : Nat} {c0 : Cond} (hts : ∀ w ∈ c0 :: zT, w.before args s = true) (hml : Cond.methodLink own index yX12_looks ∈ zT) (hrc : rm.cells = 0) (hrs : rm.slots = 0) (hR : rm.frames + 1 ≤ R.frames ∧ 8 + (10 + 11) + rm.locals ≤ R.locals) : CallW R s args own RX12 index yX12_looks cX12_looks 10 none vs_X12_looks rm 0 0 1 :=
  zwV 1 hts hml mw_1111 mw_1416 mw_18 mw_1112 hrc hrs (by decide +kernel) hR
def vs_X12_fillsTable : List Cond := .code yX12_fillsTable cX12_fillsTable 3 none :: zT
def rm_X12_fillsTable : Room := { frames := 5, cells := 0, slots := 0, locals := 124 }
theorem cw_X12_fillsTable {rm R : Room} {s : State} {args : Array Value} {own : String} {index : Nat} {c0 : Cond} (hts : ∀ w ∈ c0 :: zT, w.before args s = true) (hml : Cond.methodLink own index yX12_fillsTable ∈ zT) (hrc : rm.cells = 0) (hrs : rm.slots = 0) (hR : rm.frames + 1 ≤ R.frames ∧ 8 + (3 + 11) + rm.locals ≤ R.locals) : CallW R s args own RX12 index yX12_fillsTable cX12_fillsTable 3 none vs_X12_fillsTable rm 0 0 0 :=
  zwV 0 hts hml mw_1108 mw_1415 mw_18 mw_1109 hrc hrs (by decide +kernel) hR
def vs_X12_worthOf : List Cond := .code yX12_worthOf cX12_worthOf 6 (some .long) :: zT
def rm_X12_worthOf : Room := { frames := 6, cells := 0, slots := 0, locals := 146 }
theorem cw_X12_worthOf {rm R : Room} {s : State} {args : Array Value} {own : String} {index : Nat} {c0 : Cond} (hts : ∀ w ∈ c0 :: zT, w.before args s = true) (hml : Cond.methodLink own index yX12_worthOf ∈ zT) (hrc : rm.cells = 0) (hrs : rm.slots = 0) (hR : rm.frames + 1 ≤ R.frames ∧ 8 + (6 + 11) + rm.locals ≤ R.locals) : CallW R s args own RX12 index yX12_worthOf cX12_worthOf 6 (some .long) vs_X12_worthOf rm 0 0 2 :=
  zwV 2 hts hml mw_1105 mw_1414 mw_18 mw_1106 hrc hrs (by decide +kernel) hR
def vs_X12_worthOfAll : List Cond := .code yX12_worthOfAll cX12_worthOfAll 6 (some .long) :: zT
def rm_X12_worthOfAll : Room := { frames := 7, cells := 0, slots := 0, locals := 171 }
theorem cw_X12_worthOfAll {rm R : Room} {s : State} {args : Array Value} {own : String} {index : Nat} {c0 : Cond} (hts : ∀ w ∈ c0 :: zT, w.before args s = true) (hml : Cond.methodLink own index yX12_worthOfAll ∈ zT) (hrc : rm.cells = 0) (hrs : rm.slots = 0) (hR : rm.frames + 1 ≤ R.frames ∧ 8 + (6 + 11) + rm.locals ≤ R.locals) : CallW R s args own RX12 index yX12_worthOfAll cX12_worthOfAll 6 (some .long) vs_X12_worthOfAll rm 0 0 1 :=
  zwV 1 hts hml mw_1102 mw_1413 mw_18 mw_1103 hrc hrs (by decide +kernel) hR
def vs_X12_worth : List Cond := .code yX12_worth cX12_worth 2 (some .long) :: zT
def rm_X12_worth : Room := { frames := 8, cells := 0, slots := 0, locals := 196 }
theorem cw_X12_worth {rm R : Room} {s : State} {args : Array Value} {own : String} {index : Nat} {c0 : Cond} (hts : ∀ w ∈ c0 :: zT, w.before args s = true) (hml : Cond.methodLink own index yX12_worth ∈ zT) (hrc : rm.cells = 0) (hrs : rm.slots = 0) (hR : rm.frames + 1 ≤ R.frames ∧ 8 + (2 + 11) + rm.locals ≤ R.locals) : CallW R s args own RX12 index yX12_worth cX12_worth 2 (some .long) vs_X12_worth rm 0 0 1 :=
  zwV 1 hts hml mw_1098 mw_1099 mw_18 mw_1100 hrc hrs (by decide +kernel) hR
def vs_X12_ways : List Cond := .code yX12_ways cX12_ways 3 (some .int) :: zT
def rm_X12_ways : Room := { frames := 3, cells := 0, slots := 0, locals := 77 }
theorem cw_X12_ways {rm R : Room} {s : State} {args : Array Value} {own : String} {index : Nat} {c0 : Cond} (hts : ∀ w ∈ c0 :: zT, w.before args s = true) (hml : Cond.methodLink own index yX12_ways ∈ zT) (hrc : rm.cells = 0) (hrs : rm.slots = 0) (hR : rm.frames + 1 ≤ R.frames ∧ 8 + (3 + 11) + rm.locals ≤ R.locals) : CallW R s args own RX12 index yX12_ways cX12_ways 3 (some .int) vs_X12_ways rm 0 0 2 :=
  zwV 2 hts hml mw_1138 mw_1139 mw_18 mw_1140 hrc hrs (by decide +kernel) hR
def vs_X12_begins : List Cond := .code yX12_begins cX12_begins 4 none :: zT
def rm_X12_begins : Room := { frames := 7, cells := 0, slots := 0, locals := 171 }
theorem cw_X12_begins {rm R : Room} {s : State} {args : Array Value} {own : String} {index : Nat} {c0 : Cond} (hts : ∀ w ∈ c0 :: zT, w.before args s = true) (hml : Cond.methodLink own index yX12_begins ∈ zT) (hrc : rm.cells = 0) (hrs : rm.slots = 0) (hR : rm.frames + 1 ≤ R.frames ∧ 8 + (4 + 11) + rm.locals ≤ R.locals) : CallW R s args own RX12 index yX12_begins cX12_begins 4 none vs_X12_begins rm 0 0 1 :=
  zwV 1 hts hml mw_1149 mw_1423 mw_18 mw_1150 hrc hrs (by decide +kernel) hR
def vs_X12_finds : List Cond := .code yX12_finds cX12_finds 5 (some .boolean) :: zT
def rm_X12_finds : Room := { frames := 0, cells := 0, slots := 0, locals := 0 }
theorem cw_X12_finds {rm R : Room} {s : State} {args : Array Value} {own : String} {index : Nat} {c0 : Cond} (hts : ∀ w ∈ c0 :: zT, w.before args s = true) (hml : Cond.methodLink own index yX12_finds ∈ zT) (hrc : rm.cells = 0) (hrs : rm.slots = 0) (hR : rm.frames + 1 ≤ R.frames ∧ 8 + (5 + 11) + rm.locals ≤ R.locals) : CallW R s args own RX12 index yX12_finds cX12_finds 5 (some .boolean) vs_X12_finds rm 0 0 3 :=
  zwV 3 hts hml mw_1161 mw_1425 mw_18 mw_1162 hrc hrs (by decide +kernel) hR
def vs_X12_highOf : List Cond := .code yX12_highOf cX12_highOf 2 (some .int) :: zT
def rm_X12_highOf : Room := { frames := 0, cells := 0, slots := 0, locals := 0 }
theorem cw_X12_highOf {R : Room} {s : State} {args : Array Value} {own : String} {index : Nat} {c0 : Cond} (hts : ∀ w ∈ c0 :: zT, w.before args s = true) (hml : Cond.methodLink own index yX12_highOf ∈ zT) (hR : rm_X12_highOf.frames + 1 ≤ R.frames ∧ 8 + (2 + 11) + rm_X12_highOf.locals ≤ R.locals) : CallB R s args own index yX12_highOf cX12_highOf 2 (some .int) vs_X12_highOf rm_X12_highOf 0 0 1 ∧ (Cond.static yX12_highOf).before args s = true :=
  zwS 1 hts hml mw_1158 mw_18 mw_1159 rfl rfl (by decide +kernel) hR
def vs_X12_lowOf : List Cond := .code yX12_lowOf cX12_lowOf 2 (some .int) :: zT
def rm_X12_lowOf : Room := { frames := 1, cells := 0, slots := 0, locals := 21 }
theorem cw_X12_lowOf {R : Room} {s : State} {args : Array Value} {own : String} {index : Nat} {c0 : Cond} (hts : ∀ w ∈ c0 :: zT, w.before args s = true) (hml : Cond.methodLink own index yX12_lowOf ∈ zT) (hR : rm_X12_lowOf.frames + 1 ≤ R.frames ∧ 8 + (2 + 11) + rm_X12_lowOf.locals ≤ R.locals) : CallB R s args own index yX12_lowOf cX12_lowOf 2 (some .int) vs_X12_lowOf rm_X12_lowOf 0 0 1 ∧ (Cond.static yX12_lowOf).before args s = true :=
  zwS 1 hts hml mw_1155 mw_18 mw_1156 rfl rfl (by decide +kernel) hR
def vs_X12_gains : List Cond := .code yX12_gains cX12_gains 4 (some .boolean) :: zT
def rm_X12_gains : Room := { frames := 7, cells := 0, slots := 0, locals := 171 }
theorem cw_X12_gains {rm R : Room} {s : State} {args : Array Value} {own : String} {index : Nat} {c0 : Cond} (hts : ∀ w ∈ c0 :: zT, w.before args s = true) (hml : Cond.methodLink own index yX12_gains ∈ zT) (hrc : rm.cells = 0) (hrs : rm.slots = 0) (hR : rm.frames + 1 ≤ R.frames ∧ 8 + (4 + 11) + rm.locals ≤ R.locals) : CallW R s args own RX12 index yX12_gains cX12_gains 4 (some .boolean) vs_X12_gains rm 0 0 2 :=
  zwV 2 hts hml mw_1176 mw_1430 mw_18 mw_1177 hrc hrs (by decide +kernel) hR
def vs_X12_cutter : List Cond := .code yX12_cutter cX12_cutter 8 (some .int) :: zT
def rm_X12_cutter : Room := { frames := 8, cells := 0, slots := 0, locals := 194 }
theorem cw_X12_cutter {rm R : Room} {s : State} {args : Array Value} {own : String} {index : Nat} {c0 : Cond} (hts : ∀ w ∈ c0 :: zT, w.before args s = true) (hml : Cond.methodLink own index yX12_cutter ∈ zT) (hrc : rm.cells = 0) (hrs : rm.slots = 0) (hR : rm.frames + 1 ≤ R.frames ∧ 8 + (8 + 11) + rm.locals ≤ R.locals) : CallW R s args own RX12 index yX12_cutter cX12_cutter 8 (some .int) vs_X12_cutter rm 0 0 2 :=
  zwV 2 hts hml mw_1173 mw_1429 mw_18 mw_1174 hrc hrs (by decide +kernel) hR
def vs_X12_findsCut : List Cond := .code yX12_findsCut cX12_findsCut 5 (some .boolean) :: zT
def rm_X12_findsCut : Room := { frames := 9, cells := 0, slots := 0, locals := 221 }
theorem cw_X12_findsCut {rm R : Room} {s : State} {args : Array Value} {own : String} {index : Nat} {c0 : Cond} (hts : ∀ w ∈ c0 :: zT, w.before args s = true) (hml : Cond.methodLink own index yX12_findsCut ∈ zT) (hrc : rm.cells = 0) (hrs : rm.slots = 0) (hR : rm.frames + 1 ≤ R.frames ∧ 8 + (5 + 11) + rm.locals ≤ R.locals) : CallW R s args own RX12 index yX12_findsCut cX12_findsCut 5 (some .boolean) vs_X12_findsCut rm 0 0 1 :=
  zwV 1 hts hml mw_1170 mw_1428 mw_18 mw_1171 hrc hrs (by decide +kernel) hR
def vs_X12_findsSwap : List Cond := .code yX12_findsSwap cX12_findsSwap 9 (some .boolean) :: zT
def rm_X12_findsSwap : Room := { frames := 8, cells := 0, slots := 0, locals := 194 }
theorem cw_X12_findsSwap {rm R : Room} {s : State} {args : Array Value} {own : String} {index : Nat} {c0 : Cond} (hts : ∀ w ∈ c0 :: zT, w.before args s = true) (hml : Cond.methodLink own index yX12_findsSwap ∈ zT) (hrc : rm.cells = 0) (hrs : rm.slots = 0) (hR : rm.frames + 1 ≤ R.frames ∧ 8 + (9 + 11) + rm.locals ≤ R.locals) : CallW R s args own RX12 index yX12_findsSwap cX12_findsSwap 9 (some .boolean) vs_X12_findsSwap rm 0 0 1 :=
  zwV 1 hts hml mw_1191 mw_1435 mw_18 mw_1192 hrc hrs (by decide +kernel) hR
def vs_X12_ownTies : List Cond := .code yX12_ownTies cX12_ownTies 7 (some .long) :: zT
def rm_X12_ownTies : Room := { frames := 2, cells := 0, slots := 0, locals := 45 }
theorem cw_X12_ownTies {rm R : Room} {s : State} {args : Array Value} {own : String} {index : Nat} {c0 : Cond} (hts : ∀ w ∈ c0 :: zT, w.before args s = true) (hml : Cond.methodLink own index yX12_ownTies ∈ zT) (hrc : rm.cells = 0) (hrs : rm.slots = 0) (hR : rm.frames + 1 ≤ R.frames ∧ 8 + (7 + 11) + rm.locals ≤ R.locals) : CallW R s args own RX12 index yX12_ownTies cX12_ownTies 7 (some .long) vs_X12_ownTies rm 0 0 2 :=
  zwV 2 hts hml mw_1188 mw_1434 mw_18 mw_1189 hrc hrs (by decide +kernel) hR
def vs_X12_findsSeveral : List Cond := .code yX12_findsSeveral cX12_findsSeveral 8 (some .boolean) :: zT
def rm_X12_findsSeveral : Room := { frames := 8, cells := 0, slots := 0, locals := 194 }
theorem cw_X12_findsSeveral {rm R : Room} {s : State} {args : Array Value} {own : String} {index : Nat} {c0 : Cond} (hts : ∀ w ∈ c0 :: zT, w.before args s = true) (hml : Cond.methodLink own index yX12_findsSeveral ∈ zT) (hrc : rm.cells = 0) (hrs : rm.slots = 0) (hR : rm.frames + 1 ≤ R.frames ∧ 8 + (8 + 11) + rm.locals ≤ R.locals) : CallW R s args own RX12 index yX12_findsSeveral cX12_findsSeveral 8 (some .boolean) vs_X12_findsSeveral rm 0 0 1 :=
  zwV 1 hts hml mw_1185 mw_1433 mw_18 mw_1186 hrc hrs (by decide +kernel) hR
def vs_X12_isAdd : List Cond := .code yX12_isAdd cX12_isAdd 10 (some .boolean) :: zT
def rm_X12_isAdd : Room := { frames := 7, cells := 0, slots := 0, locals := 171 }
theorem cw_X12_isAdd {rm R : Room} {s : State} {args : Array Value} {own : String} {index : Nat} {c0 : Cond} (hts : ∀ w ∈ c0 :: zT, w.before args s = true) (hml : Cond.methodLink own index yX12_isAdd ∈ zT) (hrc : rm.cells = 0) (hrs : rm.slots = 0) (hR : rm.frames + 1 ≤ R.frames ∧ 8 + (10 + 11) + rm.locals ≤ R.locals) : CallW R s args own RX12 index yX12_isAdd cX12_isAdd 10 (some .boolean) vs_X12_isAdd rm 0 0 2 :=
  zwV 2 hts hml mw_1182 mw_1432 mw_18 mw_1183 hrc hrs (by decide +kernel) hR
def vs_X12_findsAdd : List Cond := .code yX12_findsAdd cX12_findsAdd 4 (some .boolean) :: zT
def rm_X12_findsAdd : Room := { frames := 8, cells := 0, slots := 0, locals := 200 }
theorem cw_X12_findsAdd {rm R : Room} {s : State} {args : Array Value} {own : String} {index : Nat} {c0 : Cond} (hts : ∀ w ∈ c0 :: zT, w.before args s = true) (hml : Cond.methodLink own index yX12_findsAdd ∈ zT) (hrc : rm.cells = 0) (hrs : rm.slots = 0) (hR : rm.frames + 1 ≤ R.frames ∧ 8 + (4 + 11) + rm.locals ≤ R.locals) : CallW R s args own RX12 index yX12_findsAdd cX12_findsAdd 4 (some .boolean) vs_X12_findsAdd rm 0 0 1 :=
  zwV 1 hts hml mw_1179 mw_1431 mw_18 mw_1180 hrc hrs (by decide +kernel) hR
def vs_X12_canMake : List Cond := .code yX12_canMake cX12_canMake 8 (some .boolean) :: zT
def rm_X12_canMake : Room := { frames := 2, cells := 0, slots := 0, locals := 42 }
theorem cw_X12_canMake {rm R : Room} {s : State} {args : Array Value} {own : String} {index : Nat} {c0 : Cond} (hts : ∀ w ∈ c0 :: zT, w.before args s = true) (hml : Cond.methodLink own index yX12_canMake ∈ zT) (hrc : rm.cells = 0) (hrs : rm.slots = 0) (hR : rm.frames + 1 ≤ R.frames ∧ 8 + (8 + 11) + rm.locals ≤ R.locals) : CallW R s args own RX12 index yX12_canMake cX12_canMake 8 (some .boolean) vs_X12_canMake rm 0 0 3 :=
  zwV 3 hts hml mw_1167 mw_1427 mw_18 mw_1168 hrc hrs (by decide +kernel) hR
def vs_X12_findsSet : List Cond := .code yX12_findsSet cX12_findsSet 7 (some .boolean) :: zT
def rm_X12_findsSet : Room := { frames := 7, cells := 0, slots := 0, locals := 171 }
theorem cw_X12_findsSet {rm R : Room} {s : State} {args : Array Value} {own : String} {index : Nat} {c0 : Cond} (hts : ∀ w ∈ c0 :: zT, w.before args s = true) (hml : Cond.methodLink own index yX12_findsSet ∈ zT) (hrc : rm.cells = 0) (hrs : rm.slots = 0) (hR : rm.frames + 1 ≤ R.frames ∧ 8 + (7 + 11) + rm.locals ≤ R.locals) : CallW R s args own RX12 index yX12_findsSet cX12_findsSet 7 (some .boolean) vs_X12_findsSet rm 0 0 1 :=
  zwV 1 hts hml mw_1164 mw_1426 mw_18 mw_1165 hrc hrs (by decide +kernel) hR
def vs_X12_findsTogether : List Cond := .code yX12_findsTogether cX12_findsTogether 8 (some .boolean) :: zT
def rm_X12_findsTogether : Room := { frames := 7, cells := 0, slots := 0, locals := 171 }
theorem cw_X12_findsTogether {rm R : Room} {s : State} {args : Array Value} {own : String} {index : Nat} {c0 : Cond} (hts : ∀ w ∈ c0 :: zT, w.before args s = true) (hml : Cond.methodLink own index yX12_findsTogether ∈ zT) (hrc : rm.cells = 0) (hrs : rm.slots = 0) (hR : rm.frames + 1 ≤ R.frames ∧ 8 + (8 + 11) + rm.locals ≤ R.locals) : CallW R s args own RX12 index yX12_findsTogether cX12_findsTogether 8 (some .boolean) vs_X12_findsTogether rm 0 0 1 :=
  zwV 1 hts hml mw_1152 mw_1424 mw_18 mw_1153 hrc hrs (by decide +kernel) hR
def vs_X12_isRest : List Cond := .code yX12_isRest cX12_isRest 4 (some .boolean) :: zT
def rm_X12_isRest : Room := { frames := 10, cells := 0, slots := 0, locals := 245 }
theorem cw_X12_isRest {rm R : Room} {s : State} {args : Array Value} {own : String} {index : Nat} {c0 : Cond} (hts : ∀ w ∈ c0 :: zT, w.before args s = true) (hml : Cond.methodLink own index yX12_isRest ∈ zT) (hrc : rm.cells = 0) (hrs : rm.slots = 0) (hR : rm.frames + 1 ≤ R.frames ∧ 8 + (4 + 11) + rm.locals ≤ R.locals) : CallW R s args own RX12 index yX12_isRest cX12_isRest 4 (some .boolean) vs_X12_isRest rm 0 0 2 :=
  zwV 2 hts hml mw_1146 mw_1422 mw_18 mw_1147 hrc hrs (by decide +kernel) hR
def vs_X12_rest : List Cond := .code yX12_rest cX12_rest 2 (some .int) :: zT
def rm_X12_rest : Room := { frames := 11, cells := 0, slots := 0, locals := 268 }
theorem cw_X12_rest {rm R : Room} {s : State} {args : Array Value} {own : String} {index : Nat} {c0 : Cond} (hts : ∀ w ∈ c0 :: zT, w.before args s = true) (hml : Cond.methodLink own index yX12_rest ∈ zT) (hrc : rm.cells = 0) (hrs : rm.slots = 0) (hR : rm.frames + 1 ≤ R.frames ∧ 8 + (2 + 11) + rm.locals ≤ R.locals) : CallW R s args own RX12 index yX12_rest cX12_rest 2 (some .int) vs_X12_rest rm 0 0 1 :=
  zwV 1 hts hml mw_1142 mw_1143 mw_18 mw_1144 hrc hrs (by decide +kernel) hR
def vs_X12_bars : List Cond := .code yX12_bars cX12_bars 2 (some .long) :: zT
def rm_X12_bars : Room := { frames := 0, cells := 0, slots := 0, locals := 0 }
theorem cw_X12_bars {rm R : Room} {s : State} {args : Array Value} {own : String} {index : Nat} {c0 : Cond} (hts : ∀ w ∈ c0 :: zT, w.before args s = true) (hml : Cond.methodLink own index yX12_bars ∈ zT) (hrc : rm.cells = 0) (hrs : rm.slots = 0) (hR : rm.frames + 1 ≤ R.frames ∧ 8 + (2 + 11) + rm.locals ≤ R.locals) : CallW R s args own RX12 index yX12_bars cX12_bars 2 (some .long) vs_X12_bars rm 0 0 1 :=
  zwV 1 hts hml mw_1194 mw_1195 mw_18 mw_1196 hrc hrs (by decide +kernel) hR
def vs_X12_isStep : List Cond := .code yX12_isStep cX12_isStep 4 (some .boolean) :: zT
def rm_X12_isStep : Room := { frames := 9, cells := 0, slots := 0, locals := 221 }
theorem cw_X12_isStep {rm R : Room} {s : State} {args : Array Value} {own : String} {index : Nat} {c0 : Cond} (hts : ∀ w ∈ c0 :: zT, w.before args s = true) (hml : Cond.methodLink own index yX12_isStep ∈ zT) (hrc : rm.cells = 0) (hrs : rm.slots = 0) (hR : rm.frames + 1 ≤ R.frames ∧ 8 + (4 + 11) + rm.locals ≤ R.locals) : CallW R s args own RX12 index yX12_isStep cX12_isStep 4 (some .boolean) vs_X12_isStep rm 0 0 2 :=
  zwV 2 hts hml mw_1202 mw_1436 mw_18 mw_1203 hrc hrs (by decide +kernel) hR
def vs_X12_step : List Cond := .code yX12_step cX12_step 6 (some .int) :: zT
def rm_X12_step : Room := { frames := 10, cells := 0, slots := 0, locals := 244 }
theorem cw_X12_step {rm R : Room} {s : State} {args : Array Value} {own : String} {index : Nat} {c0 : Cond} (hts : ∀ w ∈ c0 :: zT, w.before args s = true) (hml : Cond.methodLink own index yX12_step ∈ zT) (hrc : rm.cells = 0) (hrs : rm.slots = 0) (hR : rm.frames + 1 ≤ R.frames ∧ 8 + (6 + 11) + rm.locals ≤ R.locals) : CallW R s args own RX12 index yX12_step cX12_step 6 (some .int) vs_X12_step rm 0 0 1 :=
  zwV 1 hts hml mw_1198 mw_1199 mw_18 mw_1200 hrc hrs (by decide +kernel) hR
def vs_X12_firstStep : List Cond := .code yX12_firstStep cX12_firstStep 4 (some .int) :: zT
def rm_X12_firstStep : Room := { frames := 10, cells := 0, slots := 0, locals := 244 }
theorem cw_X12_firstStep {rm R : Room} {s : State} {args : Array Value} {own : String} {index : Nat} {c0 : Cond} (hts : ∀ w ∈ c0 :: zT, w.before args s = true) (hml : Cond.methodLink own index yX12_firstStep ∈ zT) (hrc : rm.cells = 0) (hrs : rm.slots = 0) (hR : rm.frames + 1 ≤ R.frames ∧ 8 + (4 + 11) + rm.locals ≤ R.locals) : CallW R s args own RX12 index yX12_firstStep cX12_firstStep 4 (some .int) vs_X12_firstStep rm 0 0 1 :=
  zwV 1 hts hml mw_1216 mw_1438 mw_18 mw_1217 hrc hrs (by decide +kernel) hR
def vs_X12_goesFrom : List Cond := .code yX12_goesFrom cX12_goesFrom 6 (some .int) :: zT
def rm_X12_goesFrom : Room := { frames := 11, cells := 0, slots := 0, locals := 267 }
theorem cw_X12_goesFrom {rm R : Room} {s : State} {args : Array Value} {own : String} {index : Nat} {c0 : Cond} (hts : ∀ w ∈ c0 :: zT, w.before args s = true) (hml : Cond.methodLink own index yX12_goesFrom ∈ zT) (hrc : rm.cells = 0) (hrs : rm.slots = 0) (hR : rm.frames + 1 ≤ R.frames ∧ 8 + (6 + 11) + rm.locals ≤ R.locals) : CallW R s args own RX12 index yX12_goesFrom cX12_goesFrom 6 (some .int) vs_X12_goesFrom rm 0 0 1 :=
  zwV 1 hts hml mw_1213 mw_1437 mw_18 mw_1214 hrc hrs (by decide +kernel) hR
def vs_X12_go : List Cond := .code yX12_go cX12_go 3 (some .int) :: zT
def rm_X12_go : Room := { frames := 12, cells := 0, slots := 0, locals := 292 }
theorem cw_X12_go {rm R : Room} {s : State} {args : Array Value} {own : String} {index : Nat} {c0 : Cond} (hts : ∀ w ∈ c0 :: zT, w.before args s = true) (hml : Cond.methodLink own index yX12_go ∈ zT) (hrc : rm.cells = 0) (hrs : rm.slots = 0) (hR : rm.frames + 1 ≤ R.frames ∧ 8 + (3 + 11) + rm.locals ≤ R.locals) : CallW R s args own RX12 index yX12_go cX12_go 3 (some .int) vs_X12_go rm 0 0 0 :=
  zwV 0 hts hml mw_1209 mw_1210 mw_18 mw_1211 hrc hrs (by decide +kernel) hR
def vs_X12_ring : List Cond := .code yX12_ring cX12_ring 2 (some .long) :: zT
def rm_X12_ring : Room := { frames := 0, cells := 0, slots := 0, locals := 0 }
theorem cw_X12_ring {rm R : Room} {s : State} {args : Array Value} {own : String} {index : Nat} {c0 : Cond} (hts : ∀ w ∈ c0 :: zT, w.before args s = true) (hml : Cond.methodLink own index yX12_ring ∈ zT) (hrc : rm.cells = 0) (hrs : rm.slots = 0) (hR : rm.frames + 1 ≤ R.frames ∧ 8 + (2 + 11) + rm.locals ≤ R.locals) : CallW R s args own RX12 index yX12_ring cX12_ring 2 (some .long) vs_X12_ring rm 0 0 1 :=
  zwV 1 hts hml mw_1219 mw_1220 mw_18 mw_1221 hrc hrs (by decide +kernel) hR
def vs_X12_areFew : List Cond := .code yX12_areFew cX12_areFew 1 (some .boolean) :: zT
def rm_X12_areFew : Room := { frames := 1, cells := 0, slots := 0, locals := 25 }
theorem cw_X12_areFew {rm R : Room} {s : State} {args : Array Value} {own : String} {index : Nat} {c0 : Cond} (hts : ∀ w ∈ c0 :: zT, w.before args s = true) (hml : Cond.methodLink own index yX12_areFew ∈ zT) (hrc : rm.cells = 0) (hrs : rm.slots = 0) (hR : rm.frames + 1 ≤ R.frames ∧ 8 + (1 + 11) + rm.locals ≤ R.locals) : CallW R s args own RX12 index yX12_areFew cX12_areFew 1 (some .boolean) vs_X12_areFew rm 0 0 0 :=
  zwV 0 hts hml mw_1227 mw_1439 mw_18 mw_1228 hrc hrs (by decide +kernel) hR
def vs_X12_beginsOrder : List Cond := .code yX12_beginsOrder cX12_beginsOrder 3 none :: zT
def rm_X12_beginsOrder : Room := { frames := 0, cells := 0, slots := 0, locals := 0 }
theorem cw_X12_beginsOrder {rm R : Room} {s : State} {args : Array Value} {own : String} {index : Nat} {c0 : Cond} (hts : ∀ w ∈ c0 :: zT, w.before args s = true) (hml : Cond.methodLink own index yX12_beginsOrder ∈ zT) (hrc : rm.cells = 0) (hrs : rm.slots = 0) (hR : rm.frames + 1 ≤ R.frames ∧ 8 + (3 + 11) + rm.locals ≤ R.locals) : CallW R s args own RX12 index yX12_beginsOrder cX12_beginsOrder 3 none vs_X12_beginsOrder rm 0 0 1 :=
  zwV 1 hts hml mw_1237 mw_1442 mw_18 mw_1238 hrc hrs (by decide +kernel) hR
def vs_X12_goesOn_ : List Cond := .code yX12_goesOn_ cX12_goesOn_ 7 (some .boolean) :: zT
def rm_X12_goesOn_ : Room := { frames := 0, cells := 0, slots := 0, locals := 0 }
theorem cw_X12_goesOn_ {rm R : Room} {s : State} {args : Array Value} {own : String} {index : Nat} {c0 : Cond} (hts : ∀ w ∈ c0 :: zT, w.before args s = true) (hml : Cond.methodLink own index yX12_goesOn_ ∈ zT) (hrc : rm.cells = 0) (hrs : rm.slots = 0) (hR : rm.frames + 1 ≤ R.frames ∧ 8 + (7 + 11) + rm.locals ≤ R.locals) : CallW R s args own RX12 index yX12_goesOn_ cX12_goesOn_ 7 (some .boolean) vs_X12_goesOn_ rm 0 0 1 :=
  zwV 1 hts hml mw_1240 mw_1443 mw_18 mw_1241 hrc hrs (by decide +kernel) hR
def vs_X12_isSameShape : List Cond := .code yX12_isSameShape cX12_isSameShape 10 (some .boolean) :: zT
def rm_X12_isSameShape : Room := { frames := 2, cells := 0, slots := 0, locals := 45 }
theorem cw_X12_isSameShape {rm R : Room} {s : State} {args : Array Value} {own : String} {index : Nat} {c0 : Cond} (hts : ∀ w ∈ c0 :: zT, w.before args s = true) (hml : Cond.methodLink own index yX12_isSameShape ∈ zT) (hrc : rm.cells = 0) (hrs : rm.slots = 0) (hR : rm.frames + 1 ≤ R.frames ∧ 8 + (10 + 11) + rm.locals ≤ R.locals) : CallW R s args own RX12 index yX12_isSameShape cX12_isSameShape 10 (some .boolean) vs_X12_isSameShape rm 0 0 2 :=
  zwV 2 hts hml mw_1234 mw_1441 mw_18 mw_1235 hrc hrs (by decide +kernel) hR
def vs_X12_isNewShape : List Cond := .code yX12_isNewShape cX12_isNewShape 4 (some .boolean) :: zT
def rm_X12_isNewShape : Room := { frames := 3, cells := 0, slots := 0, locals := 74 }
theorem cw_X12_isNewShape {rm R : Room} {s : State} {args : Array Value} {own : String} {index : Nat} {c0 : Cond} (hts : ∀ w ∈ c0 :: zT, w.before args s = true) (hml : Cond.methodLink own index yX12_isNewShape ∈ zT) (hrc : rm.cells = 0) (hrs : rm.slots = 0) (hR : rm.frames + 1 ≤ R.frames ∧ 8 + (4 + 11) + rm.locals ≤ R.locals) : CallW R s args own RX12 index yX12_isNewShape cX12_isNewShape 4 (some .boolean) vs_X12_isNewShape rm 0 0 1 :=
  zwV 1 hts hml mw_1231 mw_1440 mw_18 mw_1232 hrc hrs (by decide +kernel) hR
def vs_X12_all : List Cond := .code yX12_all cX12_all 5 (some .int) :: zT
def rm_X12_all : Room := { frames := 11, cells := 0, slots := 0, locals := 268 }
theorem cw_X12_all {rm R : Room} {s : State} {args : Array Value} {own : String} {index : Nat} {c0 : Cond} (hts : ∀ w ∈ c0 :: zT, w.before args s = true) (hml : Cond.methodLink own index yX12_all ∈ zT) (hrc : rm.cells = 0) (hrs : rm.slots = 0) (hR : rm.frames + 1 ≤ R.frames ∧ 8 + (5 + 11) + rm.locals ≤ R.locals) : CallW R s args own RX12 index yX12_all cX12_all 5 (some .int) vs_X12_all rm 0 0 2 :=
  zwV 2 hts hml mw_1223 mw_1224 mw_18 mw_1225 hrc hrs (by decide +kernel) hR
def vs_X12_one : List Cond := .code yX12_one cX12_one 2 (some .long) :: zT
def rm_X12_one : Room := { frames := 0, cells := 0, slots := 0, locals := 0 }
theorem cw_X12_one {rm R : Room} {s : State} {args : Array Value} {own : String} {index : Nat} {c0 : Cond} (hts : ∀ w ∈ c0 :: zT, w.before args s = true) (hml : Cond.methodLink own index yX12_one ∈ zT) (hrc : rm.cells = 0) (hrs : rm.slots = 0) (hR : rm.frames + 1 ≤ R.frames ∧ 8 + (2 + 11) + rm.locals ≤ R.locals) : CallW R s args own RX12 index yX12_one cX12_one 2 (some .long) vs_X12_one rm 0 0 1 :=
  zwV 1 hts hml mw_1243 mw_1244 mw_18 mw_1245 hrc hrs (by decide +kernel) hR
def vs_X12_best : List Cond := .code yX12_best cX12_best 9 (some .long) :: zT
def rm_X12_best : Room := { frames := 8, cells := 0, slots := 0, locals := 196 }
theorem cw_X12_best {rm R : Room} {s : State} {args : Array Value} {own : String} {index : Nat} {c0 : Cond} (hts : ∀ w ∈ c0 :: zT, w.before args s = true) (hml : Cond.methodLink own index yX12_best ∈ zT) (hrc : rm.cells = 0) (hrs : rm.slots = 0) (hR : rm.frames + 1 ≤ R.frames ∧ 8 + (9 + 11) + rm.locals ≤ R.locals) : CallW R s args own RX12 index yX12_best cX12_best 9 (some .long) vs_X12_best rm 0 0 0 :=
  zwV 0 hts hml mw_1247 mw_1248 mw_18 mw_1249 hrc hrs (by decide +kernel) hR
def vs_X12_loss : List Cond := .code yX12_loss cX12_loss 10 (some .long) :: zT
def rm_X12_loss : Room := { frames := 11, cells := 0, slots := 0, locals := 268 }
theorem cw_X12_loss {rm R : Room} {s : State} {args : Array Value} {own : String} {index : Nat} {c0 : Cond} (hts : ∀ w ∈ c0 :: zT, w.before args s = true) (hml : Cond.methodLink own index yX12_loss ∈ zT) (hrc : rm.cells = 0) (hrs : rm.slots = 0) (hR : rm.frames + 1 ≤ R.frames ∧ 8 + (10 + 11) + rm.locals ≤ R.locals) : CallW R s args own RX12 index yX12_loss cX12_loss 10 (some .long) vs_X12_loss rm 0 0 2 :=
  zwV 2 hts hml mw_1251 mw_1252 mw_18 mw_1253 hrc hrs (by decide +kernel) hR
def vs_X12_netOf : List Cond := .code yX12_netOf cX12_netOf 8 (some .long) :: zT
def rm_X12_netOf : Room := { frames := 8, cells := 0, slots := 0, locals := 200 }
theorem cw_X12_netOf {rm R : Room} {s : State} {args : Array Value} {own : String} {index : Nat} {c0 : Cond} (hts : ∀ w ∈ c0 :: zT, w.before args s = true) (hml : Cond.methodLink own index yX12_netOf ∈ zT) (hrc : rm.cells = 0) (hrs : rm.slots = 0) (hR : rm.frames + 1 ≤ R.frames ∧ 8 + (8 + 11) + rm.locals ≤ R.locals) : CallW R s args own RX12 index yX12_netOf cX12_netOf 8 (some .long) vs_X12_netOf rm 0 0 1 :=
  zwV 1 hts hml mw_1260 mw_1444 mw_18 mw_1261 hrc hrs (by decide +kernel) hR
def vs_X12_comesNet : List Cond := .code yX12_comesNet cX12_comesNet 5 none :: zT
def rm_X12_comesNet : Room := { frames := 0, cells := 0, slots := 0, locals := 0 }
theorem cw_X12_comesNet {rm R : Room} {s : State} {args : Array Value} {own : String} {index : Nat} {c0 : Cond} (hts : ∀ w ∈ c0 :: zT, w.before args s = true) (hml : Cond.methodLink own index yX12_comesNet ∈ zT) (hrc : rm.cells = 0) (hrs : rm.slots = 0) (hR : rm.frames + 1 ≤ R.frames ∧ 8 + (5 + 11) + rm.locals ≤ R.locals) : CallW R s args own RX12 index yX12_comesNet cX12_comesNet 5 none vs_X12_comesNet rm 0 0 1 :=
  zwV 1 hts hml mw_1263 mw_1445 mw_18 mw_1264 hrc hrs (by decide +kernel) hR
def vs_X12_coming : List Cond := .code yX12_coming cX12_coming 2 (some .int) :: zT
def rm_X12_coming : Room := { frames := 9, cells := 0, slots := 0, locals := 227 }
theorem cw_X12_coming {rm R : Room} {s : State} {args : Array Value} {own : String} {index : Nat} {c0 : Cond} (hts : ∀ w ∈ c0 :: zT, w.before args s = true) (hml : Cond.methodLink own index yX12_coming ∈ zT) (hrc : rm.cells = 0) (hrs : rm.slots = 0) (hR : rm.frames + 1 ≤ R.frames ∧ 8 + (2 + 11) + rm.locals ≤ R.locals) : CallW R s args own RX12 index yX12_coming cX12_coming 2 (some .int) vs_X12_coming rm 0 0 0 :=
  zwV 0 hts hml mw_1256 mw_1257 mw_18 mw_1258 hrc hrs (by decide +kernel) hR
def vs_X12_comes : List Cond := .code yX12_comes cX12_comes 3 (some .long) :: zT
def rm_X12_comes : Room := { frames := 0, cells := 0, slots := 0, locals := 0 }
theorem cw_X12_comes {rm R : Room} {s : State} {args : Array Value} {own : String} {index : Nat} {c0 : Cond} (hts : ∀ w ∈ c0 :: zT, w.before args s = true) (hml : Cond.methodLink own index yX12_comes ∈ zT) (hrc : rm.cells = 0) (hrs : rm.slots = 0) (hR : rm.frames + 1 ≤ R.frames ∧ 8 + (3 + 11) + rm.locals ≤ R.locals) : CallW R s args own RX12 index yX12_comes cX12_comes 3 (some .long) vs_X12_comes rm 0 0 2 :=
  zwV 2 hts hml mw_1266 mw_1267 mw_18 mw_1268 hrc hrs (by decide +kernel) hR
def vs_X12_needOf : List Cond := .code yX12_needOf cX12_needOf 5 (some .long) :: zT
def rm_X12_needOf : Room := { frames := 7, cells := 0, slots := 0, locals := 171 }
theorem cw_X12_needOf {rm R : Room} {s : State} {args : Array Value} {own : String} {index : Nat} {c0 : Cond} (hts : ∀ w ∈ c0 :: zT, w.before args s = true) (hml : Cond.methodLink own index yX12_needOf ∈ zT) (hrc : rm.cells = 0) (hrs : rm.slots = 0) (hR : rm.frames + 1 ≤ R.frames ∧ 8 + (5 + 11) + rm.locals ≤ R.locals) : CallW R s args own RX12 index yX12_needOf cX12_needOf 5 (some .long) vs_X12_needOf rm 0 0 2 :=
  zwV 2 hts hml mw_1277 mw_1447 mw_18 mw_1278 hrc hrs (by decide +kernel) hR
def vs_X12_beside : List Cond := .code yX12_beside cX12_beside 3 (some .int) :: zT
def rm_X12_beside : Room := { frames := 2, cells := 0, slots := 0, locals := 42 }
theorem cw_X12_beside {rm R : Room} {s : State} {args : Array Value} {own : String} {index : Nat} {c0 : Cond} (hts : ∀ w ∈ c0 :: zT, w.before args s = true) (hml : Cond.methodLink own index yX12_beside ∈ zT) (hrc : rm.cells = 0) (hrs : rm.slots = 0) (hR : rm.frames + 1 ≤ R.frames ∧ 8 + (3 + 11) + rm.locals ≤ R.locals) : CallW R s args own RX12 index yX12_beside cX12_beside 3 (some .int) vs_X12_beside rm 0 0 2 :=
  zwV 2 hts hml mw_1280 mw_1448 mw_18 mw_1281 hrc hrs (by decide +kernel) hR
def vs_X12_passes : List Cond := .code yX12_passes cX12_passes 8 (some .long) :: zT
def rm_X12_passes : Room := { frames := 8, cells := 0, slots := 0, locals := 195 }
theorem cw_X12_passes {rm R : Room} {s : State} {args : Array Value} {own : String} {index : Nat} {c0 : Cond} (hts : ∀ w ∈ c0 :: zT, w.before args s = true) (hml : Cond.methodLink own index yX12_passes ∈ zT) (hrc : rm.cells = 0) (hrs : rm.slots = 0) (hR : rm.frames + 1 ≤ R.frames ∧ 8 + (8 + 11) + rm.locals ≤ R.locals) : CallW R s args own RX12 index yX12_passes cX12_passes 8 (some .long) vs_X12_passes rm 0 0 2 :=
  zwV 2 hts hml mw_1274 mw_1446 mw_18 mw_1275 hrc hrs (by decide +kernel) hR
def vs_X12_gifts : List Cond := .code yX12_gifts cX12_gifts 9 (some .long) :: zT
def rm_X12_gifts : Room := { frames := 9, cells := 0, slots := 0, locals := 223 }
theorem cw_X12_gifts {rm R : Room} {s : State} {args : Array Value} {own : String} {index : Nat} {c0 : Cond} (hts : ∀ w ∈ c0 :: zT, w.before args s = true) (hml : Cond.methodLink own index yX12_gifts ∈ zT) (hrc : rm.cells = 0) (hrs : rm.slots = 0) (hR : rm.frames + 1 ≤ R.frames ∧ 8 + (9 + 11) + rm.locals ≤ R.locals) : CallW R s args own RX12 index yX12_gifts cX12_gifts 9 (some .long) vs_X12_gifts rm 0 0 1 :=
  zwV 1 hts hml mw_1270 mw_1271 mw_18 mw_1272 hrc hrs (by decide +kernel) hR
def vs_X12_gift : List Cond := .code yX12_gift cX12_gift 6 (some .long) :: zT
def rm_X12_gift : Room := { frames := 9, cells := 0, slots := 0, locals := 222 }
theorem cw_X12_gift {rm R : Room} {s : State} {args : Array Value} {own : String} {index : Nat} {c0 : Cond} (hts : ∀ w ∈ c0 :: zT, w.before args s = true) (hml : Cond.methodLink own index yX12_gift ∈ zT) (hrc : rm.cells = 0) (hrs : rm.slots = 0) (hR : rm.frames + 1 ≤ R.frames ∧ 8 + (6 + 11) + rm.locals ≤ R.locals) : CallW R s args own RX12 index yX12_gift cX12_gift 6 (some .long) vs_X12_gift rm 0 0 3 :=
  zwV 3 hts hml mw_1283 mw_1284 mw_18 mw_1285 hrc hrs (by decide +kernel) hR
def vs_X12_good : List Cond := .code yX12_good cX12_good 9 (some .long) :: zT
def rm_X12_good : Room := { frames := 10, cells := 0, slots := 0, locals := 244 }
theorem cw_X12_good {rm R : Room} {s : State} {args : Array Value} {own : String} {index : Nat} {c0 : Cond} (hts : ∀ w ∈ c0 :: zT, w.before args s = true) (hml : Cond.methodLink own index yX12_good ∈ zT) (hrc : rm.cells = 0) (hrs : rm.slots = 0) (hR : rm.frames + 1 ≤ R.frames ∧ 8 + (9 + 11) + rm.locals ≤ R.locals) : CallW R s args own RX12 index yX12_good cX12_good 9 (some .long) vs_X12_good rm 0 0 1 :=
  zwV 1 hts hml mw_1287 mw_1288 mw_18 mw_1289 hrc hrs (by decide +kernel) hR
def vs_X12_edge : List Cond := .code yX12_edge cX12_edge 9 (some .int) :: zT
def rm_X12_edge : Room := { frames := 11, cells := 0, slots := 0, locals := 268 }
theorem cw_X12_edge {rm R : Room} {s : State} {args : Array Value} {own : String} {index : Nat} {c0 : Cond} (hts : ∀ w ∈ c0 :: zT, w.before args s = true) (hml : Cond.methodLink own index yX12_edge ∈ zT) (hrc : rm.cells = 0) (hrs : rm.slots = 0) (hR : rm.frames + 1 ≤ R.frames ∧ 8 + (9 + 11) + rm.locals ≤ R.locals) : CallW R s args own RX12 index yX12_edge cX12_edge 9 (some .int) vs_X12_edge rm 0 0 4 :=
  zwV 4 hts hml mw_1291 mw_1292 mw_18 mw_1293 hrc hrs (by decide +kernel) hR
def vs_X12_lie : List Cond := .code yX12_lie cX12_lie 9 (some .int) :: zT
def rm_X12_lie : Room := { frames := 12, cells := 0, slots := 0, locals := 292 }
theorem cw_X12_lie {rm R : Room} {s : State} {args : Array Value} {own : String} {index : Nat} {c0 : Cond} (hts : ∀ w ∈ c0 :: zT, w.before args s = true) (hml : Cond.methodLink own index yX12_lie ∈ zT) (hrc : rm.cells = 0) (hrs : rm.slots = 0) (hR : rm.frames + 1 ≤ R.frames ∧ 8 + (9 + 11) + rm.locals ≤ R.locals) : CallW R s args own RX12 index yX12_lie cX12_lie 9 (some .int) vs_X12_lie rm 0 0 1 :=
  zwV 1 hts hml mw_1298 mw_1299 mw_18 mw_1300 hrc hrs (by decide +kernel) hR
def vs_X12_lied : List Cond := .code yX12_lied cX12_lied 1 (some .long) :: zT
def rm_X12_lied : Room := { frames := 0, cells := 0, slots := 0, locals := 0 }
theorem cw_X12_lied {rm R : Room} {s : State} {args : Array Value} {own : String} {index : Nat} {c0 : Cond} (hts : ∀ w ∈ c0 :: zT, w.before args s = true) (hml : Cond.methodLink own index yX12_lied ∈ zT) (hrc : rm.cells = 0) (hrs : rm.slots = 0) (hR : rm.frames + 1 ≤ R.frames ∧ 8 + (1 + 11) + rm.locals ≤ R.locals) : CallW R s args own RX12 index yX12_lied cX12_lied 1 (some .long) vs_X12_lied rm 0 0 0 :=
  zwV 0 hts hml mw_1302 mw_1303 mw_18 mw_1304 hrc hrs (by decide +kernel) hR
def vs_X12_writes : List Cond := .code yX12_writes cX12_writes 2 none :: zT
def rm_X12_writes : Room := { frames := 0, cells := 0, slots := 0, locals := 0 }
theorem cw_X12_writes {rm R : Room} {s : State} {args : Array Value} {own : String} {index : Nat} {c0 : Cond} (hts : ∀ w ∈ c0 :: zT, w.before args s = true) (hml : Cond.methodLink own index yX12_writes ∈ zT) (hrc : rm.cells = 0) (hrs : rm.slots = 0) (hR : rm.frames + 1 ≤ R.frames ∧ 8 + (2 + 11) + rm.locals ≤ R.locals) : CallW R s args own RX12 index yX12_writes cX12_writes 2 none vs_X12_writes rm 0 0 1 :=
  zwV 1 hts hml mw_1310 mw_1449 mw_18 mw_1311 hrc hrs (by decide +kernel) hR
def vs_X12_image : List Cond := .code yX12_image cX12_image 3 (some .int) :: zT
def rm_X12_image : Room := { frames := 1, cells := 0, slots := 0, locals := 21 }
theorem cw_X12_image {rm R : Room} {s : State} {args : Array Value} {own : String} {index : Nat} {c0 : Cond} (hts : ∀ w ∈ c0 :: zT, w.before args s = true) (hml : Cond.methodLink own index yX12_image ∈ zT) (hrc : rm.cells = 0) (hrs : rm.slots = 0) (hR : rm.frames + 1 ≤ R.frames ∧ 8 + (3 + 11) + rm.locals ≤ R.locals) : CallW R s args own RX12 index yX12_image cX12_image 3 (some .int) vs_X12_image rm 0 0 0 :=
  zwV 0 hts hml mw_1306 mw_1307 mw_18 mw_1308 hrc hrs (by decide +kernel) hR
def vs_X12_octet : List Cond := .code yX12_octet cX12_octet 2 (some .int) :: zT
def rm_X12_octet : Room := { frames := 0, cells := 0, slots := 0, locals := 0 }
theorem cw_X12_octet {rm R : Room} {s : State} {args : Array Value} {own : String} {index : Nat} {c0 : Cond} (hts : ∀ w ∈ c0 :: zT, w.before args s = true) (hml : Cond.methodLink own index yX12_octet ∈ zT) (hrc : rm.cells = 0) (hrs : rm.slots = 0) (hR : rm.frames + 1 ≤ R.frames ∧ 8 + (2 + 11) + rm.locals ≤ R.locals) : CallW R s args own RX12 index yX12_octet cX12_octet 2 (some .int) vs_X12_octet rm 0 0 1 :=
  zwV 1 hts hml mw_1314 mw_1315 mw_18 mw_1316 hrc hrs (by decide +kernel) hR
def vs_X12_on : List Cond := .code yX12_on cX12_on 6 (some .boolean) :: zT
def rm_X12_on : Room := { frames := 3, cells := 0, slots := 0, locals := 71 }
theorem cw_X12_on {rm R : Room} {s : State} {args : Array Value} {own : String} {index : Nat} {c0 : Cond} (hts : ∀ w ∈ c0 :: zT, w.before args s = true) (hml : Cond.methodLink own index yX12_on ∈ zT) (hrc : rm.cells = 0) (hrs : rm.slots = 0) (hR : rm.frames + 1 ≤ R.frames ∧ 8 + (6 + 11) + rm.locals ≤ R.locals) : CallW R s args own RX12 index yX12_on cX12_on 6 (some .boolean) vs_X12_on rm 0 0 0 :=
  zwV 0 hts hml mw_1318 mw_1319 mw_18 mw_1320 hrc hrs (by decide +kernel) hR
