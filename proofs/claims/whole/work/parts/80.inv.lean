def Inv (C D : Mem) : Prop := C 1 0 = D 1 0
theorem inv0 : Inv C0m D0m := sorry
theorem ok_pair {C D : Mem} (hI : Inv C D) (a1 : Int32) (a2 : Int32) (a3 : Int32) (a4 : Int32) (a5 : Int32) : ∃ (r : Int32) (C1 : Mem) (D1 : Mem), f_X11_pair a1 a2 a3 a4 a5 C = some (r, C1) ∧ f_X12_pair a1 a2 a3 a4 a5 D = some (r, D1) ∧ Inv C1 D1 := sorry
theorem ok_read {C D : Mem} (hI : Inv C D) (a1 : Int32) (a2 : Int32) (a3 : Int32) (a4 : Int32) : ∃ (r : Int32) (C1 : Mem) (D1 : Mem), f_X11_read a1 a2 a3 a4 C = some (r, C1) ∧ f_X12_read a1 a2 a3 a4 D = some (r, D1) ∧ Inv C1 D1 := sorry
theorem ok_takeBack {C D : Mem} (hI : Inv C D) (a1 : Int32) (a2 : Int32) : ∃ (r : Int32) (C1 : Mem) (D1 : Mem), f_X11_takeBack a1 a2 C = some (r, C1) ∧ f_X12_takeBack a1 a2 D = some (r, D1) ∧ Inv C1 D1 := sorry
theorem ok_asOf {C D : Mem} (hI : Inv C D) (a1 : Int32) : ∃ (r : Int32) (C1 : Mem) (D1 : Mem), f_X11_asOf a1 C = some (r, C1) ∧ f_X12_asOf a1 D = some (r, D1) ∧ Inv C1 D1 := sorry
theorem ok_many {C D : Mem} (hI : Inv C D) (a1 : Int32) (a2 : Int32) (a3 : Int32) : ∃ (r : Int32) (C1 : Mem), f_X11_many a1 a2 a3 C = some (r, C1) ∧ f_X12_many a1 a2 a3 D = some r ∧ Inv C1 D := sorry
theorem ok_mean {C D : Mem} (hI : Inv C D) (a1 : Int32) (a2 : Int32) (a3 : Int32) : ∃ (r : Int64) (C1 : Mem), f_X11_mean a1 a2 a3 C = some (r, C1) ∧ f_X12_mean a1 a2 a3 D = some r ∧ Inv C1 D := sorry
theorem ok_refused {C D : Mem} (hI : Inv C D) (a1 : Int32) (a2 : Int32) (a3 : Int32) (a4 : Int32) : ∃ (r : Int64) (C1 : Mem), f_X11_refused a1 a2 a3 a4 C = some (r, C1) ∧ f_X12_refused a1 a2 a3 a4 D = some r ∧ Inv C1 D := sorry
theorem ok_moves {C D : Mem} (hI : Inv C D) (a1 : Int32) (a2 : Int32) (a3 : Int32) : ∃ (r : Int64) (C1 : Mem), f_X11_moves a1 a2 a3 C = some (r, C1) ∧ f_X12_moves a1 a2 a3 D = some r ∧ Inv C1 D := sorry
theorem ok_row {C D : Mem} (hI : Inv C D) (a1 : Int32) (a2 : Int32) : ∃ (r : Int32) (C1 : Mem) (D1 : Mem), f_X11_row a1 a2 C = some (r, C1) ∧ f_X12_row a1 a2 D = some (r, D1) ∧ Inv C1 D1 := sorry
theorem ok_line {C D : Mem} (hI : Inv C D) (a1 : Int32) (a2 : Int32) : ∃ (r : Int32) (C1 : Mem), f_X11_line a1 a2 C = some (r, C1) ∧ f_X12_line a1 a2 D = some r ∧ Inv C1 D := sorry
theorem ok_taken {C D : Mem} (hI : Inv C D) (a1 : Int32) (a2 : Int32) (a3 : Int32) : ∃ (r : Int64), f_X11_taken a1 a2 a3 C = some r ∧ f_X12_taken a1 a2 a3 D = some r ∧ Inv C D := sorry
theorem ok_best {C D : Mem} (hI : Inv C D) (a1 : Int32) : ∃ (r : Int32) (C1 : Mem), f_X11_best a1 C = some (r, C1) ∧ f_X12_best a1 D = some r ∧ Inv C1 D := sorry
theorem ok_belief {C D : Mem} (hI : Inv C D) (a1 : Int32) : ∃ (r : Int32) (C1 : Mem) (D1 : Mem), f_X11_belief a1 C = some (r, C1) ∧ f_X12_belief a1 D = some (r, D1) ∧ Inv C1 D1 := sorry
theorem ok_believe {C D : Mem} (hI : Inv C D) (a1 : Int32) (a2 : Int32) (a3 : Int32) : ∃ (r : Int32) (C1 : Mem) (D1 : Mem), f_X11_believe a1 a2 a3 C = some (r, C1) ∧ f_X12_believe a1 a2 a3 D = some (r, D1) ∧ Inv C1 D1 := sorry
theorem ok_hisBest {C D : Mem} (hI : Inv C D) (a1 : Int32) : ∃ (r : Int32) (C1 : Mem), f_X11_hisBest a1 C = some (r, C1) ∧ f_X12_hisBest a1 D = some r ∧ Inv C1 D := sorry
theorem ok_off {C D : Mem} (hI : Inv C D) (a1 : Int32) (a2 : Int32) (a3 : Int32) : ∃ (r : Int64) (C1 : Mem), f_X11_off a1 a2 a3 C = some (r, C1) ∧ f_X12_off a1 a2 a3 D = some r ∧ Inv C1 D := sorry
theorem ok_type {C D : Mem} (hI : Inv C D) (a1 : Int32) : ∃ (r : Int32) (C1 : Mem) (D1 : Mem), f_X11_type a1 C = some (r, C1) ∧ f_X12_type a1 D = some (r, D1) ∧ Inv C1 D1 := sorry
theorem ok_wipe {C D : Mem} (hI : Inv C D) : ∃ (r : Int32) (C1 : Mem) (D1 : Mem), f_X11_wipe C = some (r, C1) ∧ f_X12_wipe D = some (r, D1) ∧ Inv C1 D1 := sorry
theorem ok_fault {C D : Mem} (hI : Inv C D) : ∃ (r : Int32) (D1 : Mem), f_X11_fault C = r ∧ f_X12_fault D = some (r, D1) ∧ Inv C D1 := sorry
theorem ok_reckon {C D : Mem} (hI : Inv C D) (a1 : Int32) (a2 : Int32) : ∃ (r : Int32) (C1 : Mem) (D1 : Mem), f_X11_reckon a1 a2 C = some (r, C1) ∧ f_X12_reckon a1 a2 D = some (r, D1) ∧ Inv C1 D1 := sorry
theorem ok_how {C D : Mem} (hI : Inv C D) (a1 : Int32) (a2 : Int32) : ∃ (r : Int32) (C1 : Mem) (D1 : Mem), f_X11_how a1 a2 C = some (r, C1) ∧ f_X12_how a1 a2 D = some (r, D1) ∧ Inv C1 D1 := sorry
theorem ok_temper {C D : Mem} (hI : Inv C D) : ∃ (r : Int32) (C1 : Mem) (D1 : Mem), f_X11_temper C = some (r, C1) ∧ f_X12_temper D = some (r, D1) ∧ Inv C1 D1 := sorry
theorem ok_two {C D : Mem} (hI : Inv C D) (a1 : Int32) (a2 : Int32) : ∃ (r : Int32) (C1 : Mem) (D1 : Mem), f_X11_two a1 a2 C = some (r, C1) ∧ f_X12_two a1 a2 D = some (r, D1) ∧ Inv C1 D1 := sorry
theorem ok_thing {C D : Mem} (hI : Inv C D) (a1 : Int32) (a2 : Int32) (a3 : Int32) (a4 : Int32) : ∃ (r : Int32) (C1 : Mem) (D1 : Mem), f_X11_thing a1 a2 a3 a4 C = some (r, C1) ∧ f_X12_thing a1 a2 a3 a4 D = some (r, D1) ∧ Inv C1 D1 := sorry
theorem ok_goes {C D : Mem} (hI : Inv C D) (a1 : Int32) : ∃ (r : Int32) (C1 : Mem) (D1 : Mem), f_X11_goes a1 C = some (r, C1) ∧ f_X12_goes a1 D = some (r, D1) ∧ Inv C1 D1 := sorry
theorem ok_looked {C D : Mem} (hI : Inv C D) : ∃ (r : Int32) (C1 : Mem) (D1 : Mem), f_X11_looked C = some (r, C1) ∧ f_X12_looked D = some (r, D1) ∧ Inv C1 D1 := sorry
theorem ok_story {C D : Mem} (hI : Inv C D) (a1 : Int32) (a2 : Int32) (a3 : Int32) : ∃ (r : Int32) (C1 : Mem) (D1 : Mem), f_X11_story a1 a2 a3 C = some (r, C1) ∧ f_X12_story a1 a2 a3 D = some (r, D1) ∧ Inv C1 D1 := sorry
theorem ok_odds {C D : Mem} (hI : Inv C D) (a1 : Int32) (a2 : Int32) (a3 : Int32) : ∃ (r : Int64) (C1 : Mem), f_X11_odds a1 a2 a3 C = some (r, C1) ∧ f_X12_odds a1 a2 a3 D = some r ∧ Inv C1 D := sorry
theorem ok_round {C D : Mem} (hI : Inv C D) (a1 : Int32) (a2 : Int32) : ∃ (r : Int32) (C1 : Mem) (D1 : Mem), f_X11_round a1 a2 C = some (r, C1) ∧ f_X12_round a1 a2 D = some (r, D1) ∧ Inv C1 D1 := sorry
theorem ok_forget {C D : Mem} (hI : Inv C D) : ∃ (r : Int32) (C1 : Mem) (D1 : Mem), f_X11_forget C = some (r, C1) ∧ f_X12_forget D = some (r, D1) ∧ Inv C1 D1 := sorry
theorem ok_misses {C D : Mem} (hI : Inv C D) (a1 : Int32) (a2 : Int32) : ∃ (r : Int32), f_X11_misses a1 a2 C = some r ∧ f_X12_misses a1 a2 D = some r ∧ Inv C D := sorry
theorem ok_learnt {C D : Mem} (hI : Inv C D) (a1 : Int32) : ∃ (r : Int32) (C1 : Mem), f_X11_learnt a1 C = some (r, C1) ∧ f_X12_learnt a1 D = some r ∧ Inv C1 D := sorry
theorem ok_sheet {C D : Mem} (hI : Inv C D) (a1 : Int32) (a2 : Int32) (a3 : Int32) : ∃ (r : Int32) (C1 : Mem) (D1 : Mem), f_X11_sheet a1 a2 a3 C = some (r, C1) ∧ f_X12_sheet a1 a2 a3 D = some (r, D1) ∧ Inv C1 D1 := sorry
theorem ok_lose {C D : Mem} (hI : Inv C D) (a1 : Int32) : ∃ (r : Int32) (C1 : Mem) (D1 : Mem), f_X11_lose a1 C = some (r, C1) ∧ f_X12_lose a1 D = some (r, D1) ∧ Inv C1 D1 := sorry
theorem ok_put {C D : Mem} (hI : Inv C D) (a1 : Int32) (a2 : Int32) (a3 : Int32) (a4 : Int32) : ∃ (r : Int32) (C1 : Mem) (D1 : Mem), f_X11_put a1 a2 a3 a4 C = some (r, C1) ∧ f_X12_put a1 a2 a3 a4 D = some (r, D1) ∧ Inv C1 D1 := sorry
theorem ok_get {C D : Mem} (hI : Inv C D) (a1 : Int32) (a2 : Int32) (a3 : Int32) : ∃ (r : Int32) (C1 : Mem) (D1 : Mem), f_X11_get a1 a2 a3 C = some (r, C1) ∧ f_X12_get a1 a2 a3 D = some (r, D1) ∧ Inv C1 D1 := sorry
theorem ok_copy {C D : Mem} (hI : Inv C D) (a1 : Int32) (a2 : Int32) (a3 : Int32) (a4 : Int32) (a5 : Int32) : ∃ (r : Int32) (C1 : Mem) (D1 : Mem), f_X11_copy a1 a2 a3 a4 a5 C = some (r, C1) ∧ f_X12_copy a1 a2 a3 a4 a5 D = some (r, D1) ∧ Inv C1 D1 := sorry
theorem ok_write {C D : Mem} (hI : Inv C D) (a1 : Int32) (a2 : Int32) (a3 : Int32) : ∃ (r : Int32) (C1 : Mem) (D1 : Mem), f_X11_write a1 a2 a3 C = some (r, C1) ∧ f_X12_write a1 a2 a3 D = some (r, D1) ∧ Inv C1 D1 := sorry
theorem ok_count {C D : Mem} (hI : Inv C D) (a1 : Int32) : ∃ (r : Int32), f_X11_count a1 C = some r ∧ f_X12_count a1 D = some r ∧ Inv C D := sorry
theorem ok_digest {C D : Mem} (hI : Inv C D) : ∃ (r : Int64) (C1 : Mem) (D1 : Mem), f_X11_digest C = some (r, C1) ∧ f_X12_digest D = some (r, D1) ∧ Inv C1 D1 := sorry
