theorem ag_feed {M : zm_Mem} {q n : Nat} (hI : Inv M q n) (hn : n < 512) (a1 : Int32) (a2 : Int32) (a3 : Int32) (a4 : Int32) (a5 : Int32) : Ag (f_X10_feed a1 a2 a3 a4 a5 M) (fun M1 => f_X11_feed a1 a2 a3 a4 a5 M1) q n := by
  sorry
theorem ag_back {M : zm_Mem} {q n : Nat} (hI : Inv M q n) (hn : n < 512) (a1 : Int32) : Ag (f_X10_back a1 M) (fun M1 => f_X11_back a1 M1) q n := by
  sorry
theorem ag_read {M : zm_Mem} {q n : Nat} (hI : Inv M q n) (hn : n < 512) : Ag (f_X10_read M) (fun M1 => f_X11_read M1) q n := by
  sorry
theorem ag_place {M : zm_Mem} {q n : Nat} (hI : Inv M q n) (hn : n < 512) : Ag (rd (f_X10_place M) M) (fun M1 => rd (f_X11_place M1) M1) q n := by
  sorry
theorem ag_house {M : zm_Mem} {q n : Nat} (hI : Inv M q n) (hn : n < 512) (a1 : Int32) (a2 : Int32) : Ag (f_X10_house a1 a2 M) (fun M1 => f_X11_house a1 a2 M1) q n := by
  sorry
theorem ag_work {M : zm_Mem} {q n : Nat} (hI : Inv M q n) (hn : n < 512) (a1 : Int32) (a2 : Int32) : Ag (rd (f_X10_work a1 a2 M) M) (fun M1 => f_X11_work a1 a2 M1) q n := by
  sorry
theorem ag_may {M : zm_Mem} {q n : Nat} (hI : Inv M q n) (hn : n < 512) (a1 : Int32) (a2 : Int32) : Ag (f_X10_may a1 a2 M) (fun M1 => f_X11_may a1 a2 M1) q n := by
  sorry
theorem ag_holds {M : zm_Mem} {q n : Nat} (hI : Inv M q n) (hn : n < 512) (a1 : Int32) (a2 : Int32) : Ag (f_X10_holds a1 a2 M) (fun M1 => f_X11_holds a1 a2 M1) q n := by
  sorry
theorem ag_likes {M : zm_Mem} {q n : Nat} (hI : Inv M q n) (hn : n < 512) (a1 : Int32) (a2 : Int32) : Ag (f_X10_likes a1 a2 M) (fun M1 => f_X11_likes a1 a2 M1) q n := by
  sorry
theorem ag_trip {M : zm_Mem} {q n : Nat} (hI : Inv M q n) (hn : n < 512) (a1 : Int32) (a2 : Int32) : Ag (f_X10_trip a1 a2 M) (fun M1 => f_X11_trip a1 a2 M1) q n := by
  sorry
theorem ag_send {M : zm_Mem} {q n : Nat} (hI : Inv M q n) (hn : n < 512) (a1 : Int32) (a2 : Int32) : Ag (f_X10_send a1 a2 M) (fun M1 => f_X11_send a1 a2 M1) q n := by
  sorry
theorem ag_lift {M : zm_Mem} {q n : Nat} (hI : Inv M q n) (hn : n < 512) (a1 : Int32) (a2 : Int32) (ha2 : a2 = 0 ∨ a2 = 1): Ag (f_X10_lift a1 a2 M) (fun M1 => f_X11_lift a1 a2 M1) q n := by
  sorry
theorem ag_days {M : zm_Mem} {q n : Nat} (hI : Inv M q n) (hn : n < 512) (a1 : Int32) : Ag (f_X10_days a1 M) (fun M1 => f_X11_days a1 M1) q n := by
  sorry
theorem ag_undo {M : zm_Mem} {q n : Nat} (hI : Inv M q n) (hn : n < 512) : Ag (f_X10_undo M) (fun M1 => f_X11_undo M1) q n := by
  sorry
theorem ag_well {M : zm_Mem} {q n : Nat} (hI : Inv M q n) (hn : n < 512) : Ag (f_X10_well M) (fun M1 => f_X11_well M1) q n := by
  sorry
theorem ag_bad {M : zm_Mem} {q n : Nat} (hI : Inv M q n) (hn : n < 512) : Ag (f_X10_bad M) (fun M1 => f_X11_bad M1) q n := by
  sorry
theorem ag_hangings {M : zm_Mem} {q n : Nat} (hI : Inv M q n) (hn : n < 512) : Ag (f_X10_hangingsP M) (fun M1 => f_X11_hangings M1) (q + 1) n := by
  sorry
theorem ag_nearest {M : zm_Mem} {q n : Nat} (hI : Inv M q n) (hn : n < 512) (a1 : Int32) (he : ¬ (f_X10_nearestE a1 M).isSome = true) : Ag (f_X10_nearestP a1 M) (fun M1 => f_X11_nearest a1 M1) (q + 1) n := by
  sorry
theorem ag_nearestE {M : zm_Mem} {q n : Nat} (hI : Inv M q n) (hn : n < 512) (a1 : Int32) (he : (f_X10_nearestE a1 M).isSome = true) : Ag (rd (f_X10_nearestE a1 M) M) (fun M1 => f_X11_nearest a1 M1) q n := by
  sorry
theorem ag_quarrel {M : zm_Mem} {q n : Nat} (hI : Inv M q n) (hn : n < 512) (a1 : Int32) (he : ¬ (f_X10_quarrelE a1 M).isSome = true) : Ag (f_X10_quarrelP a1 M) (fun M1 => f_X11_quarrel a1 M1) (q + 1) n := by
  sorry
theorem ag_quarrelE {M : zm_Mem} {q n : Nat} (hI : Inv M q n) (hn : n < 512) (a1 : Int32) (he : (f_X10_quarrelE a1 M).isSome = true) : Ag (rd (f_X10_quarrelE a1 M) M) (fun M1 => f_X11_quarrel a1 M1) q n := by
  sorry
theorem ag_home {M : zm_Mem} {q n : Nat} (hI : Inv M q n) (hn : n < 512) (a1 : Int32) (ha1 : a1 = 0 ∨ a1 = 1): Ag (f_X10_homeP a1 M) (fun M1 => f_X11_home a1 M1) (q + 1) n := by
  sorry
theorem ag_swaps {M : zm_Mem} {q n : Nat} (hI : Inv M q n) (hn : n < 512) (a1 : Int32) : Ag (f_X10_swaps a1 M) (fun M1 => f_X11_swaps a1 M1) q n := by
  sorry
theorem ag_backs {M : zm_Mem} {q n : Nat} (hI : Inv M q n) (hn : n < 512) (a1 : Int32) : Ag (f_X10_backs a1 M) (fun M1 => f_X11_backs a1 M1) q n := by
  sorry
theorem ag_soonest {M : zm_Mem} {q n : Nat} (hI : Inv M q n) (hn : n < 512) : Ag (f_X10_soonest M) (fun M1 => f_X11_soonest M1) q n := by
  sorry
theorem ag_then {M : zm_Mem} {q n : Nat} (hI : Inv M q n) (hn : n < 512) (a1 : Int32) (a2 : Int32) : Ag (rd (f_X10_then a1 a2 M) M) (fun M1 => f_X11_then a1 a2 M1) q n := by
  sorry
theorem ag_times {M : zm_Mem} {q n : Nat} (hI : Inv M q n) (hn : n < 512) (a1 : Int32) (a2 : Int32) (a3 : Int32) (a4 : Int32) : Ag (f_X10_times a1 a2 a3 a4 M) (fun M1 => f_X11_times a1 a2 a3 a4 M1) q n := by
  sorry
theorem ag_owes {M : zm_Mem} {q n : Nat} (hI : Inv M q n) (hn : n < 512) (a1 : Int32) (a2 : Int32) : Ag (rd (f_X10_owes a1 a2 M) M) (fun M1 => rd (f_X11_owes a1 a2 M1) M1) q n := by
  sorry
theorem ag_richest {M : zm_Mem} {q n : Nat} (hI : Inv M q n) (hn : n < 512) (a1 : Int32) (ha1 : a1 = 0 ∨ a1 = 1): Ag (rd (f_X10_richest a1 M) M) (fun M1 => rd (f_X11_richest a1 M1) M1) q n := by
  sorry
theorem ag_lent {M : zm_Mem} {q n : Nat} (hI : Inv M q n) (hn : n < 512) (a1 : Int32) (a2 : Int32) : Ag (rd (f_X10_lent a1 a2 M) M) (fun M1 => rd (f_X11_lent a1 a2 M1) M1) q n := by
  sorry
theorem ag_list {M : zm_Mem} {q n : Nat} (hI : Inv M q n) (hn : n < 512) (a1 : Int32) (a2 : Int32) (a3 : Int32) : Ag (f_X10_list a1 a2 a3 M) (fun M1 => f_X11_list a1 a2 a3 M1) q n := by
  sorry
theorem ag_forget {M : zm_Mem} {q n : Nat} (hI : Inv M q n) (hn : n < 512) : Ag (f_X10_forget M) (fun M1 => f_X11_forget M1) q n := by
  sorry
theorem ag_fits {M : zm_Mem} {q n : Nat} (hI : Inv M q n) (hn : n < 512) (a1 : Int32) (a2 : Int32) : Ag (f_X10_fits a1 a2 M) (fun M1 => rd (f_X11_fits a1 a2 M1) M1) q n := by
  sorry
theorem ag_least {M : zm_Mem} {q n : Nat} (hI : Inv M q n) (hn : n < 512) (a1 : Int32) : Ag (f_X10_least a1 M) (fun M1 => rd (f_X11_least a1 M1) M1) q n := by
  sorry
theorem ag_sure {M : zm_Mem} {q n : Nat} (hI : Inv M q n) (hn : n < 512) (a1 : Int32) (a2 : Int32) : Ag (f_X10_sure a1 a2 M) (fun M1 => rd (f_X11_sure a1 a2 M1) M1) q n := by
  sorry
theorem ag_hold {M : zm_Mem} {q n : Nat} (hI : Inv M q n) (hn : n < 512) (a1 : Int32) : Ag (f_X10_hold a1 M) (fun M1 => f_X11_hold a1 M1) q n := by
  sorry
theorem ag_restore {M : zm_Mem} {q n : Nat} (hI : Inv M q n) (hn : n < 512) (a1 : Int32) : Ag (f_X10_restore a1 M) (fun M1 => f_X11_restore a1 M1) q n := by
  sorry
theorem ag_count {M : zm_Mem} {q n : Nat} (hI : Inv M q n) (hn : n < 512) (a1 : Int32) : Ag (rd (f_X10_count a1 M) M) (fun M1 => f_X11_count a1 M1) q n := by
  sorry
