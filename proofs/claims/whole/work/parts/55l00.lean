abbrev iL (nm : String) : tY := (RL, cL_law, 4, some .boolean, nm)
abbrev rL : Room := { frames := 2048, cells := 600000, slots := 7302250, locals := 84000 }
theorem lg_cmp_self (v : Int64) : lg_cmp v v = 0 := by
  simp [lg_cmp]
theorem wconstlL_13 : Cond.constantLong RL 13 4294967295 ∈ tgd := (tgd_t 1860 (by decide +kernel) (by decide +kernel))
theorem wcL_15 : tCB RL 15 yX10_part cX10_part 6 (some .int) 3 ∧ Cond.methodLink RL 15 yX10_part ∈ tgd ∧ Cond.instanceMethod yX10_part ∈ tgd ∧ Cond.selects RX10 yX10_part yX10_part ∈ tgd := ⟨⟨(tgd_t 383 (by decide +kernel) (by decide +kernel)), (tgd_t 1 (by decide +kernel) (by decide +kernel)), by decide, by decide +kernel⟩, (tgd_t 380 (by decide +kernel) (by decide +kernel)), (tgd_t 381 (by decide +kernel) (by decide +kernel)), (tgd_t 382 (by decide +kernel) (by decide +kernel))⟩
theorem wcL_19 : tCB RL 19 yX11_part cX11_part 6 (some .int) 3 ∧ Cond.methodLink RL 19 yX11_part ∈ tgd ∧ Cond.instanceMethod yX11_part ∈ tgd ∧ Cond.selects RX11 yX11_part yX11_part ∈ tgd := ⟨⟨(tgd_t 1461 (by decide +kernel) (by decide +kernel)), (tgd_t 10 (by decide +kernel) (by decide +kernel)), by decide, by decide +kernel⟩, (tgd_t 1458 (by decide +kernel) (by decide +kernel)), (tgd_t 1459 (by decide +kernel) (by decide +kernel)), (tgd_t 1460 (by decide +kernel) (by decide +kernel))⟩
theorem wcL_20 : tCB RL 20 yX10_line cX10_line 8 (some .int) 4 ∧ Cond.methodLink RL 20 yX10_line ∈ tgd ∧ Cond.instanceMethod yX10_line ∈ tgd ∧ Cond.selects RX10 yX10_line yX10_line ∈ tgd := ⟨⟨(tgd_t 539 (by decide +kernel) (by decide +kernel)), (tgd_t 1 (by decide +kernel) (by decide +kernel)), by decide, by decide +kernel⟩, (tgd_t 536 (by decide +kernel) (by decide +kernel)), (tgd_t 537 (by decide +kernel) (by decide +kernel)), (tgd_t 538 (by decide +kernel) (by decide +kernel))⟩
theorem wcL_24 : tCB RL 24 yX11_line cX11_line 6 (some .int) 4 ∧ Cond.methodLink RL 24 yX11_line ∈ tgd ∧ Cond.instanceMethod yX11_line ∈ tgd ∧ Cond.selects RX11 yX11_line yX11_line ∈ tgd := ⟨⟨(tgd_t 1484 (by decide +kernel) (by decide +kernel)), (tgd_t 10 (by decide +kernel) (by decide +kernel)), by decide, by decide +kernel⟩, (tgd_t 1481 (by decide +kernel) (by decide +kernel)), (tgd_t 1482 (by decide +kernel) (by decide +kernel)), (tgd_t 1483 (by decide +kernel) (by decide +kernel))⟩
theorem wcL_25 : tCB RL 25 yX10_count cX10_count 9 (some .int) 4 ∧ Cond.methodLink RL 25 yX10_count ∈ tgd ∧ Cond.instanceMethod yX10_count ∈ tgd ∧ Cond.selects RX10 yX10_count yX10_count ∈ tgd := ⟨⟨(tgd_t 636 (by decide +kernel) (by decide +kernel)), (tgd_t 1 (by decide +kernel) (by decide +kernel)), by decide, by decide +kernel⟩, (tgd_t 633 (by decide +kernel) (by decide +kernel)), (tgd_t 634 (by decide +kernel) (by decide +kernel)), (tgd_t 635 (by decide +kernel) (by decide +kernel))⟩
theorem wcL_29 : tCB RL 29 yX11_count cX11_count 7 (some .int) 4 ∧ Cond.methodLink RL 29 yX11_count ∈ tgd ∧ Cond.instanceMethod yX11_count ∈ tgd ∧ Cond.selects RX11 yX11_count yX11_count ∈ tgd := ⟨⟨(tgd_t 1492 (by decide +kernel) (by decide +kernel)), (tgd_t 10 (by decide +kernel) (by decide +kernel)), by decide, by decide +kernel⟩, (tgd_t 1489 (by decide +kernel) (by decide +kernel)), (tgd_t 1490 (by decide +kernel) (by decide +kernel)), (tgd_t 1491 (by decide +kernel) (by decide +kernel))⟩
theorem wcL_30 : tCB RL 30 yX10_first cX10_first 4 (some .int) 2 ∧ Cond.methodLink RL 30 yX10_first ∈ tgd ∧ Cond.instanceMethod yX10_first ∈ tgd ∧ Cond.selects RX10 yX10_first yX10_first ∈ tgd := ⟨⟨(tgd_t 644 (by decide +kernel) (by decide +kernel)), (tgd_t 1 (by decide +kernel) (by decide +kernel)), by decide, by decide +kernel⟩, (tgd_t 641 (by decide +kernel) (by decide +kernel)), (tgd_t 642 (by decide +kernel) (by decide +kernel)), (tgd_t 643 (by decide +kernel) (by decide +kernel))⟩
theorem wcL_34 : tCB RL 34 yX11_first cX11_first 4 (some .int) 2 ∧ Cond.methodLink RL 34 yX11_first ∈ tgd ∧ Cond.instanceMethod yX11_first ∈ tgd ∧ Cond.selects RX11 yX11_first yX11_first ∈ tgd := ⟨⟨(tgd_t 1500 (by decide +kernel) (by decide +kernel)), (tgd_t 10 (by decide +kernel) (by decide +kernel)), by decide, by decide +kernel⟩, (tgd_t 1497 (by decide +kernel) (by decide +kernel)), (tgd_t 1498 (by decide +kernel) (by decide +kernel)), (tgd_t 1499 (by decide +kernel) (by decide +kernel))⟩
theorem wcL_35 : tCB RL 35 yX10_thing cX10_thing 6 (some .int) 3 ∧ Cond.methodLink RL 35 yX10_thing ∈ tgd ∧ Cond.instanceMethod yX10_thing ∈ tgd ∧ Cond.selects RX10 yX10_thing yX10_thing ∈ tgd := ⟨⟨(tgd_t 651 (by decide +kernel) (by decide +kernel)), (tgd_t 1 (by decide +kernel) (by decide +kernel)), by decide, by decide +kernel⟩, (tgd_t 648 (by decide +kernel) (by decide +kernel)), (tgd_t 649 (by decide +kernel) (by decide +kernel)), (tgd_t 650 (by decide +kernel) (by decide +kernel))⟩
theorem wcL_39 : tCB RL 39 yX11_thing cX11_thing 5 (some .int) 3 ∧ Cond.methodLink RL 39 yX11_thing ∈ tgd ∧ Cond.instanceMethod yX11_thing ∈ tgd ∧ Cond.selects RX11 yX11_thing yX11_thing ∈ tgd := ⟨⟨(tgd_t 1504 (by decide +kernel) (by decide +kernel)), (tgd_t 10 (by decide +kernel) (by decide +kernel)), by decide, by decide +kernel⟩, (tgd_t 1501 (by decide +kernel) (by decide +kernel)), (tgd_t 1502 (by decide +kernel) (by decide +kernel)), (tgd_t 1503 (by decide +kernel) (by decide +kernel))⟩
theorem wcL_40 : tCB RL 40 yX10_row cX10_row 6 (some .int) 3 ∧ Cond.methodLink RL 40 yX10_row ∈ tgd ∧ Cond.instanceMethod yX10_row ∈ tgd ∧ Cond.selects RX10 yX10_row yX10_row ∈ tgd := ⟨⟨(tgd_t 655 (by decide +kernel) (by decide +kernel)), (tgd_t 1 (by decide +kernel) (by decide +kernel)), by decide, by decide +kernel⟩, (tgd_t 652 (by decide +kernel) (by decide +kernel)), (tgd_t 653 (by decide +kernel) (by decide +kernel)), (tgd_t 654 (by decide +kernel) (by decide +kernel))⟩
theorem wcL_43 : tCB RL 43 yX11_row cX11_row 5 (some .int) 3 ∧ Cond.methodLink RL 43 yX11_row ∈ tgd ∧ Cond.instanceMethod yX11_row ∈ tgd ∧ Cond.selects RX11 yX11_row yX11_row ∈ tgd := ⟨⟨(tgd_t 1508 (by decide +kernel) (by decide +kernel)), (tgd_t 10 (by decide +kernel) (by decide +kernel)), by decide, by decide +kernel⟩, (tgd_t 1505 (by decide +kernel) (by decide +kernel)), (tgd_t 1506 (by decide +kernel) (by decide +kernel)), (tgd_t 1507 (by decide +kernel) (by decide +kernel))⟩
theorem wcL_44 : tCB RL 44 yX10_copy cX10_copy 8 (some .int) 5 ∧ Cond.methodLink RL 44 yX10_copy ∈ tgd ∧ Cond.instanceMethod yX10_copy ∈ tgd ∧ Cond.selects RX10 yX10_copy yX10_copy ∈ tgd := ⟨⟨(tgd_t 659 (by decide +kernel) (by decide +kernel)), (tgd_t 1 (by decide +kernel) (by decide +kernel)), by decide, by decide +kernel⟩, (tgd_t 656 (by decide +kernel) (by decide +kernel)), (tgd_t 657 (by decide +kernel) (by decide +kernel)), (tgd_t 658 (by decide +kernel) (by decide +kernel))⟩
theorem wcL_48 : tCB RL 48 yX11_copy cX11_copy 7 (some .int) 5 ∧ Cond.methodLink RL 48 yX11_copy ∈ tgd ∧ Cond.instanceMethod yX11_copy ∈ tgd ∧ Cond.selects RX11 yX11_copy yX11_copy ∈ tgd := ⟨⟨(tgd_t 1512 (by decide +kernel) (by decide +kernel)), (tgd_t 10 (by decide +kernel) (by decide +kernel)), by decide, by decide +kernel⟩, (tgd_t 1509 (by decide +kernel) (by decide +kernel)), (tgd_t 1510 (by decide +kernel) (by decide +kernel)), (tgd_t 1511 (by decide +kernel) (by decide +kernel))⟩
theorem wcL_49 : tCB RL 49 yX10_tear cX10_tear 3 (some .int) 1 ∧ Cond.methodLink RL 49 yX10_tear ∈ tgd ∧ Cond.instanceMethod yX10_tear ∈ tgd ∧ Cond.selects RX10 yX10_tear yX10_tear ∈ tgd := ⟨⟨(tgd_t 667 (by decide +kernel) (by decide +kernel)), (tgd_t 1 (by decide +kernel) (by decide +kernel)), by decide, by decide +kernel⟩, (tgd_t 664 (by decide +kernel) (by decide +kernel)), (tgd_t 665 (by decide +kernel) (by decide +kernel)), (tgd_t 666 (by decide +kernel) (by decide +kernel))⟩
theorem wcL_53 : tCB RL 53 yX11_tear cX11_tear 2 (some .int) 1 ∧ Cond.methodLink RL 53 yX11_tear ∈ tgd ∧ Cond.instanceMethod yX11_tear ∈ tgd ∧ Cond.selects RX11 yX11_tear yX11_tear ∈ tgd := ⟨⟨(tgd_t 1519 (by decide +kernel) (by decide +kernel)), (tgd_t 10 (by decide +kernel) (by decide +kernel)), by decide, by decide +kernel⟩, (tgd_t 1516 (by decide +kernel) (by decide +kernel)), (tgd_t 1517 (by decide +kernel) (by decide +kernel)), (tgd_t 1518 (by decide +kernel) (by decide +kernel))⟩
theorem wcL_54 : tCB RL 54 yX10_told cX10_told 4 (some .int) 2 ∧ Cond.methodLink RL 54 yX10_told ∈ tgd ∧ Cond.instanceMethod yX10_told ∈ tgd ∧ Cond.selects RX10 yX10_told yX10_told ∈ tgd := ⟨⟨(tgd_t 671 (by decide +kernel) (by decide +kernel)), (tgd_t 1 (by decide +kernel) (by decide +kernel)), by decide, by decide +kernel⟩, (tgd_t 668 (by decide +kernel) (by decide +kernel)), (tgd_t 669 (by decide +kernel) (by decide +kernel)), (tgd_t 670 (by decide +kernel) (by decide +kernel))⟩
theorem wcL_57 : tCB RL 57 yX11_told cX11_told 3 (some .int) 2 ∧ Cond.methodLink RL 57 yX11_told ∈ tgd ∧ Cond.instanceMethod yX11_told ∈ tgd ∧ Cond.selects RX11 yX11_told yX11_told ∈ tgd := ⟨⟨(tgd_t 1523 (by decide +kernel) (by decide +kernel)), (tgd_t 10 (by decide +kernel) (by decide +kernel)), by decide, by decide +kernel⟩, (tgd_t 1520 (by decide +kernel) (by decide +kernel)), (tgd_t 1521 (by decide +kernel) (by decide +kernel)), (tgd_t 1522 (by decide +kernel) (by decide +kernel))⟩
theorem wcL_58 : tCB RL 58 yX10_is cX10_is 6 (some .int) 2 ∧ Cond.methodLink RL 58 yX10_is ∈ tgd ∧ Cond.instanceMethod yX10_is ∈ tgd ∧ Cond.selects RX10 yX10_is yX10_is ∈ tgd := ⟨⟨(tgd_t 679 (by decide +kernel) (by decide +kernel)), (tgd_t 1 (by decide +kernel) (by decide +kernel)), by decide, by decide +kernel⟩, (tgd_t 676 (by decide +kernel) (by decide +kernel)), (tgd_t 677 (by decide +kernel) (by decide +kernel)), (tgd_t 678 (by decide +kernel) (by decide +kernel))⟩
theorem wcL_61 : tCB RL 61 yX11_is cX11_is 4 (some .int) 2 ∧ Cond.methodLink RL 61 yX11_is ∈ tgd ∧ Cond.instanceMethod yX11_is ∈ tgd ∧ Cond.selects RX11 yX11_is yX11_is ∈ tgd := ⟨⟨(tgd_t 1531 (by decide +kernel) (by decide +kernel)), (tgd_t 10 (by decide +kernel) (by decide +kernel)), by decide, by decide +kernel⟩, (tgd_t 1528 (by decide +kernel) (by decide +kernel)), (tgd_t 1529 (by decide +kernel) (by decide +kernel)), (tgd_t 1530 (by decide +kernel) (by decide +kernel))⟩
theorem wcL_62 : tCB RL 62 yX10_ends cX10_ends 4 (some .int) 2 ∧ Cond.methodLink RL 62 yX10_ends ∈ tgd ∧ Cond.instanceMethod yX10_ends ∈ tgd ∧ Cond.selects RX10 yX10_ends yX10_ends ∈ tgd := ⟨⟨(tgd_t 685 (by decide +kernel) (by decide +kernel)), (tgd_t 1 (by decide +kernel) (by decide +kernel)), by decide, by decide +kernel⟩, (tgd_t 682 (by decide +kernel) (by decide +kernel)), (tgd_t 683 (by decide +kernel) (by decide +kernel)), (tgd_t 684 (by decide +kernel) (by decide +kernel))⟩
theorem wcL_65 : tCB RL 65 yX11_ends cX11_ends 3 (some .int) 2 ∧ Cond.methodLink RL 65 yX11_ends ∈ tgd ∧ Cond.instanceMethod yX11_ends ∈ tgd ∧ Cond.selects RX11 yX11_ends yX11_ends ∈ tgd := ⟨⟨(tgd_t 1538 (by decide +kernel) (by decide +kernel)), (tgd_t 10 (by decide +kernel) (by decide +kernel)), by decide, by decide +kernel⟩, (tgd_t 1535 (by decide +kernel) (by decide +kernel)), (tgd_t 1536 (by decide +kernel) (by decide +kernel)), (tgd_t 1537 (by decide +kernel) (by decide +kernel))⟩
theorem wcL_66 : tCB RL 66 yX10_round cX10_round 2 (some .int) 0 ∧ Cond.methodLink RL 66 yX10_round ∈ tgd ∧ Cond.instanceMethod yX10_round ∈ tgd ∧ Cond.selects RX10 yX10_round yX10_round ∈ tgd := ⟨⟨(tgd_t 701 (by decide +kernel) (by decide +kernel)), (tgd_t 1 (by decide +kernel) (by decide +kernel)), by decide, by decide +kernel⟩, (tgd_t 698 (by decide +kernel) (by decide +kernel)), (tgd_t 699 (by decide +kernel) (by decide +kernel)), (tgd_t 700 (by decide +kernel) (by decide +kernel))⟩
theorem wcL_70 : tCB RL 70 yX11_round cX11_round 2 (some .int) 0 ∧ Cond.methodLink RL 70 yX11_round ∈ tgd ∧ Cond.instanceMethod yX11_round ∈ tgd ∧ Cond.selects RX11 yX11_round yX11_round ∈ tgd := ⟨⟨(tgd_t 1546 (by decide +kernel) (by decide +kernel)), (tgd_t 10 (by decide +kernel) (by decide +kernel)), by decide, by decide +kernel⟩, (tgd_t 1543 (by decide +kernel) (by decide +kernel)), (tgd_t 1544 (by decide +kernel) (by decide +kernel)), (tgd_t 1545 (by decide +kernel) (by decide +kernel))⟩
theorem wcL_71 : tCB RL 71 yX10_firings cX10_firings 4 (some .int) 1 ∧ Cond.methodLink RL 71 yX10_firings ∈ tgd ∧ Cond.instanceMethod yX10_firings ∈ tgd ∧ Cond.selects RX10 yX10_firings yX10_firings ∈ tgd := ⟨⟨(tgd_t 752 (by decide +kernel) (by decide +kernel)), (tgd_t 1 (by decide +kernel) (by decide +kernel)), by decide, by decide +kernel⟩, (tgd_t 749 (by decide +kernel) (by decide +kernel)), (tgd_t 750 (by decide +kernel) (by decide +kernel)), (tgd_t 751 (by decide +kernel) (by decide +kernel))⟩
theorem wcL_74 : tCB RL 74 yX11_firings cX11_firings 3 (some .int) 1 ∧ Cond.methodLink RL 74 yX11_firings ∈ tgd ∧ Cond.instanceMethod yX11_firings ∈ tgd ∧ Cond.selects RX11 yX11_firings yX11_firings ∈ tgd := ⟨⟨(tgd_t 1576 (by decide +kernel) (by decide +kernel)), (tgd_t 10 (by decide +kernel) (by decide +kernel)), by decide, by decide +kernel⟩, (tgd_t 1573 (by decide +kernel) (by decide +kernel)), (tgd_t 1574 (by decide +kernel) (by decide +kernel)), (tgd_t 1575 (by decide +kernel) (by decide +kernel))⟩
theorem wcL_75 : tCB RL 75 yX10_uneven cX10_uneven 1 (some .int) 0 ∧ Cond.methodLink RL 75 yX10_uneven ∈ tgd ∧ Cond.instanceMethod yX10_uneven ∈ tgd ∧ Cond.selects RX10 yX10_uneven yX10_uneven ∈ tgd := ⟨⟨(tgd_t 756 (by decide +kernel) (by decide +kernel)), (tgd_t 1 (by decide +kernel) (by decide +kernel)), by decide, by decide +kernel⟩, (tgd_t 753 (by decide +kernel) (by decide +kernel)), (tgd_t 754 (by decide +kernel) (by decide +kernel)), (tgd_t 755 (by decide +kernel) (by decide +kernel))⟩
theorem wcL_78 : tCB RL 78 yX11_uneven cX11_uneven 2 (some .int) 0 ∧ Cond.methodLink RL 78 yX11_uneven ∈ tgd ∧ Cond.instanceMethod yX11_uneven ∈ tgd ∧ Cond.selects RX11 yX11_uneven yX11_uneven ∈ tgd := ⟨⟨(tgd_t 1580 (by decide +kernel) (by decide +kernel)), (tgd_t 10 (by decide +kernel) (by decide +kernel)), by decide, by decide +kernel⟩, (tgd_t 1577 (by decide +kernel) (by decide +kernel)), (tgd_t 1578 (by decide +kernel) (by decide +kernel)), (tgd_t 1579 (by decide +kernel) (by decide +kernel))⟩
theorem wcL_79 : tCB RL 79 yX10_stuck cX10_stuck 2 (some .int) 0 ∧ Cond.methodLink RL 79 yX10_stuck ∈ tgd ∧ Cond.instanceMethod yX10_stuck ∈ tgd ∧ Cond.selects RX10 yX10_stuck yX10_stuck ∈ tgd := ⟨⟨(tgd_t 760 (by decide +kernel) (by decide +kernel)), (tgd_t 1 (by decide +kernel) (by decide +kernel)), by decide, by decide +kernel⟩, (tgd_t 757 (by decide +kernel) (by decide +kernel)), (tgd_t 758 (by decide +kernel) (by decide +kernel)), (tgd_t 759 (by decide +kernel) (by decide +kernel))⟩
theorem wcL_82 : tCB RL 82 yX11_stuck cX11_stuck 2 (some .int) 0 ∧ Cond.methodLink RL 82 yX11_stuck ∈ tgd ∧ Cond.instanceMethod yX11_stuck ∈ tgd ∧ Cond.selects RX11 yX11_stuck yX11_stuck ∈ tgd := ⟨⟨(tgd_t 1584 (by decide +kernel) (by decide +kernel)), (tgd_t 10 (by decide +kernel) (by decide +kernel)), by decide, by decide +kernel⟩, (tgd_t 1581 (by decide +kernel) (by decide +kernel)), (tgd_t 1582 (by decide +kernel) (by decide +kernel)), (tgd_t 1583 (by decide +kernel) (by decide +kernel))⟩
theorem wcL_83 : tCB RL 83 yX10_lacks cX10_lacks 3 (some .int) 1 ∧ Cond.methodLink RL 83 yX10_lacks ∈ tgd ∧ Cond.instanceMethod yX10_lacks ∈ tgd ∧ Cond.selects RX10 yX10_lacks yX10_lacks ∈ tgd := ⟨⟨(tgd_t 799 (by decide +kernel) (by decide +kernel)), (tgd_t 1 (by decide +kernel) (by decide +kernel)), by decide, by decide +kernel⟩, (tgd_t 796 (by decide +kernel) (by decide +kernel)), (tgd_t 797 (by decide +kernel) (by decide +kernel)), (tgd_t 798 (by decide +kernel) (by decide +kernel))⟩
theorem wcL_86 : tCB RL 86 yX11_lacks cX11_lacks 5 (some .int) 1 ∧ Cond.methodLink RL 86 yX11_lacks ∈ tgd ∧ Cond.instanceMethod yX11_lacks ∈ tgd ∧ Cond.selects RX11 yX11_lacks yX11_lacks ∈ tgd := ⟨⟨(tgd_t 1616 (by decide +kernel) (by decide +kernel)), (tgd_t 10 (by decide +kernel) (by decide +kernel)), by decide, by decide +kernel⟩, (tgd_t 1613 (by decide +kernel) (by decide +kernel)), (tgd_t 1614 (by decide +kernel) (by decide +kernel)), (tgd_t 1615 (by decide +kernel) (by decide +kernel))⟩
theorem wcL_87 : tCB RL 87 yX10_schedule cX10_schedule 3 (some .int) 1 ∧ Cond.methodLink RL 87 yX10_schedule ∈ tgd ∧ Cond.instanceMethod yX10_schedule ∈ tgd ∧ Cond.selects RX10 yX10_schedule yX10_schedule ∈ tgd := ⟨⟨(tgd_t 822 (by decide +kernel) (by decide +kernel)), (tgd_t 1 (by decide +kernel) (by decide +kernel)), by decide, by decide +kernel⟩, (tgd_t 819 (by decide +kernel) (by decide +kernel)), (tgd_t 820 (by decide +kernel) (by decide +kernel)), (tgd_t 821 (by decide +kernel) (by decide +kernel))⟩
theorem wcL_90 : tCB RL 90 yX11_schedule cX11_schedule 5 (some .int) 1 ∧ Cond.methodLink RL 90 yX11_schedule ∈ tgd ∧ Cond.instanceMethod yX11_schedule ∈ tgd ∧ Cond.selects RX11 yX11_schedule yX11_schedule ∈ tgd := ⟨⟨(tgd_t 1624 (by decide +kernel) (by decide +kernel)), (tgd_t 10 (by decide +kernel) (by decide +kernel)), by decide, by decide +kernel⟩, (tgd_t 1621 (by decide +kernel) (by decide +kernel)), (tgd_t 1622 (by decide +kernel) (by decide +kernel)), (tgd_t 1623 (by decide +kernel) (by decide +kernel))⟩
theorem wcL_91 : tCB RL 91 yX10_least cX10_least 3 (some .int) 1 ∧ Cond.methodLink RL 91 yX10_least ∈ tgd ∧ Cond.instanceMethod yX10_least ∈ tgd ∧ Cond.selects RX10 yX10_least yX10_least ∈ tgd := ⟨⟨(tgd_t 855 (by decide +kernel) (by decide +kernel)), (tgd_t 1 (by decide +kernel) (by decide +kernel)), by decide, by decide +kernel⟩, (tgd_t 852 (by decide +kernel) (by decide +kernel)), (tgd_t 853 (by decide +kernel) (by decide +kernel)), (tgd_t 854 (by decide +kernel) (by decide +kernel))⟩
theorem wcL_94 : tCB RL 94 yX11_least cX11_least 7 (some .int) 1 ∧ Cond.methodLink RL 94 yX11_least ∈ tgd ∧ Cond.instanceMethod yX11_least ∈ tgd ∧ Cond.selects RX11 yX11_least yX11_least ∈ tgd := ⟨⟨(tgd_t 1652 (by decide +kernel) (by decide +kernel)), (tgd_t 10 (by decide +kernel) (by decide +kernel)), by decide, by decide +kernel⟩, (tgd_t 1649 (by decide +kernel) (by decide +kernel)), (tgd_t 1650 (by decide +kernel) (by decide +kernel)), (tgd_t 1651 (by decide +kernel) (by decide +kernel))⟩
theorem wcL_95 : tCB RL 95 yX10_tries cX10_tries 1 (some .int) 0 ∧ Cond.methodLink RL 95 yX10_tries ∈ tgd ∧ Cond.instanceMethod yX10_tries ∈ tgd ∧ Cond.selects RX10 yX10_tries yX10_tries ∈ tgd := ⟨⟨(tgd_t 897 (by decide +kernel) (by decide +kernel)), (tgd_t 1 (by decide +kernel) (by decide +kernel)), by decide, by decide +kernel⟩, (tgd_t 894 (by decide +kernel) (by decide +kernel)), (tgd_t 895 (by decide +kernel) (by decide +kernel)), (tgd_t 896 (by decide +kernel) (by decide +kernel))⟩
theorem wcL_98 : tCB RL 98 yX11_tries cX11_tries 1 (some .int) 0 ∧ Cond.methodLink RL 98 yX11_tries ∈ tgd ∧ Cond.instanceMethod yX11_tries ∈ tgd ∧ Cond.selects RX11 yX11_tries yX11_tries ∈ tgd := ⟨⟨(tgd_t 1673 (by decide +kernel) (by decide +kernel)), (tgd_t 10 (by decide +kernel) (by decide +kernel)), by decide, by decide +kernel⟩, (tgd_t 1670 (by decide +kernel) (by decide +kernel)), (tgd_t 1671 (by decide +kernel) (by decide +kernel)), (tgd_t 1672 (by decide +kernel) (by decide +kernel))⟩
theorem wcL_99 : tCB RL 99 yX10_once cX10_once 2 (some .int) 0 ∧ Cond.methodLink RL 99 yX10_once ∈ tgd ∧ Cond.instanceMethod yX10_once ∈ tgd ∧ Cond.selects RX10 yX10_once yX10_once ∈ tgd := ⟨⟨(tgd_t 901 (by decide +kernel) (by decide +kernel)), (tgd_t 1 (by decide +kernel) (by decide +kernel)), by decide, by decide +kernel⟩, (tgd_t 898 (by decide +kernel) (by decide +kernel)), (tgd_t 899 (by decide +kernel) (by decide +kernel)), (tgd_t 900 (by decide +kernel) (by decide +kernel))⟩
theorem wcL_102 : tCB RL 102 yX11_once cX11_once 4 (some .int) 0 ∧ Cond.methodLink RL 102 yX11_once ∈ tgd ∧ Cond.instanceMethod yX11_once ∈ tgd ∧ Cond.selects RX11 yX11_once yX11_once ∈ tgd := ⟨⟨(tgd_t 1677 (by decide +kernel) (by decide +kernel)), (tgd_t 10 (by decide +kernel) (by decide +kernel)), by decide, by decide +kernel⟩, (tgd_t 1674 (by decide +kernel) (by decide +kernel)), (tgd_t 1675 (by decide +kernel) (by decide +kernel)), (tgd_t 1676 (by decide +kernel) (by decide +kernel))⟩
theorem wcL_103 : tCB RL 103 yX10_bracket cX10_bracket 2 (some .int) 1 ∧ Cond.methodLink RL 103 yX10_bracket ∈ tgd ∧ Cond.instanceMethod yX10_bracket ∈ tgd ∧ Cond.selects RX10 yX10_bracket yX10_bracket ∈ tgd := ⟨⟨(tgd_t 962 (by decide +kernel) (by decide +kernel)), (tgd_t 1 (by decide +kernel) (by decide +kernel)), by decide, by decide +kernel⟩, (tgd_t 959 (by decide +kernel) (by decide +kernel)), (tgd_t 960 (by decide +kernel) (by decide +kernel)), (tgd_t 961 (by decide +kernel) (by decide +kernel))⟩
theorem wcL_106 : tCB RL 106 yX11_bracket cX11_bracket 2 (some .int) 1 ∧ Cond.methodLink RL 106 yX11_bracket ∈ tgd ∧ Cond.instanceMethod yX11_bracket ∈ tgd ∧ Cond.selects RX11 yX11_bracket yX11_bracket ∈ tgd := ⟨⟨(tgd_t 1705 (by decide +kernel) (by decide +kernel)), (tgd_t 10 (by decide +kernel) (by decide +kernel)), by decide, by decide +kernel⟩, (tgd_t 1702 (by decide +kernel) (by decide +kernel)), (tgd_t 1703 (by decide +kernel) (by decide +kernel)), (tgd_t 1704 (by decide +kernel) (by decide +kernel))⟩
theorem wcL_107 : tCB RL 107 yX10_firing cX10_firing 2 (some .int) 1 ∧ Cond.methodLink RL 107 yX10_firing ∈ tgd ∧ Cond.instanceMethod yX10_firing ∈ tgd ∧ Cond.selects RX10 yX10_firing yX10_firing ∈ tgd := ⟨⟨(tgd_t 970 (by decide +kernel) (by decide +kernel)), (tgd_t 1 (by decide +kernel) (by decide +kernel)), by decide, by decide +kernel⟩, (tgd_t 967 (by decide +kernel) (by decide +kernel)), (tgd_t 968 (by decide +kernel) (by decide +kernel)), (tgd_t 969 (by decide +kernel) (by decide +kernel))⟩
theorem wcL_110 : tCB RL 110 yX11_firing cX11_firing 2 (some .int) 1 ∧ Cond.methodLink RL 110 yX11_firing ∈ tgd ∧ Cond.instanceMethod yX11_firing ∈ tgd ∧ Cond.selects RX11 yX11_firing yX11_firing ∈ tgd := ⟨⟨(tgd_t 1709 (by decide +kernel) (by decide +kernel)), (tgd_t 10 (by decide +kernel) (by decide +kernel)), by decide, by decide +kernel⟩, (tgd_t 1706 (by decide +kernel) (by decide +kernel)), (tgd_t 1707 (by decide +kernel) (by decide +kernel)), (tgd_t 1708 (by decide +kernel) (by decide +kernel))⟩
theorem wcL_111 : tCB RL 111 yX10_store cX10_store 2 (some .int) 1 ∧ Cond.methodLink RL 111 yX10_store ∈ tgd ∧ Cond.instanceMethod yX10_store ∈ tgd ∧ Cond.selects RX10 yX10_store yX10_store ∈ tgd := ⟨⟨(tgd_t 978 (by decide +kernel) (by decide +kernel)), (tgd_t 1 (by decide +kernel) (by decide +kernel)), by decide, by decide +kernel⟩, (tgd_t 975 (by decide +kernel) (by decide +kernel)), (tgd_t 976 (by decide +kernel) (by decide +kernel)), (tgd_t 977 (by decide +kernel) (by decide +kernel))⟩
theorem wcL_114 : tCB RL 114 yX11_store cX11_store 2 (some .int) 1 ∧ Cond.methodLink RL 114 yX11_store ∈ tgd ∧ Cond.instanceMethod yX11_store ∈ tgd ∧ Cond.selects RX11 yX11_store yX11_store ∈ tgd := ⟨⟨(tgd_t 1713 (by decide +kernel) (by decide +kernel)), (tgd_t 10 (by decide +kernel) (by decide +kernel)), by decide, by decide +kernel⟩, (tgd_t 1710 (by decide +kernel) (by decide +kernel)), (tgd_t 1711 (by decide +kernel) (by decide +kernel)), (tgd_t 1712 (by decide +kernel) (by decide +kernel))⟩
theorem wcL_115 : tCB RL 115 yX10_marking cX10_marking 4 (some .int) 2 ∧ Cond.methodLink RL 115 yX10_marking ∈ tgd ∧ Cond.instanceMethod yX10_marking ∈ tgd ∧ Cond.selects RX10 yX10_marking yX10_marking ∈ tgd := ⟨⟨(tgd_t 982 (by decide +kernel) (by decide +kernel)), (tgd_t 1 (by decide +kernel) (by decide +kernel)), by decide, by decide +kernel⟩, (tgd_t 979 (by decide +kernel) (by decide +kernel)), (tgd_t 980 (by decide +kernel) (by decide +kernel)), (tgd_t 981 (by decide +kernel) (by decide +kernel))⟩
theorem wcL_118 : tCB RL 118 yX11_marking cX11_marking 5 (some .int) 2 ∧ Cond.methodLink RL 118 yX11_marking ∈ tgd ∧ Cond.instanceMethod yX11_marking ∈ tgd ∧ Cond.selects RX11 yX11_marking yX11_marking ∈ tgd := ⟨⟨(tgd_t 1717 (by decide +kernel) (by decide +kernel)), (tgd_t 10 (by decide +kernel) (by decide +kernel)), by decide, by decide +kernel⟩, (tgd_t 1714 (by decide +kernel) (by decide +kernel)), (tgd_t 1715 (by decide +kernel) (by decide +kernel)), (tgd_t 1716 (by decide +kernel) (by decide +kernel))⟩
theorem wcL_119 : tCB RL 119 yX10_draft cX10_draft 2 (some .int) 1 ∧ Cond.methodLink RL 119 yX10_draft ∈ tgd ∧ Cond.instanceMethod yX10_draft ∈ tgd ∧ Cond.selects RX10 yX10_draft yX10_draft ∈ tgd := ⟨⟨(tgd_t 993 (by decide +kernel) (by decide +kernel)), (tgd_t 1 (by decide +kernel) (by decide +kernel)), by decide, by decide +kernel⟩, (tgd_t 990 (by decide +kernel) (by decide +kernel)), (tgd_t 991 (by decide +kernel) (by decide +kernel)), (tgd_t 992 (by decide +kernel) (by decide +kernel))⟩
theorem wcL_122 : tCB RL 122 yX11_draft cX11_draft 2 (some .int) 1 ∧ Cond.methodLink RL 122 yX11_draft ∈ tgd ∧ Cond.instanceMethod yX11_draft ∈ tgd ∧ Cond.selects RX11 yX11_draft yX11_draft ∈ tgd := ⟨⟨(tgd_t 1721 (by decide +kernel) (by decide +kernel)), (tgd_t 10 (by decide +kernel) (by decide +kernel)), by decide, by decide +kernel⟩, (tgd_t 1718 (by decide +kernel) (by decide +kernel)), (tgd_t 1719 (by decide +kernel) (by decide +kernel)), (tgd_t 1720 (by decide +kernel) (by decide +kernel))⟩
theorem wcL_123 : tCB RL 123 yX10_check cX10_check 4 (some .int) 0 ∧ Cond.methodLink RL 123 yX10_check ∈ tgd ∧ Cond.instanceMethod yX10_check ∈ tgd ∧ Cond.selects RX10 yX10_check yX10_check ∈ tgd := ⟨⟨(tgd_t 997 (by decide +kernel) (by decide +kernel)), (tgd_t 1 (by decide +kernel) (by decide +kernel)), by decide, by decide +kernel⟩, (tgd_t 994 (by decide +kernel) (by decide +kernel)), (tgd_t 995 (by decide +kernel) (by decide +kernel)), (tgd_t 996 (by decide +kernel) (by decide +kernel))⟩
theorem wcL_126 : tCB RL 126 yX11_check cX11_check 5 (some .int) 0 ∧ Cond.methodLink RL 126 yX11_check ∈ tgd ∧ Cond.instanceMethod yX11_check ∈ tgd ∧ Cond.selects RX11 yX11_check yX11_check ∈ tgd := ⟨⟨(tgd_t 1725 (by decide +kernel) (by decide +kernel)), (tgd_t 10 (by decide +kernel) (by decide +kernel)), by decide, by decide +kernel⟩, (tgd_t 1722 (by decide +kernel) (by decide +kernel)), (tgd_t 1723 (by decide +kernel) (by decide +kernel)), (tgd_t 1724 (by decide +kernel) (by decide +kernel))⟩
theorem wcL_127 : tCB RL 127 yX10_time cX10_time 5 (some .int) 2 ∧ Cond.methodLink RL 127 yX10_time ∈ tgd ∧ Cond.instanceMethod yX10_time ∈ tgd ∧ Cond.selects RX10 yX10_time yX10_time ∈ tgd := ⟨⟨(tgd_t 1006 (by decide +kernel) (by decide +kernel)), (tgd_t 1 (by decide +kernel) (by decide +kernel)), by decide, by decide +kernel⟩, (tgd_t 1003 (by decide +kernel) (by decide +kernel)), (tgd_t 1004 (by decide +kernel) (by decide +kernel)), (tgd_t 1005 (by decide +kernel) (by decide +kernel))⟩
theorem wcL_130 : tCB RL 130 yX11_time cX11_time 4 (some .int) 2 ∧ Cond.methodLink RL 130 yX11_time ∈ tgd ∧ Cond.instanceMethod yX11_time ∈ tgd ∧ Cond.selects RX11 yX11_time yX11_time ∈ tgd := ⟨⟨(tgd_t 1729 (by decide +kernel) (by decide +kernel)), (tgd_t 10 (by decide +kernel) (by decide +kernel)), by decide, by decide +kernel⟩, (tgd_t 1726 (by decide +kernel) (by decide +kernel)), (tgd_t 1727 (by decide +kernel) (by decide +kernel)), (tgd_t 1728 (by decide +kernel) (by decide +kernel))⟩
theorem wcL_131 : tCB RL 131 yX10_beat cX10_beat 3 (some .int) 1 ∧ Cond.methodLink RL 131 yX10_beat ∈ tgd ∧ Cond.instanceMethod yX10_beat ∈ tgd ∧ Cond.selects RX10 yX10_beat yX10_beat ∈ tgd := ⟨⟨(tgd_t 1010 (by decide +kernel) (by decide +kernel)), (tgd_t 1 (by decide +kernel) (by decide +kernel)), by decide, by decide +kernel⟩, (tgd_t 1007 (by decide +kernel) (by decide +kernel)), (tgd_t 1008 (by decide +kernel) (by decide +kernel)), (tgd_t 1009 (by decide +kernel) (by decide +kernel))⟩
theorem wcL_135 : tCB RL 135 yX11_beat cX11_beat 4 (some .int) 1 ∧ Cond.methodLink RL 135 yX11_beat ∈ tgd ∧ Cond.instanceMethod yX11_beat ∈ tgd ∧ Cond.selects RX11 yX11_beat yX11_beat ∈ tgd := ⟨⟨(tgd_t 1733 (by decide +kernel) (by decide +kernel)), (tgd_t 10 (by decide +kernel) (by decide +kernel)), by decide, by decide +kernel⟩, (tgd_t 1730 (by decide +kernel) (by decide +kernel)), (tgd_t 1731 (by decide +kernel) (by decide +kernel)), (tgd_t 1732 (by decide +kernel) (by decide +kernel))⟩
theorem wcL_136 : tCB RL 136 yX10_may cX10_may 3 (some .int) 1 ∧ Cond.methodLink RL 136 yX10_may ∈ tgd ∧ Cond.instanceMethod yX10_may ∈ tgd ∧ Cond.selects RX10 yX10_may yX10_may ∈ tgd := ⟨⟨(tgd_t 1063 (by decide +kernel) (by decide +kernel)), (tgd_t 1 (by decide +kernel) (by decide +kernel)), by decide, by decide +kernel⟩, (tgd_t 1060 (by decide +kernel) (by decide +kernel)), (tgd_t 1061 (by decide +kernel) (by decide +kernel)), (tgd_t 1062 (by decide +kernel) (by decide +kernel))⟩
theorem wcL_139 : tCB RL 139 yX11_may cX11_may 2 (some .int) 1 ∧ Cond.methodLink RL 139 yX11_may ∈ tgd ∧ Cond.instanceMethod yX11_may ∈ tgd ∧ Cond.selects RX11 yX11_may yX11_may ∈ tgd := ⟨⟨(tgd_t 1757 (by decide +kernel) (by decide +kernel)), (tgd_t 10 (by decide +kernel) (by decide +kernel)), by decide, by decide +kernel⟩, (tgd_t 1754 (by decide +kernel) (by decide +kernel)), (tgd_t 1755 (by decide +kernel) (by decide +kernel)), (tgd_t 1756 (by decide +kernel) (by decide +kernel))⟩
theorem wcL_140 : tCB RL 140 yX10_fire cX10_fire 3 (some .int) 1 ∧ Cond.methodLink RL 140 yX10_fire ∈ tgd ∧ Cond.instanceMethod yX10_fire ∈ tgd ∧ Cond.selects RX10 yX10_fire yX10_fire ∈ tgd := ⟨⟨(tgd_t 1072 (by decide +kernel) (by decide +kernel)), (tgd_t 1 (by decide +kernel) (by decide +kernel)), by decide, by decide +kernel⟩, (tgd_t 1069 (by decide +kernel) (by decide +kernel)), (tgd_t 1070 (by decide +kernel) (by decide +kernel)), (tgd_t 1071 (by decide +kernel) (by decide +kernel))⟩
theorem wcL_143 : tCB RL 143 yX11_fire cX11_fire 2 (some .int) 1 ∧ Cond.methodLink RL 143 yX11_fire ∈ tgd ∧ Cond.instanceMethod yX11_fire ∈ tgd ∧ Cond.selects RX11 yX11_fire yX11_fire ∈ tgd := ⟨⟨(tgd_t 1765 (by decide +kernel) (by decide +kernel)), (tgd_t 10 (by decide +kernel) (by decide +kernel)), by decide, by decide +kernel⟩, (tgd_t 1762 (by decide +kernel) (by decide +kernel)), (tgd_t 1763 (by decide +kernel) (by decide +kernel)), (tgd_t 1764 (by decide +kernel) (by decide +kernel))⟩
theorem wcL_144 : tCB RL 144 yX10_gave cX10_gave 1 (some .long) 0 ∧ Cond.methodLink RL 144 yX10_gave ∈ tgd ∧ Cond.instanceMethod yX10_gave ∈ tgd ∧ Cond.selects RX10 yX10_gave yX10_gave ∈ tgd := ⟨⟨(tgd_t 1146 (by decide +kernel) (by decide +kernel)), (tgd_t 1 (by decide +kernel) (by decide +kernel)), by decide, by decide +kernel⟩, (tgd_t 1143 (by decide +kernel) (by decide +kernel)), (tgd_t 1144 (by decide +kernel) (by decide +kernel)), (tgd_t 1145 (by decide +kernel) (by decide +kernel))⟩
theorem wcL_148 : tCB RL 148 yX11_gave cX11_gave 1 (some .long) 0 ∧ Cond.methodLink RL 148 yX11_gave ∈ tgd ∧ Cond.instanceMethod yX11_gave ∈ tgd ∧ Cond.selects RX11 yX11_gave yX11_gave ∈ tgd := ⟨⟨(tgd_t 1809 (by decide +kernel) (by decide +kernel)), (tgd_t 10 (by decide +kernel) (by decide +kernel)), by decide, by decide +kernel⟩, (tgd_t 1806 (by decide +kernel) (by decide +kernel)), (tgd_t 1807 (by decide +kernel) (by decide +kernel)), (tgd_t 1808 (by decide +kernel) (by decide +kernel))⟩
theorem wcL_149 : tCB RL 149 yX10_trace cX10_trace 2 (some .int) 1 ∧ Cond.methodLink RL 149 yX10_trace ∈ tgd ∧ Cond.instanceMethod yX10_trace ∈ tgd ∧ Cond.selects RX10 yX10_trace yX10_trace ∈ tgd := ⟨⟨(tgd_t 1150 (by decide +kernel) (by decide +kernel)), (tgd_t 1 (by decide +kernel) (by decide +kernel)), by decide, by decide +kernel⟩, (tgd_t 1147 (by decide +kernel) (by decide +kernel)), (tgd_t 1148 (by decide +kernel) (by decide +kernel)), (tgd_t 1149 (by decide +kernel) (by decide +kernel))⟩
theorem wcL_152 : tCB RL 152 yX11_trace cX11_trace 2 (some .int) 1 ∧ Cond.methodLink RL 152 yX11_trace ∈ tgd ∧ Cond.instanceMethod yX11_trace ∈ tgd ∧ Cond.selects RX11 yX11_trace yX11_trace ∈ tgd := ⟨⟨(tgd_t 1813 (by decide +kernel) (by decide +kernel)), (tgd_t 10 (by decide +kernel) (by decide +kernel)), by decide, by decide +kernel⟩, (tgd_t 1810 (by decide +kernel) (by decide +kernel)), (tgd_t 1811 (by decide +kernel) (by decide +kernel)), (tgd_t 1812 (by decide +kernel) (by decide +kernel))⟩
theorem wcL_153 : tCB RL 153 yX10_deal cX10_deal 5 (some .int) 2 ∧ Cond.methodLink RL 153 yX10_deal ∈ tgd ∧ Cond.instanceMethod yX10_deal ∈ tgd ∧ Cond.selects RX10 yX10_deal yX10_deal ∈ tgd := ⟨⟨(tgd_t 1158 (by decide +kernel) (by decide +kernel)), (tgd_t 1 (by decide +kernel) (by decide +kernel)), by decide, by decide +kernel⟩, (tgd_t 1155 (by decide +kernel) (by decide +kernel)), (tgd_t 1156 (by decide +kernel) (by decide +kernel)), (tgd_t 1157 (by decide +kernel) (by decide +kernel))⟩
theorem wcL_156 : tCB RL 156 yX11_deal cX11_deal 4 (some .int) 2 ∧ Cond.methodLink RL 156 yX11_deal ∈ tgd ∧ Cond.instanceMethod yX11_deal ∈ tgd ∧ Cond.selects RX11 yX11_deal yX11_deal ∈ tgd := ⟨⟨(tgd_t 1817 (by decide +kernel) (by decide +kernel)), (tgd_t 10 (by decide +kernel) (by decide +kernel)), by decide, by decide +kernel⟩, (tgd_t 1814 (by decide +kernel) (by decide +kernel)), (tgd_t 1815 (by decide +kernel) (by decide +kernel)), (tgd_t 1816 (by decide +kernel) (by decide +kernel))⟩
theorem wcL_157 : tCB RL 157 yX10_go cX10_go 5 (some .int) 1 ∧ Cond.methodLink RL 157 yX10_go ∈ tgd ∧ Cond.instanceMethod yX10_go ∈ tgd ∧ Cond.selects RX10 yX10_go yX10_go ∈ tgd := ⟨⟨(tgd_t 1162 (by decide +kernel) (by decide +kernel)), (tgd_t 1 (by decide +kernel) (by decide +kernel)), by decide, by decide +kernel⟩, (tgd_t 1159 (by decide +kernel) (by decide +kernel)), (tgd_t 1160 (by decide +kernel) (by decide +kernel)), (tgd_t 1161 (by decide +kernel) (by decide +kernel))⟩
theorem wcL_160 : tCB RL 160 yX11_go cX11_go 6 (some .int) 1 ∧ Cond.methodLink RL 160 yX11_go ∈ tgd ∧ Cond.instanceMethod yX11_go ∈ tgd ∧ Cond.selects RX11 yX11_go yX11_go ∈ tgd := ⟨⟨(tgd_t 1821 (by decide +kernel) (by decide +kernel)), (tgd_t 10 (by decide +kernel) (by decide +kernel)), by decide, by decide +kernel⟩, (tgd_t 1818 (by decide +kernel) (by decide +kernel)), (tgd_t 1819 (by decide +kernel) (by decide +kernel)), (tgd_t 1820 (by decide +kernel) (by decide +kernel))⟩
theorem wcL_161 : tCB RL 161 yX10_reset cX10_reset 2 (some .int) 0 ∧ Cond.methodLink RL 161 yX10_reset ∈ tgd ∧ Cond.instanceMethod yX10_reset ∈ tgd ∧ Cond.selects RX10 yX10_reset yX10_reset ∈ tgd := ⟨⟨(tgd_t 1170 (by decide +kernel) (by decide +kernel)), (tgd_t 1 (by decide +kernel) (by decide +kernel)), by decide, by decide +kernel⟩, (tgd_t 1167 (by decide +kernel) (by decide +kernel)), (tgd_t 1168 (by decide +kernel) (by decide +kernel)), (tgd_t 1169 (by decide +kernel) (by decide +kernel))⟩
theorem wcL_164 : tCB RL 164 yX11_reset cX11_reset 2 (some .int) 0 ∧ Cond.methodLink RL 164 yX11_reset ∈ tgd ∧ Cond.instanceMethod yX11_reset ∈ tgd ∧ Cond.selects RX11 yX11_reset yX11_reset ∈ tgd := ⟨⟨(tgd_t 1825 (by decide +kernel) (by decide +kernel)), (tgd_t 10 (by decide +kernel) (by decide +kernel)), by decide, by decide +kernel⟩, (tgd_t 1822 (by decide +kernel) (by decide +kernel)), (tgd_t 1823 (by decide +kernel) (by decide +kernel)), (tgd_t 1824 (by decide +kernel) (by decide +kernel))⟩
theorem wcL_165 : tCB RL 165 yX10_things cX10_things 3 (some .int) 1 ∧ Cond.methodLink RL 165 yX10_things ∈ tgd ∧ Cond.instanceMethod yX10_things ∈ tgd ∧ Cond.selects RX10 yX10_things yX10_things ∈ tgd := ⟨⟨(tgd_t 1174 (by decide +kernel) (by decide +kernel)), (tgd_t 1 (by decide +kernel) (by decide +kernel)), by decide, by decide +kernel⟩, (tgd_t 1171 (by decide +kernel) (by decide +kernel)), (tgd_t 1172 (by decide +kernel) (by decide +kernel)), (tgd_t 1173 (by decide +kernel) (by decide +kernel))⟩
theorem wcL_168 : tCB RL 168 yX11_things cX11_things 2 (some .int) 1 ∧ Cond.methodLink RL 168 yX11_things ∈ tgd ∧ Cond.instanceMethod yX11_things ∈ tgd ∧ Cond.selects RX11 yX11_things yX11_things ∈ tgd := ⟨⟨(tgd_t 1829 (by decide +kernel) (by decide +kernel)), (tgd_t 10 (by decide +kernel) (by decide +kernel)), by decide, by decide +kernel⟩, (tgd_t 1826 (by decide +kernel) (by decide +kernel)), (tgd_t 1827 (by decide +kernel) (by decide +kernel)), (tgd_t 1828 (by decide +kernel) (by decide +kernel))⟩
theorem wcL_169 : tCB RL 169 yX10_look cX10_look 4 (some .int) 2 ∧ Cond.methodLink RL 169 yX10_look ∈ tgd ∧ Cond.instanceMethod yX10_look ∈ tgd ∧ Cond.selects RX10 yX10_look yX10_look ∈ tgd := ⟨⟨(tgd_t 1178 (by decide +kernel) (by decide +kernel)), (tgd_t 1 (by decide +kernel) (by decide +kernel)), by decide, by decide +kernel⟩, (tgd_t 1175 (by decide +kernel) (by decide +kernel)), (tgd_t 1176 (by decide +kernel) (by decide +kernel)), (tgd_t 1177 (by decide +kernel) (by decide +kernel))⟩
theorem wcL_172 : tCB RL 172 yX11_look cX11_look 3 (some .int) 2 ∧ Cond.methodLink RL 172 yX11_look ∈ tgd ∧ Cond.instanceMethod yX11_look ∈ tgd ∧ Cond.selects RX11 yX11_look yX11_look ∈ tgd := ⟨⟨(tgd_t 1833 (by decide +kernel) (by decide +kernel)), (tgd_t 10 (by decide +kernel) (by decide +kernel)), by decide, by decide +kernel⟩, (tgd_t 1830 (by decide +kernel) (by decide +kernel)), (tgd_t 1831 (by decide +kernel) (by decide +kernel)), (tgd_t 1832 (by decide +kernel) (by decide +kernel))⟩
theorem wcL_173 : tCB RL 173 yX10_given cX10_given 4 (some .int) 2 ∧ Cond.methodLink RL 173 yX10_given ∈ tgd ∧ Cond.instanceMethod yX10_given ∈ tgd ∧ Cond.selects RX10 yX10_given yX10_given ∈ tgd := ⟨⟨(tgd_t 1183 (by decide +kernel) (by decide +kernel)), (tgd_t 1 (by decide +kernel) (by decide +kernel)), by decide, by decide +kernel⟩, (tgd_t 1180 (by decide +kernel) (by decide +kernel)), (tgd_t 1181 (by decide +kernel) (by decide +kernel)), (tgd_t 1182 (by decide +kernel) (by decide +kernel))⟩
theorem wcL_176 : tCB RL 176 yX11_given cX11_given 3 (some .int) 2 ∧ Cond.methodLink RL 176 yX11_given ∈ tgd ∧ Cond.instanceMethod yX11_given ∈ tgd ∧ Cond.selects RX11 yX11_given yX11_given ∈ tgd := ⟨⟨(tgd_t 1837 (by decide +kernel) (by decide +kernel)), (tgd_t 10 (by decide +kernel) (by decide +kernel)), by decide, by decide +kernel⟩, (tgd_t 1834 (by decide +kernel) (by decide +kernel)), (tgd_t 1835 (by decide +kernel) (by decide +kernel)), (tgd_t 1836 (by decide +kernel) (by decide +kernel))⟩
theorem wcL_177 : tCB RL 177 yX10_asked cX10_asked 1 (some .long) 0 ∧ Cond.methodLink RL 177 yX10_asked ∈ tgd ∧ Cond.instanceMethod yX10_asked ∈ tgd ∧ Cond.selects RX10 yX10_asked yX10_asked ∈ tgd := ⟨⟨(tgd_t 1187 (by decide +kernel) (by decide +kernel)), (tgd_t 1 (by decide +kernel) (by decide +kernel)), by decide, by decide +kernel⟩, (tgd_t 1184 (by decide +kernel) (by decide +kernel)), (tgd_t 1185 (by decide +kernel) (by decide +kernel)), (tgd_t 1186 (by decide +kernel) (by decide +kernel))⟩
theorem wcL_180 : tCB RL 180 yX11_asked cX11_asked 1 (some .long) 0 ∧ Cond.methodLink RL 180 yX11_asked ∈ tgd ∧ Cond.instanceMethod yX11_asked ∈ tgd ∧ Cond.selects RX11 yX11_asked yX11_asked ∈ tgd := ⟨⟨(tgd_t 1841 (by decide +kernel) (by decide +kernel)), (tgd_t 10 (by decide +kernel) (by decide +kernel)), by decide, by decide +kernel⟩, (tgd_t 1838 (by decide +kernel) (by decide +kernel)), (tgd_t 1839 (by decide +kernel) (by decide +kernel)), (tgd_t 1840 (by decide +kernel) (by decide +kernel))⟩
theorem wcL_181 : tCB RL 181 yX10_many cX10_many 2 (some .int) 1 ∧ Cond.methodLink RL 181 yX10_many ∈ tgd ∧ Cond.instanceMethod yX10_many ∈ tgd ∧ Cond.selects RX10 yX10_many yX10_many ∈ tgd := ⟨⟨(tgd_t 1191 (by decide +kernel) (by decide +kernel)), (tgd_t 1 (by decide +kernel) (by decide +kernel)), by decide, by decide +kernel⟩, (tgd_t 1188 (by decide +kernel) (by decide +kernel)), (tgd_t 1189 (by decide +kernel) (by decide +kernel)), (tgd_t 1190 (by decide +kernel) (by decide +kernel))⟩
theorem wcL_184 : tCB RL 184 yX11_many cX11_many 2 (some .int) 1 ∧ Cond.methodLink RL 184 yX11_many ∈ tgd ∧ Cond.instanceMethod yX11_many ∈ tgd ∧ Cond.selects RX11 yX11_many yX11_many ∈ tgd := ⟨⟨(tgd_t 1845 (by decide +kernel) (by decide +kernel)), (tgd_t 10 (by decide +kernel) (by decide +kernel)), by decide, by decide +kernel⟩, (tgd_t 1842 (by decide +kernel) (by decide +kernel)), (tgd_t 1843 (by decide +kernel) (by decide +kernel)), (tgd_t 1844 (by decide +kernel) (by decide +kernel))⟩
theorem wcL_185 : tCB RL 185 yX10_finding cX10_finding 1 (some .int) 0 ∧ Cond.methodLink RL 185 yX10_finding ∈ tgd ∧ Cond.instanceMethod yX10_finding ∈ tgd ∧ Cond.selects RX10 yX10_finding yX10_finding ∈ tgd := ⟨⟨(tgd_t 1195 (by decide +kernel) (by decide +kernel)), (tgd_t 1 (by decide +kernel) (by decide +kernel)), by decide, by decide +kernel⟩, (tgd_t 1192 (by decide +kernel) (by decide +kernel)), (tgd_t 1193 (by decide +kernel) (by decide +kernel)), (tgd_t 1194 (by decide +kernel) (by decide +kernel))⟩
theorem wcL_188 : tCB RL 188 yX11_finding cX11_finding 1 (some .int) 0 ∧ Cond.methodLink RL 188 yX11_finding ∈ tgd ∧ Cond.instanceMethod yX11_finding ∈ tgd ∧ Cond.selects RX11 yX11_finding yX11_finding ∈ tgd := ⟨⟨(tgd_t 1849 (by decide +kernel) (by decide +kernel)), (tgd_t 10 (by decide +kernel) (by decide +kernel)), by decide, by decide +kernel⟩, (tgd_t 1846 (by decide +kernel) (by decide +kernel)), (tgd_t 1847 (by decide +kernel) (by decide +kernel)), (tgd_t 1848 (by decide +kernel) (by decide +kernel))⟩
theorem wcL_189 : tCB RL 189 yX10_findings cX10_findings 2 (some .int) 1 ∧ Cond.methodLink RL 189 yX10_findings ∈ tgd ∧ Cond.instanceMethod yX10_findings ∈ tgd ∧ Cond.selects RX10 yX10_findings yX10_findings ∈ tgd := ⟨⟨(tgd_t 1199 (by decide +kernel) (by decide +kernel)), (tgd_t 1 (by decide +kernel) (by decide +kernel)), by decide, by decide +kernel⟩, (tgd_t 1196 (by decide +kernel) (by decide +kernel)), (tgd_t 1197 (by decide +kernel) (by decide +kernel)), (tgd_t 1198 (by decide +kernel) (by decide +kernel))⟩
theorem wcL_192 : tCB RL 192 yX11_findings cX11_findings 2 (some .int) 1 ∧ Cond.methodLink RL 192 yX11_findings ∈ tgd ∧ Cond.instanceMethod yX11_findings ∈ tgd ∧ Cond.selects RX11 yX11_findings yX11_findings ∈ tgd := ⟨⟨(tgd_t 1853 (by decide +kernel) (by decide +kernel)), (tgd_t 10 (by decide +kernel) (by decide +kernel)), by decide, by decide +kernel⟩, (tgd_t 1850 (by decide +kernel) (by decide +kernel)), (tgd_t 1851 (by decide +kernel) (by decide +kernel)), (tgd_t 1852 (by decide +kernel) (by decide +kernel))⟩
theorem wcL_193 : tCB RL 193 yX10_digest cX10_digest 4 (some .long) 0 ∧ Cond.methodLink RL 193 yX10_digest ∈ tgd ∧ Cond.instanceMethod yX10_digest ∈ tgd ∧ Cond.selects RX10 yX10_digest yX10_digest ∈ tgd := ⟨⟨(tgd_t 1203 (by decide +kernel) (by decide +kernel)), (tgd_t 1 (by decide +kernel) (by decide +kernel)), by decide, by decide +kernel⟩, (tgd_t 1200 (by decide +kernel) (by decide +kernel)), (tgd_t 1201 (by decide +kernel) (by decide +kernel)), (tgd_t 1202 (by decide +kernel) (by decide +kernel))⟩
theorem wcL_196 : tCB RL 196 yX11_digest cX11_digest 5 (some .long) 0 ∧ Cond.methodLink RL 196 yX11_digest ∈ tgd ∧ Cond.instanceMethod yX11_digest ∈ tgd ∧ Cond.selects RX11 yX11_digest yX11_digest ∈ tgd := ⟨⟨(tgd_t 1857 (by decide +kernel) (by decide +kernel)), (tgd_t 10 (by decide +kernel) (by decide +kernel)), by decide, by decide +kernel⟩, (tgd_t 1854 (by decide +kernel) (by decide +kernel)), (tgd_t 1855 (by decide +kernel) (by decide +kernel)), (tgd_t 1856 (by decide +kernel) (by decide +kernel))⟩
theorem wclL_7 : Cond.classLink RL 7 "EvenFlow" ∈ tgd := (tgd_t 16 (by decide +kernel) (by decide +kernel))
theorem wclL_10 : Cond.classLink RL 10 "EvenFlowModel" ∈ tgd := (tgd_t 1219 (by decide +kernel) (by decide +kernel))
theorem wniX10_0 : Cond.instantiable RX10 12 ∈ tgd ∧ Cond.initialized RX10 ∈ tgd := ⟨(tgd_t 17 (by decide +kernel) (by decide +kernel)), (tgd_t 1 (by decide +kernel) (by decide +kernel))⟩
theorem wniX11_0 : Cond.instantiable RX11 77 ∈ tgd ∧ Cond.initialized RX11 ∈ tgd := ⟨(tgd_t 1220 (by decide +kernel) (by decide +kernel)), (tgd_t 10 (by decide +kernel) (by decide +kernel))⟩
theorem wcL_9 : tCB RL 9 yX10_init cX10_init 2 (none) 0 ∧ Cond.methodLink RL 9 yX10_init ∈ tgd ∧ Cond.instanceMethod yX10_init ∈ tgd := ⟨⟨(tgd_t 20 (by decide +kernel) (by decide +kernel)), (tgd_t 1 (by decide +kernel) (by decide +kernel)), by decide, by decide +kernel⟩, (tgd_t 18 (by decide +kernel) (by decide +kernel)), (tgd_t 19 (by decide +kernel) (by decide +kernel))⟩
theorem wcL_12 : tCB RL 12 yX11_init cX11_init 1 (none) 0 ∧ Cond.methodLink RL 12 yX11_init ∈ tgd ∧ Cond.instanceMethod yX11_init ∈ tgd := ⟨⟨(tgd_t 1223 (by decide +kernel) (by decide +kernel)), (tgd_t 10 (by decide +kernel) (by decide +kernel)), by decide, by decide +kernel⟩, (tgd_t 1221 (by decide +kernel) (by decide +kernel)), (tgd_t 1222 (by decide +kernel) (by decide +kernel))⟩
set_option maxHeartbeats 4000000 in
set_option maxRecDepth 100000 in
theorem law_c0 {g : tG} {nm : String} {mc ms cells slots : Nat} {r : Option tV} {M' M M1 M2 : tM} {q : Int32} {v : Int32} (hb1 : vp_in (q + 1) (gL g)) (hb2 : vp_in (q + 2) (gL g)) (hb3 : vp_in (q + 3) (gL g)) (hb4 : vp_in (q + 4) (gL g)) (hb5 : vp_in (q + 5) (gL g)) (hx : (fX10_part (gx g (q + 1).toNatClampNeg) ((((gx g (q + 2).toNatClampNeg).toInt64) <<< ((32 : Int32).toInt64 &&& 63)) ||| (((gx g (q + 3).toNatClampNeg).toInt64) &&& 4294967295)) (gx g (q + 4).toNatClampNeg) M = some (v, M1))) (hm : (fX11_part (gx g (q + 1).toNatClampNeg) ((((gx g (q + 2).toNatClampNeg).toInt64) <<< ((32 : Int32).toInt64 &&& 63)) ||| (((gx g (q + 3).toNatClampNeg).toInt64) &&& 4294967295)) (gx g (q + 4).toNatClampNeg) M1 = some (v, M2))) (hcs : cells + 6 ≤ 600000 ∧ slots + 682 ≤ 7302250) (kk : TW g (iL nm) rL mc ms r M' (cells + 6) (slots + 682) 1474 [(0, tr 91 0), (1, tr 10 0), (2, tr 11 0), (3, ti q)] [] M2) : TW g (iL nm) rL mc ms r M' cells slots 220 [(0, tr 91 0), (1, tr 10 0), (2, tr 11 0), (3, ti q)] [] M := by
  have hcs1 : cells + 6 ≤ rL.cells ∧ slots + 682 ≤ rL.slots := hcs
  have hR1 : rL.cells = 600000 := rfl
  have hR2 : rL.slots = 7302250 := rfl
  refine tm_aload_n dL_law_220 rfl rfl ?_
  refine tm_aload_n dL_law_221 rfl rfl ?_
  refine tm_iload_n dL_law_222 rfl rfl ?_
  refine tm_iconst (v := 1) dL_law_223 (by decide) ?_
  refine tm_iadd dL_law_224 ?_
  refine tm_sld dL_law_225 hb1 ?_
  refine tm_aload_n dL_law_226 rfl rfl ?_
  refine tm_iload_n dL_law_227 rfl rfl ?_
  refine tm_iconst (v := 2) dL_law_228 (by decide) ?_
  refine tm_iadd dL_law_229 ?_
  refine tm_sld dL_law_230 hb2 ?_
  refine tm_i2l dL_law_231 ?_
  refine tm_bipush (v := 32) dL_law_232 (by decide) ?_
  refine tm_lshl dL_law_234 ?_
  refine tm_aload_n dL_law_235 rfl rfl ?_
  refine tm_iload_n dL_law_236 rfl rfl ?_
  refine tm_iconst (v := 3) dL_law_237 (by decide) ?_
  refine tm_iadd dL_law_238 ?_
  refine tm_sld dL_law_239 hb3 ?_
  refine tm_i2l dL_law_240 ?_
  refine tm_ldc2 dL_law_241 wconstlL_13 ?_
  refine tm_land dL_law_244 ?_
  refine tm_lor dL_law_245 ?_
  refine tm_aload_n dL_law_246 rfl rfl ?_
  refine tm_iload_n dL_law_247 rfl rfl ?_
  refine tm_iconst (v := 4) dL_law_248 (by decide) ?_
  refine tm_iadd dL_law_249 ?_
  refine tm_sld dL_law_250 hb4 ?_
  refine tm_callV kX10 rfl (avs := [ti (gx g (q + 1).toNatClampNeg), tl ((((gx g (q + 2).toNatClampNeg).toInt64) <<< ((32 : Int32).toInt64 &&& 63)) ||| (((gx g (q + 3).toNatClampNeg).toInt64) &&& 4294967295)), ti (gx g (q + 4).toNatClampNeg)]) (st := []) (okX10_part hx) wcL_15.1 wcL_15.2.1 wcL_15.2.2.1 wcL_15.2.2.2 ⟨rfl, rfl, Nat.le_of_ble_eq_true rfl, Nat.le_of_ble_eq_true rfl⟩ rfl (Nat.le_of_ble_eq_true rfl) (by omega) dL_law_251 ?_
  refine tm_aload_n dL_law_254 rfl rfl ?_
  refine tm_aload_n dL_law_255 rfl rfl ?_
  refine tm_iload_n dL_law_256 rfl rfl ?_
  refine tm_iconst (v := 1) dL_law_257 (by decide) ?_
  refine tm_iadd dL_law_258 ?_
  refine tm_sld dL_law_259 hb1 ?_
  refine tm_aload_n dL_law_260 rfl rfl ?_
  refine tm_iload_n dL_law_261 rfl rfl ?_
  refine tm_iconst (v := 2) dL_law_262 (by decide) ?_
  refine tm_iadd dL_law_263 ?_
  refine tm_sld dL_law_264 hb2 ?_
  refine tm_i2l dL_law_265 ?_
  refine tm_bipush (v := 32) dL_law_266 (by decide) ?_
  refine tm_lshl dL_law_268 ?_
  refine tm_aload_n dL_law_269 rfl rfl ?_
  refine tm_iload_n dL_law_270 rfl rfl ?_
  refine tm_iconst (v := 3) dL_law_271 (by decide) ?_
  refine tm_iadd dL_law_272 ?_
  refine tm_sld dL_law_273 hb3 ?_
  refine tm_i2l dL_law_274 ?_
  refine tm_ldc2 dL_law_275 wconstlL_13 ?_
  refine tm_land dL_law_278 ?_
  refine tm_lor dL_law_279 ?_
  refine tm_aload_n dL_law_280 rfl rfl ?_
  refine tm_iload_n dL_law_281 rfl rfl ?_
  refine tm_iconst (v := 4) dL_law_282 (by decide) ?_
  refine tm_iadd dL_law_283 ?_
  refine tm_sld dL_law_284 hb4 ?_
  refine tm_callV kX11 rfl (avs := [ti (gx g (q + 1).toNatClampNeg), tl ((((gx g (q + 2).toNatClampNeg).toInt64) <<< ((32 : Int32).toInt64 &&& 63)) ||| (((gx g (q + 3).toNatClampNeg).toInt64) &&& 4294967295)), ti (gx g (q + 4).toNatClampNeg)]) (st := [ti v]) (okX11_part hm) wcL_19.1 wcL_19.2.1 wcL_19.2.2.1 wcL_19.2.2.2 ⟨rfl, rfl, Nat.le_of_ble_eq_true rfl, Nat.le_of_ble_eq_true rfl⟩ rfl (Nat.le_of_ble_eq_true rfl) (by omega) dL_law_285 ?_
  refine tm_icmp_eq (tgt := 1474) dL_law_288 (by decide) (fun _ => ?_) (fun h => absurd rfl h)
  exact tm_widen (by omega) (by omega) kk
set_option maxHeartbeats 4000000 in
set_option maxRecDepth 100000 in
theorem law_c1 {g : tG} {nm : String} {mc ms cells slots : Nat} {r : Option tV} {M' M M1 M2 : tM} {q : Int32} {v : Int32} (hb1 : vp_in (q + 1) (gL g)) (hb2 : vp_in (q + 2) (gL g)) (hb3 : vp_in (q + 3) (gL g)) (hb4 : vp_in (q + 4) (gL g)) (hb5 : vp_in (q + 5) (gL g)) (hx : (fX10_line (gx g (q + 1).toNatClampNeg) (gx g (q + 2).toNatClampNeg) (gx g (q + 3).toNatClampNeg) (gx g (q + 4).toNatClampNeg) M = some (v, M1))) (hm : (fX11_line (gx g (q + 1).toNatClampNeg) (gx g (q + 2).toNatClampNeg) (gx g (q + 3).toNatClampNeg) (gx g (q + 4).toNatClampNeg) M1 = some (v, M2))) (hcs : cells + 6 ≤ 600000 ∧ slots + 682 ≤ 7302250) (kk : TW g (iL nm) rL mc ms r M' (cells + 6) (slots + 682) 1474 [(0, tr 91 0), (1, tr 10 0), (2, tr 11 0), (3, ti q)] [] M2) : TW g (iL nm) rL mc ms r M' cells slots 293 [(0, tr 91 0), (1, tr 10 0), (2, tr 11 0), (3, ti q)] [] M := by
  have hcs1 : cells + 6 ≤ rL.cells ∧ slots + 682 ≤ rL.slots := hcs
  have hR1 : rL.cells = 600000 := rfl
  have hR2 : rL.slots = 7302250 := rfl
  refine tm_aload_n dL_law_293 rfl rfl ?_
  refine tm_aload_n dL_law_294 rfl rfl ?_
  refine tm_iload_n dL_law_295 rfl rfl ?_
  refine tm_iconst (v := 1) dL_law_296 (by decide) ?_
  refine tm_iadd dL_law_297 ?_
  refine tm_sld dL_law_298 hb1 ?_
  refine tm_aload_n dL_law_299 rfl rfl ?_
  refine tm_iload_n dL_law_300 rfl rfl ?_
  refine tm_iconst (v := 2) dL_law_301 (by decide) ?_
  refine tm_iadd dL_law_302 ?_
  refine tm_sld dL_law_303 hb2 ?_
  refine tm_aload_n dL_law_304 rfl rfl ?_
  refine tm_iload_n dL_law_305 rfl rfl ?_
  refine tm_iconst (v := 3) dL_law_306 (by decide) ?_
  refine tm_iadd dL_law_307 ?_
  refine tm_sld dL_law_308 hb3 ?_
  refine tm_aload_n dL_law_309 rfl rfl ?_
  refine tm_iload_n dL_law_310 rfl rfl ?_
  refine tm_iconst (v := 4) dL_law_311 (by decide) ?_
  refine tm_iadd dL_law_312 ?_
  refine tm_sld dL_law_313 hb4 ?_
  refine tm_callV kX10 rfl (avs := [ti (gx g (q + 1).toNatClampNeg), ti (gx g (q + 2).toNatClampNeg), ti (gx g (q + 3).toNatClampNeg), ti (gx g (q + 4).toNatClampNeg)]) (st := []) (okX10_line hx) wcL_20.1 wcL_20.2.1 wcL_20.2.2.1 wcL_20.2.2.2 ⟨rfl, rfl, Nat.le_of_ble_eq_true rfl, Nat.le_of_ble_eq_true rfl⟩ rfl (Nat.le_of_ble_eq_true rfl) (by omega) dL_law_314 ?_
  refine tm_aload_n dL_law_317 rfl rfl ?_
  refine tm_aload_n dL_law_318 rfl rfl ?_
  refine tm_iload_n dL_law_319 rfl rfl ?_
  refine tm_iconst (v := 1) dL_law_320 (by decide) ?_
  refine tm_iadd dL_law_321 ?_
  refine tm_sld dL_law_322 hb1 ?_
  refine tm_aload_n dL_law_323 rfl rfl ?_
  refine tm_iload_n dL_law_324 rfl rfl ?_
  refine tm_iconst (v := 2) dL_law_325 (by decide) ?_
  refine tm_iadd dL_law_326 ?_
  refine tm_sld dL_law_327 hb2 ?_
  refine tm_aload_n dL_law_328 rfl rfl ?_
  refine tm_iload_n dL_law_329 rfl rfl ?_
  refine tm_iconst (v := 3) dL_law_330 (by decide) ?_
  refine tm_iadd dL_law_331 ?_
  refine tm_sld dL_law_332 hb3 ?_
  refine tm_aload_n dL_law_333 rfl rfl ?_
  refine tm_iload_n dL_law_334 rfl rfl ?_
  refine tm_iconst (v := 4) dL_law_335 (by decide) ?_
  refine tm_iadd dL_law_336 ?_
  refine tm_sld dL_law_337 hb4 ?_
  refine tm_callV kX11 rfl (avs := [ti (gx g (q + 1).toNatClampNeg), ti (gx g (q + 2).toNatClampNeg), ti (gx g (q + 3).toNatClampNeg), ti (gx g (q + 4).toNatClampNeg)]) (st := [ti v]) (okX11_line hm) wcL_24.1 wcL_24.2.1 wcL_24.2.2.1 wcL_24.2.2.2 ⟨rfl, rfl, Nat.le_of_ble_eq_true rfl, Nat.le_of_ble_eq_true rfl⟩ rfl (Nat.le_of_ble_eq_true rfl) (by omega) dL_law_338 ?_
  refine tm_icmp_eq (tgt := 1474) dL_law_341 (by decide) (fun _ => ?_) (fun h => absurd rfl h)
  exact tm_widen (by omega) (by omega) kk
set_option maxHeartbeats 4000000 in
set_option maxRecDepth 100000 in
theorem law_c2 {g : tG} {nm : String} {mc ms cells slots : Nat} {r : Option tV} {M' M M1 M2 : tM} {q : Int32} {v : Int32} (hb1 : vp_in (q + 1) (gL g)) (hb2 : vp_in (q + 2) (gL g)) (hb3 : vp_in (q + 3) (gL g)) (hb4 : vp_in (q + 4) (gL g)) (hb5 : vp_in (q + 5) (gL g)) (hx : (fX10_count (gx g (q + 1).toNatClampNeg) (if (gx g (q + 2).toNatClampNeg) = 0 then 0 else 1) (gx g (q + 3).toNatClampNeg) (gx g (q + 4).toNatClampNeg) M = some (v, M1))) (hm : (fX11_count (gx g (q + 1).toNatClampNeg) (if (gx g (q + 2).toNatClampNeg) = 0 then 0 else 1) (gx g (q + 3).toNatClampNeg) (gx g (q + 4).toNatClampNeg) M1 = some (v, M2))) (hcs : cells + 6 ≤ 600000 ∧ slots + 682 ≤ 7302250) (kk : TW g (iL nm) rL mc ms r M' (cells + 6) (slots + 682) 1474 [(0, tr 91 0), (1, tr 10 0), (2, tr 11 0), (3, ti q)] [] M2) : TW g (iL nm) rL mc ms r M' cells slots 346 [(0, tr 91 0), (1, tr 10 0), (2, tr 11 0), (3, ti q)] [] M := by
  have hcs1 : cells + 6 ≤ rL.cells ∧ slots + 682 ≤ rL.slots := hcs
  have hR1 : rL.cells = 600000 := rfl
  have hR2 : rL.slots = 7302250 := rfl
  by_cases hz : (gx g (q + 2).toNatClampNeg) = 0
  · rw [if_pos hz] at hx hm
    refine tm_aload_n dL_law_346 rfl rfl ?_
    refine tm_aload_n dL_law_347 rfl rfl ?_
    refine tm_iload_n dL_law_348 rfl rfl ?_
    refine tm_iconst (v := 1) dL_law_349 (by decide) ?_
    refine tm_iadd dL_law_350 ?_
    refine tm_sld dL_law_351 hb1 ?_
    refine tm_aload_n dL_law_352 rfl rfl ?_
    refine tm_iload_n dL_law_353 rfl rfl ?_
    refine tm_iconst (v := 2) dL_law_354 (by decide) ?_
    refine tm_iadd dL_law_355 ?_
    refine tm_sld dL_law_356 hb2 ?_
    refine tm_if_eq (tgt := 364) dL_law_357 (by decide) (fun _ => ?_) (fun h => absurd hz h)
    refine tm_iconst (v := 0) dL_law_364 (by decide) ?_
    refine tm_aload_n dL_law_365 rfl rfl ?_
    refine tm_iload_n dL_law_366 rfl rfl ?_
    refine tm_iconst (v := 3) dL_law_367 (by decide) ?_
    refine tm_iadd dL_law_368 ?_
    refine tm_sld dL_law_369 hb3 ?_
    refine tm_aload_n dL_law_370 rfl rfl ?_
    refine tm_iload_n dL_law_371 rfl rfl ?_
    refine tm_iconst (v := 4) dL_law_372 (by decide) ?_
    refine tm_iadd dL_law_373 ?_
    refine tm_sld dL_law_374 hb4 ?_
    refine tm_callV kX10 rfl (avs := [ti (gx g (q + 1).toNatClampNeg), ti 0, ti (gx g (q + 3).toNatClampNeg), ti (gx g (q + 4).toNatClampNeg)]) (st := []) (okX10_count hx) wcL_25.1 wcL_25.2.1 wcL_25.2.2.1 wcL_25.2.2.2 ⟨rfl, rfl, Nat.le_of_ble_eq_true rfl, Nat.le_of_ble_eq_true rfl⟩ rfl (Nat.le_of_ble_eq_true rfl) (by omega) dL_law_375 ?_
    refine tm_aload_n dL_law_378 rfl rfl ?_
    refine tm_aload_n dL_law_379 rfl rfl ?_
    refine tm_iload_n dL_law_380 rfl rfl ?_
    refine tm_iconst (v := 1) dL_law_381 (by decide) ?_
    refine tm_iadd dL_law_382 ?_
    refine tm_sld dL_law_383 hb1 ?_
    refine tm_aload_n dL_law_384 rfl rfl ?_
    refine tm_iload_n dL_law_385 rfl rfl ?_
    refine tm_iconst (v := 2) dL_law_386 (by decide) ?_
    refine tm_iadd dL_law_387 ?_
    refine tm_sld dL_law_388 hb2 ?_
    refine tm_if_eq (tgt := 396) dL_law_389 (by decide) (fun _ => ?_) (fun h => absurd hz h)
    refine tm_iconst (v := 0) dL_law_396 (by decide) ?_
    refine tm_aload_n dL_law_397 rfl rfl ?_
    refine tm_iload_n dL_law_398 rfl rfl ?_
    refine tm_iconst (v := 3) dL_law_399 (by decide) ?_
    refine tm_iadd dL_law_400 ?_
    refine tm_sld dL_law_401 hb3 ?_
    refine tm_aload_n dL_law_402 rfl rfl ?_
    refine tm_iload_n dL_law_403 rfl rfl ?_
    refine tm_iconst (v := 4) dL_law_404 (by decide) ?_
    refine tm_iadd dL_law_405 ?_
    refine tm_sld dL_law_406 hb4 ?_
    refine tm_callV kX11 rfl (avs := [ti (gx g (q + 1).toNatClampNeg), ti 0, ti (gx g (q + 3).toNatClampNeg), ti (gx g (q + 4).toNatClampNeg)]) (st := [ti v]) (okX11_count hm) wcL_29.1 wcL_29.2.1 wcL_29.2.2.1 wcL_29.2.2.2 ⟨rfl, rfl, Nat.le_of_ble_eq_true rfl, Nat.le_of_ble_eq_true rfl⟩ rfl (Nat.le_of_ble_eq_true rfl) (by omega) dL_law_407 ?_
    refine tm_icmp_eq (tgt := 1474) dL_law_410 (by decide) (fun _ => ?_) (fun h => absurd rfl h)
    exact tm_widen (by omega) (by omega) kk
  · rw [if_neg hz] at hx hm
    refine tm_aload_n dL_law_346 rfl rfl ?_
    refine tm_aload_n dL_law_347 rfl rfl ?_
    refine tm_iload_n dL_law_348 rfl rfl ?_
    refine tm_iconst (v := 1) dL_law_349 (by decide) ?_
    refine tm_iadd dL_law_350 ?_
    refine tm_sld dL_law_351 hb1 ?_
    refine tm_aload_n dL_law_352 rfl rfl ?_
    refine tm_iload_n dL_law_353 rfl rfl ?_
    refine tm_iconst (v := 2) dL_law_354 (by decide) ?_
    refine tm_iadd dL_law_355 ?_
    refine tm_sld dL_law_356 hb2 ?_
    refine tm_if_eq (tgt := 364) dL_law_357 (by decide) (fun h => absurd h hz) (fun _ => ?_)
    refine tm_iconst (v := 1) dL_law_360 (by decide) ?_
    refine tm_goto (tgt := 365) dL_law_361 (by decide) ?_
    refine tm_aload_n dL_law_365 rfl rfl ?_
    refine tm_iload_n dL_law_366 rfl rfl ?_
    refine tm_iconst (v := 3) dL_law_367 (by decide) ?_
    refine tm_iadd dL_law_368 ?_
    refine tm_sld dL_law_369 hb3 ?_
    refine tm_aload_n dL_law_370 rfl rfl ?_
    refine tm_iload_n dL_law_371 rfl rfl ?_
    refine tm_iconst (v := 4) dL_law_372 (by decide) ?_
    refine tm_iadd dL_law_373 ?_
    refine tm_sld dL_law_374 hb4 ?_
    refine tm_callV kX10 rfl (avs := [ti (gx g (q + 1).toNatClampNeg), ti 1, ti (gx g (q + 3).toNatClampNeg), ti (gx g (q + 4).toNatClampNeg)]) (st := []) (okX10_count hx) wcL_25.1 wcL_25.2.1 wcL_25.2.2.1 wcL_25.2.2.2 ⟨rfl, rfl, Nat.le_of_ble_eq_true rfl, Nat.le_of_ble_eq_true rfl⟩ rfl (Nat.le_of_ble_eq_true rfl) (by omega) dL_law_375 ?_
    refine tm_aload_n dL_law_378 rfl rfl ?_
    refine tm_aload_n dL_law_379 rfl rfl ?_
    refine tm_iload_n dL_law_380 rfl rfl ?_
    refine tm_iconst (v := 1) dL_law_381 (by decide) ?_
    refine tm_iadd dL_law_382 ?_
    refine tm_sld dL_law_383 hb1 ?_
    refine tm_aload_n dL_law_384 rfl rfl ?_
    refine tm_iload_n dL_law_385 rfl rfl ?_
    refine tm_iconst (v := 2) dL_law_386 (by decide) ?_
    refine tm_iadd dL_law_387 ?_
    refine tm_sld dL_law_388 hb2 ?_
    refine tm_if_eq (tgt := 396) dL_law_389 (by decide) (fun h => absurd h hz) (fun _ => ?_)
    refine tm_iconst (v := 1) dL_law_392 (by decide) ?_
    refine tm_goto (tgt := 397) dL_law_393 (by decide) ?_
    refine tm_aload_n dL_law_397 rfl rfl ?_
    refine tm_iload_n dL_law_398 rfl rfl ?_
    refine tm_iconst (v := 3) dL_law_399 (by decide) ?_
    refine tm_iadd dL_law_400 ?_
    refine tm_sld dL_law_401 hb3 ?_
    refine tm_aload_n dL_law_402 rfl rfl ?_
    refine tm_iload_n dL_law_403 rfl rfl ?_
    refine tm_iconst (v := 4) dL_law_404 (by decide) ?_
    refine tm_iadd dL_law_405 ?_
    refine tm_sld dL_law_406 hb4 ?_
    refine tm_callV kX11 rfl (avs := [ti (gx g (q + 1).toNatClampNeg), ti 1, ti (gx g (q + 3).toNatClampNeg), ti (gx g (q + 4).toNatClampNeg)]) (st := [ti v]) (okX11_count hm) wcL_29.1 wcL_29.2.1 wcL_29.2.2.1 wcL_29.2.2.2 ⟨rfl, rfl, Nat.le_of_ble_eq_true rfl, Nat.le_of_ble_eq_true rfl⟩ rfl (Nat.le_of_ble_eq_true rfl) (by omega) dL_law_407 ?_
    refine tm_icmp_eq (tgt := 1474) dL_law_410 (by decide) (fun _ => ?_) (fun h => absurd rfl h)
    exact tm_widen (by omega) (by omega) kk
set_option maxHeartbeats 4000000 in
set_option maxRecDepth 100000 in
theorem law_c3 {g : tG} {nm : String} {mc ms cells slots : Nat} {r : Option tV} {M' M M1 M2 : tM} {q : Int32} {v : Int32} (hb1 : vp_in (q + 1) (gL g)) (hb2 : vp_in (q + 2) (gL g)) (hb3 : vp_in (q + 3) (gL g)) (hb4 : vp_in (q + 4) (gL g)) (hb5 : vp_in (q + 5) (gL g)) (hx : (fX10_first (gx g (q + 1).toNatClampNeg) (gx g (q + 2).toNatClampNeg) M = some (v, M1))) (hm : (fX11_first (gx g (q + 1).toNatClampNeg) (gx g (q + 2).toNatClampNeg) M1 = some (v, M2))) (hcs : cells + 6 ≤ 600000 ∧ slots + 682 ≤ 7302250) (kk : TW g (iL nm) rL mc ms r M' (cells + 6) (slots + 682) 1474 [(0, tr 91 0), (1, tr 10 0), (2, tr 11 0), (3, ti q)] [] M2) : TW g (iL nm) rL mc ms r M' cells slots 415 [(0, tr 91 0), (1, tr 10 0), (2, tr 11 0), (3, ti q)] [] M := by
  have hcs1 : cells + 6 ≤ rL.cells ∧ slots + 682 ≤ rL.slots := hcs
  have hR1 : rL.cells = 600000 := rfl
  have hR2 : rL.slots = 7302250 := rfl
  refine tm_aload_n dL_law_415 rfl rfl ?_
  refine tm_aload_n dL_law_416 rfl rfl ?_
  refine tm_iload_n dL_law_417 rfl rfl ?_
  refine tm_iconst (v := 1) dL_law_418 (by decide) ?_
  refine tm_iadd dL_law_419 ?_
  refine tm_sld dL_law_420 hb1 ?_
  refine tm_aload_n dL_law_421 rfl rfl ?_
  refine tm_iload_n dL_law_422 rfl rfl ?_
  refine tm_iconst (v := 2) dL_law_423 (by decide) ?_
  refine tm_iadd dL_law_424 ?_
  refine tm_sld dL_law_425 hb2 ?_
  refine tm_callV kX10 rfl (avs := [ti (gx g (q + 1).toNatClampNeg), ti (gx g (q + 2).toNatClampNeg)]) (st := []) (okX10_first hx) wcL_30.1 wcL_30.2.1 wcL_30.2.2.1 wcL_30.2.2.2 ⟨rfl, rfl, Nat.le_of_ble_eq_true rfl, Nat.le_of_ble_eq_true rfl⟩ rfl (Nat.le_of_ble_eq_true rfl) (by omega) dL_law_426 ?_
  refine tm_aload_n dL_law_429 rfl rfl ?_
  refine tm_aload_n dL_law_430 rfl rfl ?_
  refine tm_iload_n dL_law_431 rfl rfl ?_
  refine tm_iconst (v := 1) dL_law_432 (by decide) ?_
  refine tm_iadd dL_law_433 ?_
  refine tm_sld dL_law_434 hb1 ?_
  refine tm_aload_n dL_law_435 rfl rfl ?_
  refine tm_iload_n dL_law_436 rfl rfl ?_
  refine tm_iconst (v := 2) dL_law_437 (by decide) ?_
  refine tm_iadd dL_law_438 ?_
  refine tm_sld dL_law_439 hb2 ?_
  refine tm_callV kX11 rfl (avs := [ti (gx g (q + 1).toNatClampNeg), ti (gx g (q + 2).toNatClampNeg)]) (st := [ti v]) (okX11_first hm) wcL_34.1 wcL_34.2.1 wcL_34.2.2.1 wcL_34.2.2.2 ⟨rfl, rfl, Nat.le_of_ble_eq_true rfl, Nat.le_of_ble_eq_true rfl⟩ rfl (Nat.le_of_ble_eq_true rfl) (by omega) dL_law_440 ?_
  refine tm_icmp_eq (tgt := 1474) dL_law_443 (by decide) (fun _ => ?_) (fun h => absurd rfl h)
  exact tm_widen (by omega) (by omega) kk
set_option maxHeartbeats 4000000 in
set_option maxRecDepth 100000 in
theorem law_c4 {g : tG} {nm : String} {mc ms cells slots : Nat} {r : Option tV} {M' M M1 M2 : tM} {q : Int32} {v : Int32} (hb1 : vp_in (q + 1) (gL g)) (hb2 : vp_in (q + 2) (gL g)) (hb3 : vp_in (q + 3) (gL g)) (hb4 : vp_in (q + 4) (gL g)) (hb5 : vp_in (q + 5) (gL g)) (hx : (fX10_thing (gx g (q + 1).toNatClampNeg) (gx g (q + 2).toNatClampNeg) ((((gx g (q + 3).toNatClampNeg).toInt64) <<< ((32 : Int32).toInt64 &&& 63)) ||| (((gx g (q + 4).toNatClampNeg).toInt64) &&& 4294967295)) M = some (v, M1))) (hm : (fX11_thing (gx g (q + 1).toNatClampNeg) (gx g (q + 2).toNatClampNeg) ((((gx g (q + 3).toNatClampNeg).toInt64) <<< ((32 : Int32).toInt64 &&& 63)) ||| (((gx g (q + 4).toNatClampNeg).toInt64) &&& 4294967295)) M1 = some (v, M2))) (hcs : cells + 6 ≤ 600000 ∧ slots + 682 ≤ 7302250) (kk : TW g (iL nm) rL mc ms r M' (cells + 6) (slots + 682) 1474 [(0, tr 91 0), (1, tr 10 0), (2, tr 11 0), (3, ti q)] [] M2) : TW g (iL nm) rL mc ms r M' cells slots 448 [(0, tr 91 0), (1, tr 10 0), (2, tr 11 0), (3, ti q)] [] M := by
  have hcs1 : cells + 6 ≤ rL.cells ∧ slots + 682 ≤ rL.slots := hcs
  have hR1 : rL.cells = 600000 := rfl
  have hR2 : rL.slots = 7302250 := rfl
  refine tm_aload_n dL_law_448 rfl rfl ?_
  refine tm_aload_n dL_law_449 rfl rfl ?_
  refine tm_iload_n dL_law_450 rfl rfl ?_
  refine tm_iconst (v := 1) dL_law_451 (by decide) ?_
  refine tm_iadd dL_law_452 ?_
  refine tm_sld dL_law_453 hb1 ?_
  refine tm_aload_n dL_law_454 rfl rfl ?_
  refine tm_iload_n dL_law_455 rfl rfl ?_
  refine tm_iconst (v := 2) dL_law_456 (by decide) ?_
  refine tm_iadd dL_law_457 ?_
  refine tm_sld dL_law_458 hb2 ?_
  refine tm_aload_n dL_law_459 rfl rfl ?_
  refine tm_iload_n dL_law_460 rfl rfl ?_
  refine tm_iconst (v := 3) dL_law_461 (by decide) ?_
  refine tm_iadd dL_law_462 ?_
  refine tm_sld dL_law_463 hb3 ?_
  refine tm_i2l dL_law_464 ?_
  refine tm_bipush (v := 32) dL_law_465 (by decide) ?_
  refine tm_lshl dL_law_467 ?_
  refine tm_aload_n dL_law_468 rfl rfl ?_
  refine tm_iload_n dL_law_469 rfl rfl ?_
  refine tm_iconst (v := 4) dL_law_470 (by decide) ?_
  refine tm_iadd dL_law_471 ?_
  refine tm_sld dL_law_472 hb4 ?_
  refine tm_i2l dL_law_473 ?_
  refine tm_ldc2 dL_law_474 wconstlL_13 ?_
  refine tm_land dL_law_477 ?_
  refine tm_lor dL_law_478 ?_
  refine tm_callV kX10 rfl (avs := [ti (gx g (q + 1).toNatClampNeg), ti (gx g (q + 2).toNatClampNeg), tl ((((gx g (q + 3).toNatClampNeg).toInt64) <<< ((32 : Int32).toInt64 &&& 63)) ||| (((gx g (q + 4).toNatClampNeg).toInt64) &&& 4294967295))]) (st := []) (okX10_thing hx) wcL_35.1 wcL_35.2.1 wcL_35.2.2.1 wcL_35.2.2.2 ⟨rfl, rfl, Nat.le_of_ble_eq_true rfl, Nat.le_of_ble_eq_true rfl⟩ rfl (Nat.le_of_ble_eq_true rfl) (by omega) dL_law_479 ?_
  refine tm_aload_n dL_law_482 rfl rfl ?_
  refine tm_aload_n dL_law_483 rfl rfl ?_
  refine tm_iload_n dL_law_484 rfl rfl ?_
  refine tm_iconst (v := 1) dL_law_485 (by decide) ?_
  refine tm_iadd dL_law_486 ?_
  refine tm_sld dL_law_487 hb1 ?_
  refine tm_aload_n dL_law_488 rfl rfl ?_
  refine tm_iload_n dL_law_489 rfl rfl ?_
  refine tm_iconst (v := 2) dL_law_490 (by decide) ?_
  refine tm_iadd dL_law_491 ?_
  refine tm_sld dL_law_492 hb2 ?_
  refine tm_aload_n dL_law_493 rfl rfl ?_
  refine tm_iload_n dL_law_494 rfl rfl ?_
  refine tm_iconst (v := 3) dL_law_495 (by decide) ?_
  refine tm_iadd dL_law_496 ?_
  refine tm_sld dL_law_497 hb3 ?_
  refine tm_i2l dL_law_498 ?_
  refine tm_bipush (v := 32) dL_law_499 (by decide) ?_
  refine tm_lshl dL_law_501 ?_
  refine tm_aload_n dL_law_502 rfl rfl ?_
  refine tm_iload_n dL_law_503 rfl rfl ?_
  refine tm_iconst (v := 4) dL_law_504 (by decide) ?_
  refine tm_iadd dL_law_505 ?_
  refine tm_sld dL_law_506 hb4 ?_
  refine tm_i2l dL_law_507 ?_
  refine tm_ldc2 dL_law_508 wconstlL_13 ?_
  refine tm_land dL_law_511 ?_
  refine tm_lor dL_law_512 ?_
  refine tm_callV kX11 rfl (avs := [ti (gx g (q + 1).toNatClampNeg), ti (gx g (q + 2).toNatClampNeg), tl ((((gx g (q + 3).toNatClampNeg).toInt64) <<< ((32 : Int32).toInt64 &&& 63)) ||| (((gx g (q + 4).toNatClampNeg).toInt64) &&& 4294967295))]) (st := [ti v]) (okX11_thing hm) wcL_39.1 wcL_39.2.1 wcL_39.2.2.1 wcL_39.2.2.2 ⟨rfl, rfl, Nat.le_of_ble_eq_true rfl, Nat.le_of_ble_eq_true rfl⟩ rfl (Nat.le_of_ble_eq_true rfl) (by omega) dL_law_513 ?_
  refine tm_icmp_eq (tgt := 1474) dL_law_516 (by decide) (fun _ => ?_) (fun h => absurd rfl h)
  exact tm_widen (by omega) (by omega) kk
set_option maxHeartbeats 4000000 in
set_option maxRecDepth 100000 in
theorem law_c5 {g : tG} {nm : String} {mc ms cells slots : Nat} {r : Option tV} {M' M M1 M2 : tM} {q : Int32} {v : Int32} (hb1 : vp_in (q + 1) (gL g)) (hb2 : vp_in (q + 2) (gL g)) (hb3 : vp_in (q + 3) (gL g)) (hb4 : vp_in (q + 4) (gL g)) (hb5 : vp_in (q + 5) (gL g)) (hx : (fX10_row (gx g (q + 1).toNatClampNeg) (gx g (q + 2).toNatClampNeg) ((((gx g (q + 3).toNatClampNeg).toInt64) <<< ((32 : Int32).toInt64 &&& 63)) ||| (((gx g (q + 4).toNatClampNeg).toInt64) &&& 4294967295)) M = some (v, M1))) (hm : (fX11_row (gx g (q + 1).toNatClampNeg) (gx g (q + 2).toNatClampNeg) ((((gx g (q + 3).toNatClampNeg).toInt64) <<< ((32 : Int32).toInt64 &&& 63)) ||| (((gx g (q + 4).toNatClampNeg).toInt64) &&& 4294967295)) M1 = some (v, M2))) (hcs : cells + 6 ≤ 600000 ∧ slots + 682 ≤ 7302250) (kk : TW g (iL nm) rL mc ms r M' (cells + 6) (slots + 682) 1474 [(0, tr 91 0), (1, tr 10 0), (2, tr 11 0), (3, ti q)] [] M2) : TW g (iL nm) rL mc ms r M' cells slots 521 [(0, tr 91 0), (1, tr 10 0), (2, tr 11 0), (3, ti q)] [] M := by
  have hcs1 : cells + 6 ≤ rL.cells ∧ slots + 682 ≤ rL.slots := hcs
  have hR1 : rL.cells = 600000 := rfl
  have hR2 : rL.slots = 7302250 := rfl
  refine tm_aload_n dL_law_521 rfl rfl ?_
  refine tm_aload_n dL_law_522 rfl rfl ?_
  refine tm_iload_n dL_law_523 rfl rfl ?_
  refine tm_iconst (v := 1) dL_law_524 (by decide) ?_
  refine tm_iadd dL_law_525 ?_
  refine tm_sld dL_law_526 hb1 ?_
  refine tm_aload_n dL_law_527 rfl rfl ?_
  refine tm_iload_n dL_law_528 rfl rfl ?_
  refine tm_iconst (v := 2) dL_law_529 (by decide) ?_
  refine tm_iadd dL_law_530 ?_
  refine tm_sld dL_law_531 hb2 ?_
  refine tm_aload_n dL_law_532 rfl rfl ?_
  refine tm_iload_n dL_law_533 rfl rfl ?_
  refine tm_iconst (v := 3) dL_law_534 (by decide) ?_
  refine tm_iadd dL_law_535 ?_
  refine tm_sld dL_law_536 hb3 ?_
  refine tm_i2l dL_law_537 ?_
  refine tm_bipush (v := 32) dL_law_538 (by decide) ?_
  refine tm_lshl dL_law_540 ?_
  refine tm_aload_n dL_law_541 rfl rfl ?_
  refine tm_iload_n dL_law_542 rfl rfl ?_
  refine tm_iconst (v := 4) dL_law_543 (by decide) ?_
  refine tm_iadd dL_law_544 ?_
  refine tm_sld dL_law_545 hb4 ?_
  refine tm_i2l dL_law_546 ?_
  refine tm_ldc2 dL_law_547 wconstlL_13 ?_
  refine tm_land dL_law_550 ?_
  refine tm_lor dL_law_551 ?_
  refine tm_callV kX10 rfl (avs := [ti (gx g (q + 1).toNatClampNeg), ti (gx g (q + 2).toNatClampNeg), tl ((((gx g (q + 3).toNatClampNeg).toInt64) <<< ((32 : Int32).toInt64 &&& 63)) ||| (((gx g (q + 4).toNatClampNeg).toInt64) &&& 4294967295))]) (st := []) (okX10_row hx) wcL_40.1 wcL_40.2.1 wcL_40.2.2.1 wcL_40.2.2.2 ⟨rfl, rfl, Nat.le_of_ble_eq_true rfl, Nat.le_of_ble_eq_true rfl⟩ rfl (Nat.le_of_ble_eq_true rfl) (by omega) dL_law_552 ?_
  refine tm_aload_n dL_law_555 rfl rfl ?_
  refine tm_aload_n dL_law_556 rfl rfl ?_
  refine tm_iload_n dL_law_557 rfl rfl ?_
  refine tm_iconst (v := 1) dL_law_558 (by decide) ?_
  refine tm_iadd dL_law_559 ?_
  refine tm_sld dL_law_560 hb1 ?_
  refine tm_aload_n dL_law_561 rfl rfl ?_
  refine tm_iload_n dL_law_562 rfl rfl ?_
  refine tm_iconst (v := 2) dL_law_563 (by decide) ?_
  refine tm_iadd dL_law_564 ?_
  refine tm_sld dL_law_565 hb2 ?_
  refine tm_aload_n dL_law_566 rfl rfl ?_
  refine tm_iload_n dL_law_567 rfl rfl ?_
  refine tm_iconst (v := 3) dL_law_568 (by decide) ?_
  refine tm_iadd dL_law_569 ?_
  refine tm_sld dL_law_570 hb3 ?_
  refine tm_i2l dL_law_571 ?_
  refine tm_bipush (v := 32) dL_law_572 (by decide) ?_
  refine tm_lshl dL_law_574 ?_
  refine tm_aload_n dL_law_575 rfl rfl ?_
  refine tm_iload_n dL_law_576 rfl rfl ?_
  refine tm_iconst (v := 4) dL_law_577 (by decide) ?_
  refine tm_iadd dL_law_578 ?_
  refine tm_sld dL_law_579 hb4 ?_
  refine tm_i2l dL_law_580 ?_
  refine tm_ldc2 dL_law_581 wconstlL_13 ?_
  refine tm_land dL_law_584 ?_
  refine tm_lor dL_law_585 ?_
  refine tm_callV kX11 rfl (avs := [ti (gx g (q + 1).toNatClampNeg), ti (gx g (q + 2).toNatClampNeg), tl ((((gx g (q + 3).toNatClampNeg).toInt64) <<< ((32 : Int32).toInt64 &&& 63)) ||| (((gx g (q + 4).toNatClampNeg).toInt64) &&& 4294967295))]) (st := [ti v]) (okX11_row hm) wcL_43.1 wcL_43.2.1 wcL_43.2.2.1 wcL_43.2.2.2 ⟨rfl, rfl, Nat.le_of_ble_eq_true rfl, Nat.le_of_ble_eq_true rfl⟩ rfl (Nat.le_of_ble_eq_true rfl) (by omega) dL_law_586 ?_
  refine tm_icmp_eq (tgt := 1474) dL_law_589 (by decide) (fun _ => ?_) (fun h => absurd rfl h)
  exact tm_widen (by omega) (by omega) kk
set_option maxHeartbeats 4000000 in
set_option maxRecDepth 100000 in
theorem law_c6 {g : tG} {nm : String} {mc ms cells slots : Nat} {r : Option tV} {M' M M1 M2 : tM} {q : Int32} {v : Int32} (hb1 : vp_in (q + 1) (gL g)) (hb2 : vp_in (q + 2) (gL g)) (hb3 : vp_in (q + 3) (gL g)) (hb4 : vp_in (q + 4) (gL g)) (hb5 : vp_in (q + 5) (gL g)) (hx : (fX10_copy (gx g (q + 1).toNatClampNeg) (gx g (q + 2).toNatClampNeg) (gx g (q + 3).toNatClampNeg) (gx g (q + 4).toNatClampNeg) (gx g (q + 5).toNatClampNeg) M = some (v, M1))) (hm : (fX11_copy (gx g (q + 1).toNatClampNeg) (gx g (q + 2).toNatClampNeg) (gx g (q + 3).toNatClampNeg) (gx g (q + 4).toNatClampNeg) (gx g (q + 5).toNatClampNeg) M1 = some (v, M2))) (hcs : cells + 6 ≤ 600000 ∧ slots + 682 ≤ 7302250) (kk : TW g (iL nm) rL mc ms r M' (cells + 6) (slots + 682) 1474 [(0, tr 91 0), (1, tr 10 0), (2, tr 11 0), (3, ti q)] [] M2) : TW g (iL nm) rL mc ms r M' cells slots 594 [(0, tr 91 0), (1, tr 10 0), (2, tr 11 0), (3, ti q)] [] M := by
  have hcs1 : cells + 6 ≤ rL.cells ∧ slots + 682 ≤ rL.slots := hcs
  have hR1 : rL.cells = 600000 := rfl
  have hR2 : rL.slots = 7302250 := rfl
  refine tm_aload_n dL_law_594 rfl rfl ?_
  refine tm_aload_n dL_law_595 rfl rfl ?_
  refine tm_iload_n dL_law_596 rfl rfl ?_
  refine tm_iconst (v := 1) dL_law_597 (by decide) ?_
  refine tm_iadd dL_law_598 ?_
  refine tm_sld dL_law_599 hb1 ?_
  refine tm_aload_n dL_law_600 rfl rfl ?_
  refine tm_iload_n dL_law_601 rfl rfl ?_
  refine tm_iconst (v := 2) dL_law_602 (by decide) ?_
  refine tm_iadd dL_law_603 ?_
  refine tm_sld dL_law_604 hb2 ?_
  refine tm_aload_n dL_law_605 rfl rfl ?_
  refine tm_iload_n dL_law_606 rfl rfl ?_
  refine tm_iconst (v := 3) dL_law_607 (by decide) ?_
  refine tm_iadd dL_law_608 ?_
  refine tm_sld dL_law_609 hb3 ?_
  refine tm_aload_n dL_law_610 rfl rfl ?_
  refine tm_iload_n dL_law_611 rfl rfl ?_
  refine tm_iconst (v := 4) dL_law_612 (by decide) ?_
  refine tm_iadd dL_law_613 ?_
  refine tm_sld dL_law_614 hb4 ?_
  refine tm_aload_n dL_law_615 rfl rfl ?_
  refine tm_iload_n dL_law_616 rfl rfl ?_
  refine tm_iconst (v := 5) dL_law_617 (by decide) ?_
  refine tm_iadd dL_law_618 ?_
  refine tm_sld dL_law_619 hb5 ?_
  refine tm_callV kX10 rfl (avs := [ti (gx g (q + 1).toNatClampNeg), ti (gx g (q + 2).toNatClampNeg), ti (gx g (q + 3).toNatClampNeg), ti (gx g (q + 4).toNatClampNeg), ti (gx g (q + 5).toNatClampNeg)]) (st := []) (okX10_copy hx) wcL_44.1 wcL_44.2.1 wcL_44.2.2.1 wcL_44.2.2.2 ⟨rfl, rfl, Nat.le_of_ble_eq_true rfl, Nat.le_of_ble_eq_true rfl⟩ rfl (Nat.le_of_ble_eq_true rfl) (by omega) dL_law_620 ?_
  refine tm_aload_n dL_law_623 rfl rfl ?_
  refine tm_aload_n dL_law_624 rfl rfl ?_
  refine tm_iload_n dL_law_625 rfl rfl ?_
  refine tm_iconst (v := 1) dL_law_626 (by decide) ?_
  refine tm_iadd dL_law_627 ?_
  refine tm_sld dL_law_628 hb1 ?_
  refine tm_aload_n dL_law_629 rfl rfl ?_
  refine tm_iload_n dL_law_630 rfl rfl ?_
  refine tm_iconst (v := 2) dL_law_631 (by decide) ?_
  refine tm_iadd dL_law_632 ?_
  refine tm_sld dL_law_633 hb2 ?_
  refine tm_aload_n dL_law_634 rfl rfl ?_
  refine tm_iload_n dL_law_635 rfl rfl ?_
  refine tm_iconst (v := 3) dL_law_636 (by decide) ?_
  refine tm_iadd dL_law_637 ?_
  refine tm_sld dL_law_638 hb3 ?_
  refine tm_aload_n dL_law_639 rfl rfl ?_
  refine tm_iload_n dL_law_640 rfl rfl ?_
  refine tm_iconst (v := 4) dL_law_641 (by decide) ?_
  refine tm_iadd dL_law_642 ?_
  refine tm_sld dL_law_643 hb4 ?_
  refine tm_aload_n dL_law_644 rfl rfl ?_
  refine tm_iload_n dL_law_645 rfl rfl ?_
  refine tm_iconst (v := 5) dL_law_646 (by decide) ?_
  refine tm_iadd dL_law_647 ?_
  refine tm_sld dL_law_648 hb5 ?_
  refine tm_callV kX11 rfl (avs := [ti (gx g (q + 1).toNatClampNeg), ti (gx g (q + 2).toNatClampNeg), ti (gx g (q + 3).toNatClampNeg), ti (gx g (q + 4).toNatClampNeg), ti (gx g (q + 5).toNatClampNeg)]) (st := [ti v]) (okX11_copy hm) wcL_48.1 wcL_48.2.1 wcL_48.2.2.1 wcL_48.2.2.2 ⟨rfl, rfl, Nat.le_of_ble_eq_true rfl, Nat.le_of_ble_eq_true rfl⟩ rfl (Nat.le_of_ble_eq_true rfl) (by omega) dL_law_649 ?_
  refine tm_icmp_eq (tgt := 1474) dL_law_652 (by decide) (fun _ => ?_) (fun h => absurd rfl h)
  exact tm_widen (by omega) (by omega) kk
set_option maxHeartbeats 4000000 in
set_option maxRecDepth 100000 in
theorem law_c7 {g : tG} {nm : String} {mc ms cells slots : Nat} {r : Option tV} {M' M M1 M2 : tM} {q : Int32} {v : Int32} (hb1 : vp_in (q + 1) (gL g)) (hb2 : vp_in (q + 2) (gL g)) (hb3 : vp_in (q + 3) (gL g)) (hb4 : vp_in (q + 4) (gL g)) (hb5 : vp_in (q + 5) (gL g)) (hx : (fX10_tear (gx g (q + 1).toNatClampNeg) M = some (v, M1))) (hm : (fX11_tear (gx g (q + 1).toNatClampNeg) M1 = some (v, M2))) (hcs : cells + 6 ≤ 600000 ∧ slots + 682 ≤ 7302250) (kk : TW g (iL nm) rL mc ms r M' (cells + 6) (slots + 682) 1474 [(0, tr 91 0), (1, tr 10 0), (2, tr 11 0), (3, ti q)] [] M2) : TW g (iL nm) rL mc ms r M' cells slots 657 [(0, tr 91 0), (1, tr 10 0), (2, tr 11 0), (3, ti q)] [] M := by
  have hcs1 : cells + 6 ≤ rL.cells ∧ slots + 682 ≤ rL.slots := hcs
  have hR1 : rL.cells = 600000 := rfl
  have hR2 : rL.slots = 7302250 := rfl
  refine tm_aload_n dL_law_657 rfl rfl ?_
  refine tm_aload_n dL_law_658 rfl rfl ?_
  refine tm_iload_n dL_law_659 rfl rfl ?_
  refine tm_iconst (v := 1) dL_law_660 (by decide) ?_
  refine tm_iadd dL_law_661 ?_
  refine tm_sld dL_law_662 hb1 ?_
  refine tm_callV kX10 rfl (avs := [ti (gx g (q + 1).toNatClampNeg)]) (st := []) (okX10_tear hx) wcL_49.1 wcL_49.2.1 wcL_49.2.2.1 wcL_49.2.2.2 ⟨rfl, rfl, Nat.le_of_ble_eq_true rfl, Nat.le_of_ble_eq_true rfl⟩ rfl (Nat.le_of_ble_eq_true rfl) (by omega) dL_law_663 ?_
  refine tm_aload_n dL_law_666 rfl rfl ?_
  refine tm_aload_n dL_law_667 rfl rfl ?_
  refine tm_iload_n dL_law_668 rfl rfl ?_
  refine tm_iconst (v := 1) dL_law_669 (by decide) ?_
  refine tm_iadd dL_law_670 ?_
  refine tm_sld dL_law_671 hb1 ?_
  refine tm_callV kX11 rfl (avs := [ti (gx g (q + 1).toNatClampNeg)]) (st := [ti v]) (okX11_tear hm) wcL_53.1 wcL_53.2.1 wcL_53.2.2.1 wcL_53.2.2.2 ⟨rfl, rfl, Nat.le_of_ble_eq_true rfl, Nat.le_of_ble_eq_true rfl⟩ rfl (Nat.le_of_ble_eq_true rfl) (by omega) dL_law_672 ?_
  refine tm_icmp_eq (tgt := 1474) dL_law_675 (by decide) (fun _ => ?_) (fun h => absurd rfl h)
  exact tm_widen (by omega) (by omega) kk
set_option maxHeartbeats 4000000 in
set_option maxRecDepth 100000 in
theorem law_c8 {g : tG} {nm : String} {mc ms cells slots : Nat} {r : Option tV} {M' M : tM} {q : Int32} {v : Int32} (hb1 : vp_in (q + 1) (gL g)) (hb2 : vp_in (q + 2) (gL g)) (hb3 : vp_in (q + 3) (gL g)) (hb4 : vp_in (q + 4) (gL g)) (hb5 : vp_in (q + 5) (gL g)) (hx : (fX10_told (gx g (q + 1).toNatClampNeg) (gx g (q + 2).toNatClampNeg) M = some v)) (hm : (fX11_told (gx g (q + 1).toNatClampNeg) (gx g (q + 2).toNatClampNeg) M = some v)) (hcs : cells + 6 ≤ 600000 ∧ slots + 682 ≤ 7302250) (kk : TW g (iL nm) rL mc ms r M' (cells + 6) (slots + 682) 1474 [(0, tr 91 0), (1, tr 10 0), (2, tr 11 0), (3, ti q)] [] M) : TW g (iL nm) rL mc ms r M' cells slots 680 [(0, tr 91 0), (1, tr 10 0), (2, tr 11 0), (3, ti q)] [] M := by
  have hcs1 : cells + 6 ≤ rL.cells ∧ slots + 682 ≤ rL.slots := hcs
  have hR1 : rL.cells = 600000 := rfl
  have hR2 : rL.slots = 7302250 := rfl
  refine tm_aload_n dL_law_680 rfl rfl ?_
  refine tm_aload_n dL_law_681 rfl rfl ?_
  refine tm_iload_n dL_law_682 rfl rfl ?_
  refine tm_iconst (v := 1) dL_law_683 (by decide) ?_
  refine tm_iadd dL_law_684 ?_
  refine tm_sld dL_law_685 hb1 ?_
  refine tm_aload_n dL_law_686 rfl rfl ?_
  refine tm_iload_n dL_law_687 rfl rfl ?_
  refine tm_iconst (v := 2) dL_law_688 (by decide) ?_
  refine tm_iadd dL_law_689 ?_
  refine tm_sld dL_law_690 hb2 ?_
  refine tm_callV kX10 rfl (avs := [ti (gx g (q + 1).toNatClampNeg), ti (gx g (q + 2).toNatClampNeg)]) (st := []) (okX10_told hx) wcL_54.1 wcL_54.2.1 wcL_54.2.2.1 wcL_54.2.2.2 ⟨rfl, rfl, Nat.le_of_ble_eq_true rfl, Nat.le_of_ble_eq_true rfl⟩ rfl (Nat.le_of_ble_eq_true rfl) (by omega) dL_law_691 ?_
  refine tm_aload_n dL_law_694 rfl rfl ?_
  refine tm_aload_n dL_law_695 rfl rfl ?_
  refine tm_iload_n dL_law_696 rfl rfl ?_
  refine tm_iconst (v := 1) dL_law_697 (by decide) ?_
  refine tm_iadd dL_law_698 ?_
  refine tm_sld dL_law_699 hb1 ?_
  refine tm_aload_n dL_law_700 rfl rfl ?_
  refine tm_iload_n dL_law_701 rfl rfl ?_
  refine tm_iconst (v := 2) dL_law_702 (by decide) ?_
  refine tm_iadd dL_law_703 ?_
  refine tm_sld dL_law_704 hb2 ?_
  refine tm_callV kX11 rfl (avs := [ti (gx g (q + 1).toNatClampNeg), ti (gx g (q + 2).toNatClampNeg)]) (st := [ti v]) (okX11_told hm) wcL_57.1 wcL_57.2.1 wcL_57.2.2.1 wcL_57.2.2.2 ⟨rfl, rfl, Nat.le_of_ble_eq_true rfl, Nat.le_of_ble_eq_true rfl⟩ rfl (Nat.le_of_ble_eq_true rfl) (by omega) dL_law_705 ?_
  refine tm_icmp_eq (tgt := 1474) dL_law_708 (by decide) (fun _ => ?_) (fun h => absurd rfl h)
  exact tm_widen (by omega) (by omega) kk
set_option maxHeartbeats 4000000 in
set_option maxRecDepth 100000 in
theorem law_c9 {g : tG} {nm : String} {mc ms cells slots : Nat} {r : Option tV} {M' M : tM} {q : Int32} {v : Int32} (hb1 : vp_in (q + 1) (gL g)) (hb2 : vp_in (q + 2) (gL g)) (hb3 : vp_in (q + 3) (gL g)) (hb4 : vp_in (q + 4) (gL g)) (hb5 : vp_in (q + 5) (gL g)) (hx : (fX10_is (gx g (q + 1).toNatClampNeg) (gx g (q + 2).toNatClampNeg) M = some v)) (hm : (fX11_is (gx g (q + 1).toNatClampNeg) (gx g (q + 2).toNatClampNeg) M = some v)) (hcs : cells + 6 ≤ 600000 ∧ slots + 682 ≤ 7302250) (kk : TW g (iL nm) rL mc ms r M' (cells + 6) (slots + 682) 1474 [(0, tr 91 0), (1, tr 10 0), (2, tr 11 0), (3, ti q)] [] M) : TW g (iL nm) rL mc ms r M' cells slots 713 [(0, tr 91 0), (1, tr 10 0), (2, tr 11 0), (3, ti q)] [] M := by
  have hcs1 : cells + 6 ≤ rL.cells ∧ slots + 682 ≤ rL.slots := hcs
  have hR1 : rL.cells = 600000 := rfl
  have hR2 : rL.slots = 7302250 := rfl
  refine tm_aload_n dL_law_713 rfl rfl ?_
  refine tm_aload_n dL_law_714 rfl rfl ?_
  refine tm_iload_n dL_law_715 rfl rfl ?_
  refine tm_iconst (v := 1) dL_law_716 (by decide) ?_
  refine tm_iadd dL_law_717 ?_
  refine tm_sld dL_law_718 hb1 ?_
  refine tm_aload_n dL_law_719 rfl rfl ?_
  refine tm_iload_n dL_law_720 rfl rfl ?_
  refine tm_iconst (v := 2) dL_law_721 (by decide) ?_
  refine tm_iadd dL_law_722 ?_
  refine tm_sld dL_law_723 hb2 ?_
  refine tm_callV kX10 rfl (avs := [ti (gx g (q + 1).toNatClampNeg), ti (gx g (q + 2).toNatClampNeg)]) (st := []) (okX10_is hx) wcL_58.1 wcL_58.2.1 wcL_58.2.2.1 wcL_58.2.2.2 ⟨rfl, rfl, Nat.le_of_ble_eq_true rfl, Nat.le_of_ble_eq_true rfl⟩ rfl (Nat.le_of_ble_eq_true rfl) (by omega) dL_law_724 ?_
  refine tm_aload_n dL_law_727 rfl rfl ?_
  refine tm_aload_n dL_law_728 rfl rfl ?_
  refine tm_iload_n dL_law_729 rfl rfl ?_
  refine tm_iconst (v := 1) dL_law_730 (by decide) ?_
  refine tm_iadd dL_law_731 ?_
  refine tm_sld dL_law_732 hb1 ?_
  refine tm_aload_n dL_law_733 rfl rfl ?_
  refine tm_iload_n dL_law_734 rfl rfl ?_
  refine tm_iconst (v := 2) dL_law_735 (by decide) ?_
  refine tm_iadd dL_law_736 ?_
  refine tm_sld dL_law_737 hb2 ?_
  refine tm_callV kX11 rfl (avs := [ti (gx g (q + 1).toNatClampNeg), ti (gx g (q + 2).toNatClampNeg)]) (st := [ti v]) (okX11_is hm) wcL_61.1 wcL_61.2.1 wcL_61.2.2.1 wcL_61.2.2.2 ⟨rfl, rfl, Nat.le_of_ble_eq_true rfl, Nat.le_of_ble_eq_true rfl⟩ rfl (Nat.le_of_ble_eq_true rfl) (by omega) dL_law_738 ?_
  refine tm_icmp_eq (tgt := 1474) dL_law_741 (by decide) (fun _ => ?_) (fun h => absurd rfl h)
  exact tm_widen (by omega) (by omega) kk
set_option maxHeartbeats 4000000 in
set_option maxRecDepth 100000 in
theorem law_c10 {g : tG} {nm : String} {mc ms cells slots : Nat} {r : Option tV} {M' M : tM} {q : Int32} {v : Int32} (hb1 : vp_in (q + 1) (gL g)) (hb2 : vp_in (q + 2) (gL g)) (hb3 : vp_in (q + 3) (gL g)) (hb4 : vp_in (q + 4) (gL g)) (hb5 : vp_in (q + 5) (gL g)) (hx : (fX10_ends (gx g (q + 1).toNatClampNeg) (gx g (q + 2).toNatClampNeg) M = some v)) (hm : (fX11_ends (gx g (q + 1).toNatClampNeg) (gx g (q + 2).toNatClampNeg) M = some v)) (hcs : cells + 6 ≤ 600000 ∧ slots + 682 ≤ 7302250) (kk : TW g (iL nm) rL mc ms r M' (cells + 6) (slots + 682) 1474 [(0, tr 91 0), (1, tr 10 0), (2, tr 11 0), (3, ti q)] [] M) : TW g (iL nm) rL mc ms r M' cells slots 746 [(0, tr 91 0), (1, tr 10 0), (2, tr 11 0), (3, ti q)] [] M := by
  have hcs1 : cells + 6 ≤ rL.cells ∧ slots + 682 ≤ rL.slots := hcs
  have hR1 : rL.cells = 600000 := rfl
  have hR2 : rL.slots = 7302250 := rfl
  refine tm_aload_n dL_law_746 rfl rfl ?_
  refine tm_aload_n dL_law_747 rfl rfl ?_
  refine tm_iload_n dL_law_748 rfl rfl ?_
  refine tm_iconst (v := 1) dL_law_749 (by decide) ?_
  refine tm_iadd dL_law_750 ?_
  refine tm_sld dL_law_751 hb1 ?_
  refine tm_aload_n dL_law_752 rfl rfl ?_
  refine tm_iload_n dL_law_753 rfl rfl ?_
  refine tm_iconst (v := 2) dL_law_754 (by decide) ?_
  refine tm_iadd dL_law_755 ?_
  refine tm_sld dL_law_756 hb2 ?_
  refine tm_callV kX10 rfl (avs := [ti (gx g (q + 1).toNatClampNeg), ti (gx g (q + 2).toNatClampNeg)]) (st := []) (okX10_ends hx) wcL_62.1 wcL_62.2.1 wcL_62.2.2.1 wcL_62.2.2.2 ⟨rfl, rfl, Nat.le_of_ble_eq_true rfl, Nat.le_of_ble_eq_true rfl⟩ rfl (Nat.le_of_ble_eq_true rfl) (by omega) dL_law_757 ?_
  refine tm_aload_n dL_law_760 rfl rfl ?_
  refine tm_aload_n dL_law_761 rfl rfl ?_
  refine tm_iload_n dL_law_762 rfl rfl ?_
  refine tm_iconst (v := 1) dL_law_763 (by decide) ?_
  refine tm_iadd dL_law_764 ?_
  refine tm_sld dL_law_765 hb1 ?_
  refine tm_aload_n dL_law_766 rfl rfl ?_
  refine tm_iload_n dL_law_767 rfl rfl ?_
  refine tm_iconst (v := 2) dL_law_768 (by decide) ?_
  refine tm_iadd dL_law_769 ?_
  refine tm_sld dL_law_770 hb2 ?_
  refine tm_callV kX11 rfl (avs := [ti (gx g (q + 1).toNatClampNeg), ti (gx g (q + 2).toNatClampNeg)]) (st := [ti v]) (okX11_ends hm) wcL_65.1 wcL_65.2.1 wcL_65.2.2.1 wcL_65.2.2.2 ⟨rfl, rfl, Nat.le_of_ble_eq_true rfl, Nat.le_of_ble_eq_true rfl⟩ rfl (Nat.le_of_ble_eq_true rfl) (by omega) dL_law_771 ?_
  refine tm_icmp_eq (tgt := 1474) dL_law_774 (by decide) (fun _ => ?_) (fun h => absurd rfl h)
  exact tm_widen (by omega) (by omega) kk
set_option maxHeartbeats 4000000 in
set_option maxRecDepth 100000 in
theorem law_c11 {g : tG} {nm : String} {mc ms cells slots : Nat} {r : Option tV} {M' M M1 M2 : tM} {q : Int32} {v : Int32} (hb1 : vp_in (q + 1) (gL g)) (hb2 : vp_in (q + 2) (gL g)) (hb3 : vp_in (q + 3) (gL g)) (hb4 : vp_in (q + 4) (gL g)) (hb5 : vp_in (q + 5) (gL g)) (hx : (fX10_round M = some (v, M1))) (hm : (fX11_round M1 = some (v, M2))) (hcs : cells + 6 ≤ 600000 ∧ slots + 682 ≤ 7302250) (kk : TW g (iL nm) rL mc ms r M' (cells + 6) (slots + 682) 1474 [(0, tr 91 0), (1, tr 10 0), (2, tr 11 0), (3, ti q)] [] M2) : TW g (iL nm) rL mc ms r M' cells slots 779 [(0, tr 91 0), (1, tr 10 0), (2, tr 11 0), (3, ti q)] [] M := by
  have hcs1 : cells + 6 ≤ rL.cells ∧ slots + 682 ≤ rL.slots := hcs
  have hR1 : rL.cells = 600000 := rfl
  have hR2 : rL.slots = 7302250 := rfl
  refine tm_aload_n dL_law_779 rfl rfl ?_
  refine tm_callV kX10 rfl (avs := []) (st := []) (okX10_round hx) wcL_66.1 wcL_66.2.1 wcL_66.2.2.1 wcL_66.2.2.2 ⟨rfl, rfl, Nat.le_of_ble_eq_true rfl, Nat.le_of_ble_eq_true rfl⟩ rfl (Nat.le_of_ble_eq_true rfl) (by omega) dL_law_780 ?_
  refine tm_aload_n dL_law_783 rfl rfl ?_
  refine tm_callV kX11 rfl (avs := []) (st := [ti v]) (okX11_round hm) wcL_70.1 wcL_70.2.1 wcL_70.2.2.1 wcL_70.2.2.2 ⟨rfl, rfl, Nat.le_of_ble_eq_true rfl, Nat.le_of_ble_eq_true rfl⟩ rfl (Nat.le_of_ble_eq_true rfl) (by omega) dL_law_784 ?_
  refine tm_icmp_eq (tgt := 1474) dL_law_787 (by decide) (fun _ => ?_) (fun h => absurd rfl h)
  exact tm_widen (by omega) (by omega) kk
set_option maxHeartbeats 4000000 in
set_option maxRecDepth 100000 in
theorem law_c12 {g : tG} {nm : String} {mc ms cells slots : Nat} {r : Option tV} {M' M M1 M2 : tM} {q : Int32} {v : Int32} (hb1 : vp_in (q + 1) (gL g)) (hb2 : vp_in (q + 2) (gL g)) (hb3 : vp_in (q + 3) (gL g)) (hb4 : vp_in (q + 4) (gL g)) (hb5 : vp_in (q + 5) (gL g)) (hx : (fX10_firings (gx g (q + 1).toNatClampNeg) M = some (v, M1))) (hm : (fX11_firings (gx g (q + 1).toNatClampNeg) M1 = some (v, M2))) (hcs : cells + 6 ≤ 600000 ∧ slots + 682 ≤ 7302250) (kk : TW g (iL nm) rL mc ms r M' (cells + 6) (slots + 682) 1474 [(0, tr 91 0), (1, tr 10 0), (2, tr 11 0), (3, ti q)] [] M2) : TW g (iL nm) rL mc ms r M' cells slots 792 [(0, tr 91 0), (1, tr 10 0), (2, tr 11 0), (3, ti q)] [] M := by
  have hcs1 : cells + 6 ≤ rL.cells ∧ slots + 682 ≤ rL.slots := hcs
  have hR1 : rL.cells = 600000 := rfl
  have hR2 : rL.slots = 7302250 := rfl
  refine tm_aload_n dL_law_792 rfl rfl ?_
  refine tm_aload_n dL_law_793 rfl rfl ?_
  refine tm_iload_n dL_law_794 rfl rfl ?_
  refine tm_iconst (v := 1) dL_law_795 (by decide) ?_
  refine tm_iadd dL_law_796 ?_
  refine tm_sld dL_law_797 hb1 ?_
  refine tm_callV kX10 rfl (avs := [ti (gx g (q + 1).toNatClampNeg)]) (st := []) (okX10_firings hx) wcL_71.1 wcL_71.2.1 wcL_71.2.2.1 wcL_71.2.2.2 ⟨rfl, rfl, Nat.le_of_ble_eq_true rfl, Nat.le_of_ble_eq_true rfl⟩ rfl (Nat.le_of_ble_eq_true rfl) (by omega) dL_law_798 ?_
  refine tm_aload_n dL_law_801 rfl rfl ?_
  refine tm_aload_n dL_law_802 rfl rfl ?_
  refine tm_iload_n dL_law_803 rfl rfl ?_
  refine tm_iconst (v := 1) dL_law_804 (by decide) ?_
  refine tm_iadd dL_law_805 ?_
  refine tm_sld dL_law_806 hb1 ?_
  refine tm_callV kX11 rfl (avs := [ti (gx g (q + 1).toNatClampNeg)]) (st := [ti v]) (okX11_firings hm) wcL_74.1 wcL_74.2.1 wcL_74.2.2.1 wcL_74.2.2.2 ⟨rfl, rfl, Nat.le_of_ble_eq_true rfl, Nat.le_of_ble_eq_true rfl⟩ rfl (Nat.le_of_ble_eq_true rfl) (by omega) dL_law_807 ?_
  refine tm_icmp_eq (tgt := 1474) dL_law_810 (by decide) (fun _ => ?_) (fun h => absurd rfl h)
  exact tm_widen (by omega) (by omega) kk
set_option maxHeartbeats 4000000 in
set_option maxRecDepth 100000 in
theorem law_c13 {g : tG} {nm : String} {mc ms cells slots : Nat} {r : Option tV} {M' M M1 M2 : tM} {q : Int32} {v : Int32} (hb1 : vp_in (q + 1) (gL g)) (hb2 : vp_in (q + 2) (gL g)) (hb3 : vp_in (q + 3) (gL g)) (hb4 : vp_in (q + 4) (gL g)) (hb5 : vp_in (q + 5) (gL g)) (hx : (fX10_uneven M = some (v, M1))) (hm : (fX11_uneven M1 = some (v, M2))) (hcs : cells + 6 ≤ 600000 ∧ slots + 682 ≤ 7302250) (kk : TW g (iL nm) rL mc ms r M' (cells + 6) (slots + 682) 1474 [(0, tr 91 0), (1, tr 10 0), (2, tr 11 0), (3, ti q)] [] M2) : TW g (iL nm) rL mc ms r M' cells slots 815 [(0, tr 91 0), (1, tr 10 0), (2, tr 11 0), (3, ti q)] [] M := by
  have hcs1 : cells + 6 ≤ rL.cells ∧ slots + 682 ≤ rL.slots := hcs
  have hR1 : rL.cells = 600000 := rfl
  have hR2 : rL.slots = 7302250 := rfl
  refine tm_aload_n dL_law_815 rfl rfl ?_
  refine tm_callV kX10 rfl (avs := []) (st := []) (okX10_uneven hx) wcL_75.1 wcL_75.2.1 wcL_75.2.2.1 wcL_75.2.2.2 ⟨rfl, rfl, Nat.le_of_ble_eq_true rfl, Nat.le_of_ble_eq_true rfl⟩ rfl (Nat.le_of_ble_eq_true rfl) (by omega) dL_law_816 ?_
  refine tm_aload_n dL_law_819 rfl rfl ?_
  refine tm_callV kX11 rfl (avs := []) (st := [ti v]) (okX11_uneven hm) wcL_78.1 wcL_78.2.1 wcL_78.2.2.1 wcL_78.2.2.2 ⟨rfl, rfl, Nat.le_of_ble_eq_true rfl, Nat.le_of_ble_eq_true rfl⟩ rfl (Nat.le_of_ble_eq_true rfl) (by omega) dL_law_820 ?_
  refine tm_icmp_eq (tgt := 1474) dL_law_823 (by decide) (fun _ => ?_) (fun h => absurd rfl h)
  exact tm_widen (by omega) (by omega) kk
set_option maxHeartbeats 4000000 in
set_option maxRecDepth 100000 in
theorem law_c14 {g : tG} {nm : String} {mc ms cells slots : Nat} {r : Option tV} {M' M M1 M2 : tM} {q : Int32} {v : Int32} (hb1 : vp_in (q + 1) (gL g)) (hb2 : vp_in (q + 2) (gL g)) (hb3 : vp_in (q + 3) (gL g)) (hb4 : vp_in (q + 4) (gL g)) (hb5 : vp_in (q + 5) (gL g)) (hx : (fX10_stuck M = some (v, M1))) (hm : (fX11_stuck M1 = some (v, M2))) (hcs : cells + 6 ≤ 600000 ∧ slots + 682 ≤ 7302250) (kk : TW g (iL nm) rL mc ms r M' (cells + 6) (slots + 682) 1474 [(0, tr 91 0), (1, tr 10 0), (2, tr 11 0), (3, ti q)] [] M2) : TW g (iL nm) rL mc ms r M' cells slots 828 [(0, tr 91 0), (1, tr 10 0), (2, tr 11 0), (3, ti q)] [] M := by
  have hcs1 : cells + 6 ≤ rL.cells ∧ slots + 682 ≤ rL.slots := hcs
  have hR1 : rL.cells = 600000 := rfl
  have hR2 : rL.slots = 7302250 := rfl
  refine tm_aload_n dL_law_828 rfl rfl ?_
  refine tm_callV kX10 rfl (avs := []) (st := []) (okX10_stuck hx) wcL_79.1 wcL_79.2.1 wcL_79.2.2.1 wcL_79.2.2.2 ⟨rfl, rfl, Nat.le_of_ble_eq_true rfl, Nat.le_of_ble_eq_true rfl⟩ rfl (Nat.le_of_ble_eq_true rfl) (by omega) dL_law_829 ?_
  refine tm_aload_n dL_law_832 rfl rfl ?_
  refine tm_callV kX11 rfl (avs := []) (st := [ti v]) (okX11_stuck hm) wcL_82.1 wcL_82.2.1 wcL_82.2.2.1 wcL_82.2.2.2 ⟨rfl, rfl, Nat.le_of_ble_eq_true rfl, Nat.le_of_ble_eq_true rfl⟩ rfl (Nat.le_of_ble_eq_true rfl) (by omega) dL_law_833 ?_
  refine tm_icmp_eq (tgt := 1474) dL_law_836 (by decide) (fun _ => ?_) (fun h => absurd rfl h)
  exact tm_widen (by omega) (by omega) kk
set_option maxHeartbeats 4000000 in
set_option maxRecDepth 100000 in
theorem law_c15 {g : tG} {nm : String} {mc ms cells slots : Nat} {r : Option tV} {M' M M1 M2 : tM} {q : Int32} {v : Int32} (hb1 : vp_in (q + 1) (gL g)) (hb2 : vp_in (q + 2) (gL g)) (hb3 : vp_in (q + 3) (gL g)) (hb4 : vp_in (q + 4) (gL g)) (hb5 : vp_in (q + 5) (gL g)) (hx : (fX10_lacks (gx g (q + 1).toNatClampNeg) M = some (v, M1))) (hm : (fX11_lacks (gx g (q + 1).toNatClampNeg) M1 = some (v, M2))) (hcs : cells + 6 ≤ 600000 ∧ slots + 682 ≤ 7302250) (kk : TW g (iL nm) rL mc ms r M' (cells + 6) (slots + 682) 1474 [(0, tr 91 0), (1, tr 10 0), (2, tr 11 0), (3, ti q)] [] M2) : TW g (iL nm) rL mc ms r M' cells slots 841 [(0, tr 91 0), (1, tr 10 0), (2, tr 11 0), (3, ti q)] [] M := by
  have hcs1 : cells + 6 ≤ rL.cells ∧ slots + 682 ≤ rL.slots := hcs
  have hR1 : rL.cells = 600000 := rfl
  have hR2 : rL.slots = 7302250 := rfl
  refine tm_aload_n dL_law_841 rfl rfl ?_
  refine tm_aload_n dL_law_842 rfl rfl ?_
  refine tm_iload_n dL_law_843 rfl rfl ?_
  refine tm_iconst (v := 1) dL_law_844 (by decide) ?_
  refine tm_iadd dL_law_845 ?_
  refine tm_sld dL_law_846 hb1 ?_
  refine tm_callV kX10 rfl (avs := [ti (gx g (q + 1).toNatClampNeg)]) (st := []) (okX10_lacks hx) wcL_83.1 wcL_83.2.1 wcL_83.2.2.1 wcL_83.2.2.2 ⟨rfl, rfl, Nat.le_of_ble_eq_true rfl, Nat.le_of_ble_eq_true rfl⟩ rfl (Nat.le_of_ble_eq_true rfl) (by omega) dL_law_847 ?_
  refine tm_aload_n dL_law_850 rfl rfl ?_
  refine tm_aload_n dL_law_851 rfl rfl ?_
  refine tm_iload_n dL_law_852 rfl rfl ?_
  refine tm_iconst (v := 1) dL_law_853 (by decide) ?_
  refine tm_iadd dL_law_854 ?_
  refine tm_sld dL_law_855 hb1 ?_
  refine tm_callV kX11 rfl (avs := [ti (gx g (q + 1).toNatClampNeg)]) (st := [ti v]) (okX11_lacks hm) wcL_86.1 wcL_86.2.1 wcL_86.2.2.1 wcL_86.2.2.2 ⟨rfl, rfl, Nat.le_of_ble_eq_true rfl, Nat.le_of_ble_eq_true rfl⟩ rfl (Nat.le_of_ble_eq_true rfl) (by omega) dL_law_856 ?_
  refine tm_icmp_eq (tgt := 1474) dL_law_859 (by decide) (fun _ => ?_) (fun h => absurd rfl h)
  exact tm_widen (by omega) (by omega) kk
set_option maxHeartbeats 4000000 in
set_option maxRecDepth 100000 in
theorem law_c16 {g : tG} {nm : String} {mc ms cells slots : Nat} {r : Option tV} {M' M M1 M2 : tM} {q : Int32} {v : Int32} (hb1 : vp_in (q + 1) (gL g)) (hb2 : vp_in (q + 2) (gL g)) (hb3 : vp_in (q + 3) (gL g)) (hb4 : vp_in (q + 4) (gL g)) (hb5 : vp_in (q + 5) (gL g)) (hx : (fX10_schedule (gx g (q + 1).toNatClampNeg) M = some (v, M1))) (hm : (fX11_schedule (gx g (q + 1).toNatClampNeg) M1 = some (v, M2))) (hcs : cells + 6 ≤ 600000 ∧ slots + 682 ≤ 7302250) (kk : TW g (iL nm) rL mc ms r M' (cells + 6) (slots + 682) 1474 [(0, tr 91 0), (1, tr 10 0), (2, tr 11 0), (3, ti q)] [] M2) : TW g (iL nm) rL mc ms r M' cells slots 864 [(0, tr 91 0), (1, tr 10 0), (2, tr 11 0), (3, ti q)] [] M := by
  have hcs1 : cells + 6 ≤ rL.cells ∧ slots + 682 ≤ rL.slots := hcs
  have hR1 : rL.cells = 600000 := rfl
  have hR2 : rL.slots = 7302250 := rfl
  refine tm_aload_n dL_law_864 rfl rfl ?_
  refine tm_aload_n dL_law_865 rfl rfl ?_
  refine tm_iload_n dL_law_866 rfl rfl ?_
  refine tm_iconst (v := 1) dL_law_867 (by decide) ?_
  refine tm_iadd dL_law_868 ?_
  refine tm_sld dL_law_869 hb1 ?_
  refine tm_callV kX10 rfl (avs := [ti (gx g (q + 1).toNatClampNeg)]) (st := []) (okX10_schedule hx) wcL_87.1 wcL_87.2.1 wcL_87.2.2.1 wcL_87.2.2.2 ⟨rfl, rfl, Nat.le_of_ble_eq_true rfl, Nat.le_of_ble_eq_true rfl⟩ rfl (Nat.le_of_ble_eq_true rfl) (by omega) dL_law_870 ?_
  refine tm_aload_n dL_law_873 rfl rfl ?_
  refine tm_aload_n dL_law_874 rfl rfl ?_
  refine tm_iload_n dL_law_875 rfl rfl ?_
  refine tm_iconst (v := 1) dL_law_876 (by decide) ?_
  refine tm_iadd dL_law_877 ?_
  refine tm_sld dL_law_878 hb1 ?_
  refine tm_callV kX11 rfl (avs := [ti (gx g (q + 1).toNatClampNeg)]) (st := [ti v]) (okX11_schedule hm) wcL_90.1 wcL_90.2.1 wcL_90.2.2.1 wcL_90.2.2.2 ⟨rfl, rfl, Nat.le_of_ble_eq_true rfl, Nat.le_of_ble_eq_true rfl⟩ rfl (Nat.le_of_ble_eq_true rfl) (by omega) dL_law_879 ?_
  refine tm_icmp_eq (tgt := 1474) dL_law_882 (by decide) (fun _ => ?_) (fun h => absurd rfl h)
  exact tm_widen (by omega) (by omega) kk
set_option maxHeartbeats 4000000 in
set_option maxRecDepth 100000 in
theorem law_c17 {g : tG} {nm : String} {mc ms cells slots : Nat} {r : Option tV} {M' M M1 M2 : tM} {q : Int32} {v : Int32} (hb1 : vp_in (q + 1) (gL g)) (hb2 : vp_in (q + 2) (gL g)) (hb3 : vp_in (q + 3) (gL g)) (hb4 : vp_in (q + 4) (gL g)) (hb5 : vp_in (q + 5) (gL g)) (hx : (fX10_least (gx g (q + 1).toNatClampNeg) M = some (v, M1))) (hm : (fX11_least (gx g (q + 1).toNatClampNeg) M1 = some (v, M2))) (hcs : cells + 6 ≤ 600000 ∧ slots + 682 ≤ 7302250) (kk : TW g (iL nm) rL mc ms r M' (cells + 6) (slots + 682) 1474 [(0, tr 91 0), (1, tr 10 0), (2, tr 11 0), (3, ti q)] [] M2) : TW g (iL nm) rL mc ms r M' cells slots 887 [(0, tr 91 0), (1, tr 10 0), (2, tr 11 0), (3, ti q)] [] M := by
  have hcs1 : cells + 6 ≤ rL.cells ∧ slots + 682 ≤ rL.slots := hcs
  have hR1 : rL.cells = 600000 := rfl
  have hR2 : rL.slots = 7302250 := rfl
  refine tm_aload_n dL_law_887 rfl rfl ?_
  refine tm_aload_n dL_law_888 rfl rfl ?_
  refine tm_iload_n dL_law_889 rfl rfl ?_
  refine tm_iconst (v := 1) dL_law_890 (by decide) ?_
  refine tm_iadd dL_law_891 ?_
  refine tm_sld dL_law_892 hb1 ?_
  refine tm_callV kX10 rfl (avs := [ti (gx g (q + 1).toNatClampNeg)]) (st := []) (okX10_least hx) wcL_91.1 wcL_91.2.1 wcL_91.2.2.1 wcL_91.2.2.2 ⟨rfl, rfl, Nat.le_of_ble_eq_true rfl, Nat.le_of_ble_eq_true rfl⟩ rfl (Nat.le_of_ble_eq_true rfl) (by omega) dL_law_893 ?_
  refine tm_aload_n dL_law_896 rfl rfl ?_
  refine tm_aload_n dL_law_897 rfl rfl ?_
  refine tm_iload_n dL_law_898 rfl rfl ?_
  refine tm_iconst (v := 1) dL_law_899 (by decide) ?_
  refine tm_iadd dL_law_900 ?_
  refine tm_sld dL_law_901 hb1 ?_
  refine tm_callV kX11 rfl (avs := [ti (gx g (q + 1).toNatClampNeg)]) (st := [ti v]) (okX11_least hm) wcL_94.1 wcL_94.2.1 wcL_94.2.2.1 wcL_94.2.2.2 ⟨rfl, rfl, Nat.le_of_ble_eq_true rfl, Nat.le_of_ble_eq_true rfl⟩ rfl (Nat.le_of_ble_eq_true rfl) (by omega) dL_law_902 ?_
  refine tm_icmp_eq (tgt := 1474) dL_law_905 (by decide) (fun _ => ?_) (fun h => absurd rfl h)
  exact tm_widen (by omega) (by omega) kk
set_option maxHeartbeats 4000000 in
set_option maxRecDepth 100000 in
theorem law_c18 {g : tG} {nm : String} {mc ms cells slots : Nat} {r : Option tV} {M' M : tM} {q : Int32} {v : Int32} (hb1 : vp_in (q + 1) (gL g)) (hb2 : vp_in (q + 2) (gL g)) (hb3 : vp_in (q + 3) (gL g)) (hb4 : vp_in (q + 4) (gL g)) (hb5 : vp_in (q + 5) (gL g)) (hx : (fX10_tries M = some v)) (hm : (fX11_tries M = some v)) (hcs : cells + 6 ≤ 600000 ∧ slots + 682 ≤ 7302250) (kk : TW g (iL nm) rL mc ms r M' (cells + 6) (slots + 682) 1474 [(0, tr 91 0), (1, tr 10 0), (2, tr 11 0), (3, ti q)] [] M) : TW g (iL nm) rL mc ms r M' cells slots 910 [(0, tr 91 0), (1, tr 10 0), (2, tr 11 0), (3, ti q)] [] M := by
  have hcs1 : cells + 6 ≤ rL.cells ∧ slots + 682 ≤ rL.slots := hcs
  have hR1 : rL.cells = 600000 := rfl
  have hR2 : rL.slots = 7302250 := rfl
  refine tm_aload_n dL_law_910 rfl rfl ?_
  refine tm_callV kX10 rfl (avs := []) (st := []) (okX10_tries hx) wcL_95.1 wcL_95.2.1 wcL_95.2.2.1 wcL_95.2.2.2 ⟨rfl, rfl, Nat.le_of_ble_eq_true rfl, Nat.le_of_ble_eq_true rfl⟩ rfl (Nat.le_of_ble_eq_true rfl) (by omega) dL_law_911 ?_
  refine tm_aload_n dL_law_914 rfl rfl ?_
  refine tm_callV kX11 rfl (avs := []) (st := [ti v]) (okX11_tries hm) wcL_98.1 wcL_98.2.1 wcL_98.2.2.1 wcL_98.2.2.2 ⟨rfl, rfl, Nat.le_of_ble_eq_true rfl, Nat.le_of_ble_eq_true rfl⟩ rfl (Nat.le_of_ble_eq_true rfl) (by omega) dL_law_915 ?_
  refine tm_icmp_eq (tgt := 1474) dL_law_918 (by decide) (fun _ => ?_) (fun h => absurd rfl h)
  exact tm_widen (by omega) (by omega) kk
set_option maxHeartbeats 4000000 in
set_option maxRecDepth 100000 in
theorem law_c19 {g : tG} {nm : String} {mc ms cells slots : Nat} {r : Option tV} {M' M M1 M2 : tM} {q : Int32} {v : Int32} (hb1 : vp_in (q + 1) (gL g)) (hb2 : vp_in (q + 2) (gL g)) (hb3 : vp_in (q + 3) (gL g)) (hb4 : vp_in (q + 4) (gL g)) (hb5 : vp_in (q + 5) (gL g)) (hx : (fX10_once M = some (v, M1))) (hm : (fX11_once M1 = some (v, M2))) (hcs : cells + 6 ≤ 600000 ∧ slots + 682 ≤ 7302250) (kk : TW g (iL nm) rL mc ms r M' (cells + 6) (slots + 682) 1474 [(0, tr 91 0), (1, tr 10 0), (2, tr 11 0), (3, ti q)] [] M2) : TW g (iL nm) rL mc ms r M' cells slots 923 [(0, tr 91 0), (1, tr 10 0), (2, tr 11 0), (3, ti q)] [] M := by
  have hcs1 : cells + 6 ≤ rL.cells ∧ slots + 682 ≤ rL.slots := hcs
  have hR1 : rL.cells = 600000 := rfl
  have hR2 : rL.slots = 7302250 := rfl
  refine tm_aload_n dL_law_923 rfl rfl ?_
  refine tm_callV kX10 rfl (avs := []) (st := []) (okX10_once hx) wcL_99.1 wcL_99.2.1 wcL_99.2.2.1 wcL_99.2.2.2 ⟨rfl, rfl, Nat.le_of_ble_eq_true rfl, Nat.le_of_ble_eq_true rfl⟩ rfl (Nat.le_of_ble_eq_true rfl) (by omega) dL_law_924 ?_
  refine tm_aload_n dL_law_927 rfl rfl ?_
  refine tm_callV kX11 rfl (avs := []) (st := [ti v]) (okX11_once hm) wcL_102.1 wcL_102.2.1 wcL_102.2.2.1 wcL_102.2.2.2 ⟨rfl, rfl, Nat.le_of_ble_eq_true rfl, Nat.le_of_ble_eq_true rfl⟩ rfl (Nat.le_of_ble_eq_true rfl) (by omega) dL_law_928 ?_
  refine tm_icmp_eq (tgt := 1474) dL_law_931 (by decide) (fun _ => ?_) (fun h => absurd rfl h)
  exact tm_widen (by omega) (by omega) kk
set_option maxHeartbeats 4000000 in
set_option maxRecDepth 100000 in
theorem law_c20 {g : tG} {nm : String} {mc ms cells slots : Nat} {r : Option tV} {M' M : tM} {q : Int32} {v : Int32} (hb1 : vp_in (q + 1) (gL g)) (hb2 : vp_in (q + 2) (gL g)) (hb3 : vp_in (q + 3) (gL g)) (hb4 : vp_in (q + 4) (gL g)) (hb5 : vp_in (q + 5) (gL g)) (hx : (fX10_bracket (gx g (q + 1).toNatClampNeg) M = some v)) (hm : (fX11_bracket (gx g (q + 1).toNatClampNeg) M = some v)) (hcs : cells + 6 ≤ 600000 ∧ slots + 682 ≤ 7302250) (kk : TW g (iL nm) rL mc ms r M' (cells + 6) (slots + 682) 1474 [(0, tr 91 0), (1, tr 10 0), (2, tr 11 0), (3, ti q)] [] M) : TW g (iL nm) rL mc ms r M' cells slots 936 [(0, tr 91 0), (1, tr 10 0), (2, tr 11 0), (3, ti q)] [] M := by
  have hcs1 : cells + 6 ≤ rL.cells ∧ slots + 682 ≤ rL.slots := hcs
  have hR1 : rL.cells = 600000 := rfl
  have hR2 : rL.slots = 7302250 := rfl
  refine tm_aload_n dL_law_936 rfl rfl ?_
  refine tm_aload_n dL_law_937 rfl rfl ?_
  refine tm_iload_n dL_law_938 rfl rfl ?_
  refine tm_iconst (v := 1) dL_law_939 (by decide) ?_
  refine tm_iadd dL_law_940 ?_
  refine tm_sld dL_law_941 hb1 ?_
  refine tm_callV kX10 rfl (avs := [ti (gx g (q + 1).toNatClampNeg)]) (st := []) (okX10_bracket hx) wcL_103.1 wcL_103.2.1 wcL_103.2.2.1 wcL_103.2.2.2 ⟨rfl, rfl, Nat.le_of_ble_eq_true rfl, Nat.le_of_ble_eq_true rfl⟩ rfl (Nat.le_of_ble_eq_true rfl) (by omega) dL_law_942 ?_
  refine tm_aload_n dL_law_945 rfl rfl ?_
  refine tm_aload_n dL_law_946 rfl rfl ?_
  refine tm_iload_n dL_law_947 rfl rfl ?_
  refine tm_iconst (v := 1) dL_law_948 (by decide) ?_
  refine tm_iadd dL_law_949 ?_
  refine tm_sld dL_law_950 hb1 ?_
  refine tm_callV kX11 rfl (avs := [ti (gx g (q + 1).toNatClampNeg)]) (st := [ti v]) (okX11_bracket hm) wcL_106.1 wcL_106.2.1 wcL_106.2.2.1 wcL_106.2.2.2 ⟨rfl, rfl, Nat.le_of_ble_eq_true rfl, Nat.le_of_ble_eq_true rfl⟩ rfl (Nat.le_of_ble_eq_true rfl) (by omega) dL_law_951 ?_
  refine tm_icmp_eq (tgt := 1474) dL_law_954 (by decide) (fun _ => ?_) (fun h => absurd rfl h)
  exact tm_widen (by omega) (by omega) kk
set_option maxHeartbeats 4000000 in
set_option maxRecDepth 100000 in
theorem law_c21 {g : tG} {nm : String} {mc ms cells slots : Nat} {r : Option tV} {M' M : tM} {q : Int32} {v : Int32} (hb1 : vp_in (q + 1) (gL g)) (hb2 : vp_in (q + 2) (gL g)) (hb3 : vp_in (q + 3) (gL g)) (hb4 : vp_in (q + 4) (gL g)) (hb5 : vp_in (q + 5) (gL g)) (hx : (fX10_firing (gx g (q + 1).toNatClampNeg) M = some v)) (hm : (fX11_firing (gx g (q + 1).toNatClampNeg) M = some v)) (hcs : cells + 6 ≤ 600000 ∧ slots + 682 ≤ 7302250) (kk : TW g (iL nm) rL mc ms r M' (cells + 6) (slots + 682) 1474 [(0, tr 91 0), (1, tr 10 0), (2, tr 11 0), (3, ti q)] [] M) : TW g (iL nm) rL mc ms r M' cells slots 959 [(0, tr 91 0), (1, tr 10 0), (2, tr 11 0), (3, ti q)] [] M := by
  have hcs1 : cells + 6 ≤ rL.cells ∧ slots + 682 ≤ rL.slots := hcs
  have hR1 : rL.cells = 600000 := rfl
  have hR2 : rL.slots = 7302250 := rfl
  refine tm_aload_n dL_law_959 rfl rfl ?_
  refine tm_aload_n dL_law_960 rfl rfl ?_
  refine tm_iload_n dL_law_961 rfl rfl ?_
  refine tm_iconst (v := 1) dL_law_962 (by decide) ?_
  refine tm_iadd dL_law_963 ?_
  refine tm_sld dL_law_964 hb1 ?_
  refine tm_callV kX10 rfl (avs := [ti (gx g (q + 1).toNatClampNeg)]) (st := []) (okX10_firing hx) wcL_107.1 wcL_107.2.1 wcL_107.2.2.1 wcL_107.2.2.2 ⟨rfl, rfl, Nat.le_of_ble_eq_true rfl, Nat.le_of_ble_eq_true rfl⟩ rfl (Nat.le_of_ble_eq_true rfl) (by omega) dL_law_965 ?_
  refine tm_aload_n dL_law_968 rfl rfl ?_
  refine tm_aload_n dL_law_969 rfl rfl ?_
  refine tm_iload_n dL_law_970 rfl rfl ?_
  refine tm_iconst (v := 1) dL_law_971 (by decide) ?_
  refine tm_iadd dL_law_972 ?_
  refine tm_sld dL_law_973 hb1 ?_
  refine tm_callV kX11 rfl (avs := [ti (gx g (q + 1).toNatClampNeg)]) (st := [ti v]) (okX11_firing hm) wcL_110.1 wcL_110.2.1 wcL_110.2.2.1 wcL_110.2.2.2 ⟨rfl, rfl, Nat.le_of_ble_eq_true rfl, Nat.le_of_ble_eq_true rfl⟩ rfl (Nat.le_of_ble_eq_true rfl) (by omega) dL_law_974 ?_
  refine tm_icmp_eq (tgt := 1474) dL_law_977 (by decide) (fun _ => ?_) (fun h => absurd rfl h)
  exact tm_widen (by omega) (by omega) kk
set_option maxHeartbeats 4000000 in
set_option maxRecDepth 100000 in
theorem law_c22 {g : tG} {nm : String} {mc ms cells slots : Nat} {r : Option tV} {M' M : tM} {q : Int32} {v : Int32} (hb1 : vp_in (q + 1) (gL g)) (hb2 : vp_in (q + 2) (gL g)) (hb3 : vp_in (q + 3) (gL g)) (hb4 : vp_in (q + 4) (gL g)) (hb5 : vp_in (q + 5) (gL g)) (hx : (fX10_store (gx g (q + 1).toNatClampNeg) M = some v)) (hm : (fX11_store (gx g (q + 1).toNatClampNeg) M = some v)) (hcs : cells + 6 ≤ 600000 ∧ slots + 682 ≤ 7302250) (kk : TW g (iL nm) rL mc ms r M' (cells + 6) (slots + 682) 1474 [(0, tr 91 0), (1, tr 10 0), (2, tr 11 0), (3, ti q)] [] M) : TW g (iL nm) rL mc ms r M' cells slots 982 [(0, tr 91 0), (1, tr 10 0), (2, tr 11 0), (3, ti q)] [] M := by
  have hcs1 : cells + 6 ≤ rL.cells ∧ slots + 682 ≤ rL.slots := hcs
  have hR1 : rL.cells = 600000 := rfl
  have hR2 : rL.slots = 7302250 := rfl
  refine tm_aload_n dL_law_982 rfl rfl ?_
  refine tm_aload_n dL_law_983 rfl rfl ?_
  refine tm_iload_n dL_law_984 rfl rfl ?_
  refine tm_iconst (v := 1) dL_law_985 (by decide) ?_
  refine tm_iadd dL_law_986 ?_
  refine tm_sld dL_law_987 hb1 ?_
  refine tm_callV kX10 rfl (avs := [ti (gx g (q + 1).toNatClampNeg)]) (st := []) (okX10_store hx) wcL_111.1 wcL_111.2.1 wcL_111.2.2.1 wcL_111.2.2.2 ⟨rfl, rfl, Nat.le_of_ble_eq_true rfl, Nat.le_of_ble_eq_true rfl⟩ rfl (Nat.le_of_ble_eq_true rfl) (by omega) dL_law_988 ?_
  refine tm_aload_n dL_law_991 rfl rfl ?_
  refine tm_aload_n dL_law_992 rfl rfl ?_
  refine tm_iload_n dL_law_993 rfl rfl ?_
  refine tm_iconst (v := 1) dL_law_994 (by decide) ?_
  refine tm_iadd dL_law_995 ?_
  refine tm_sld dL_law_996 hb1 ?_
  refine tm_callV kX11 rfl (avs := [ti (gx g (q + 1).toNatClampNeg)]) (st := [ti v]) (okX11_store hm) wcL_114.1 wcL_114.2.1 wcL_114.2.2.1 wcL_114.2.2.2 ⟨rfl, rfl, Nat.le_of_ble_eq_true rfl, Nat.le_of_ble_eq_true rfl⟩ rfl (Nat.le_of_ble_eq_true rfl) (by omega) dL_law_997 ?_
  refine tm_icmp_eq (tgt := 1474) dL_law_1000 (by decide) (fun _ => ?_) (fun h => absurd rfl h)
  exact tm_widen (by omega) (by omega) kk
set_option maxHeartbeats 4000000 in
set_option maxRecDepth 100000 in
theorem law_c23 {g : tG} {nm : String} {mc ms cells slots : Nat} {r : Option tV} {M' M M2 : tM} {q : Int32} {v : Int32} (hb1 : vp_in (q + 1) (gL g)) (hb2 : vp_in (q + 2) (gL g)) (hb3 : vp_in (q + 3) (gL g)) (hb4 : vp_in (q + 4) (gL g)) (hb5 : vp_in (q + 5) (gL g)) (hx : (fX10_marking (gx g (q + 1).toNatClampNeg) (gx g (q + 2).toNatClampNeg) M = some v)) (hm : (fX11_marking (gx g (q + 1).toNatClampNeg) (gx g (q + 2).toNatClampNeg) M = some (v, M2))) (hcs : cells + 6 ≤ 600000 ∧ slots + 682 ≤ 7302250) (kk : TW g (iL nm) rL mc ms r M' (cells + 6) (slots + 682) 1474 [(0, tr 91 0), (1, tr 10 0), (2, tr 11 0), (3, ti q)] [] M2) : TW g (iL nm) rL mc ms r M' cells slots 1005 [(0, tr 91 0), (1, tr 10 0), (2, tr 11 0), (3, ti q)] [] M := by
  have hcs1 : cells + 6 ≤ rL.cells ∧ slots + 682 ≤ rL.slots := hcs
  have hR1 : rL.cells = 600000 := rfl
  have hR2 : rL.slots = 7302250 := rfl
  refine tm_aload_n dL_law_1005 rfl rfl ?_
  refine tm_aload_n dL_law_1006 rfl rfl ?_
  refine tm_iload_n dL_law_1007 rfl rfl ?_
  refine tm_iconst (v := 1) dL_law_1008 (by decide) ?_
  refine tm_iadd dL_law_1009 ?_
  refine tm_sld dL_law_1010 hb1 ?_
  refine tm_aload_n dL_law_1011 rfl rfl ?_
  refine tm_iload_n dL_law_1012 rfl rfl ?_
  refine tm_iconst (v := 2) dL_law_1013 (by decide) ?_
  refine tm_iadd dL_law_1014 ?_
  refine tm_sld dL_law_1015 hb2 ?_
  refine tm_callV kX10 rfl (avs := [ti (gx g (q + 1).toNatClampNeg), ti (gx g (q + 2).toNatClampNeg)]) (st := []) (okX10_marking hx) wcL_115.1 wcL_115.2.1 wcL_115.2.2.1 wcL_115.2.2.2 ⟨rfl, rfl, Nat.le_of_ble_eq_true rfl, Nat.le_of_ble_eq_true rfl⟩ rfl (Nat.le_of_ble_eq_true rfl) (by omega) dL_law_1016 ?_
  refine tm_aload_n dL_law_1019 rfl rfl ?_
  refine tm_aload_n dL_law_1020 rfl rfl ?_
  refine tm_iload_n dL_law_1021 rfl rfl ?_
  refine tm_iconst (v := 1) dL_law_1022 (by decide) ?_
  refine tm_iadd dL_law_1023 ?_
  refine tm_sld dL_law_1024 hb1 ?_
  refine tm_aload_n dL_law_1025 rfl rfl ?_
  refine tm_iload_n dL_law_1026 rfl rfl ?_
  refine tm_iconst (v := 2) dL_law_1027 (by decide) ?_
  refine tm_iadd dL_law_1028 ?_
  refine tm_sld dL_law_1029 hb2 ?_
  refine tm_callV kX11 rfl (avs := [ti (gx g (q + 1).toNatClampNeg), ti (gx g (q + 2).toNatClampNeg)]) (st := [ti v]) (okX11_marking hm) wcL_118.1 wcL_118.2.1 wcL_118.2.2.1 wcL_118.2.2.2 ⟨rfl, rfl, Nat.le_of_ble_eq_true rfl, Nat.le_of_ble_eq_true rfl⟩ rfl (Nat.le_of_ble_eq_true rfl) (by omega) dL_law_1030 ?_
  refine tm_icmp_eq (tgt := 1474) dL_law_1033 (by decide) (fun _ => ?_) (fun h => absurd rfl h)
  exact tm_widen (by omega) (by omega) kk
set_option maxHeartbeats 4000000 in
set_option maxRecDepth 100000 in
theorem law_c24 {g : tG} {nm : String} {mc ms cells slots : Nat} {r : Option tV} {M' M M1 M2 : tM} {q : Int32} {v : Int32} (hb1 : vp_in (q + 1) (gL g)) (hb2 : vp_in (q + 2) (gL g)) (hb3 : vp_in (q + 3) (gL g)) (hb4 : vp_in (q + 4) (gL g)) (hb5 : vp_in (q + 5) (gL g)) (hx : (fX10_draft (gx g (q + 1).toNatClampNeg) M = some (v, M1))) (hm : (fX11_draft (gx g (q + 1).toNatClampNeg) M1 = some (v, M2))) (hcs : cells + 6 ≤ 600000 ∧ slots + 682 ≤ 7302250) (kk : TW g (iL nm) rL mc ms r M' (cells + 6) (slots + 682) 1474 [(0, tr 91 0), (1, tr 10 0), (2, tr 11 0), (3, ti q)] [] M2) : TW g (iL nm) rL mc ms r M' cells slots 1038 [(0, tr 91 0), (1, tr 10 0), (2, tr 11 0), (3, ti q)] [] M := by
  have hcs1 : cells + 6 ≤ rL.cells ∧ slots + 682 ≤ rL.slots := hcs
  have hR1 : rL.cells = 600000 := rfl
  have hR2 : rL.slots = 7302250 := rfl
  refine tm_aload_n dL_law_1038 rfl rfl ?_
  refine tm_aload_n dL_law_1039 rfl rfl ?_
  refine tm_iload_n dL_law_1040 rfl rfl ?_
  refine tm_iconst (v := 1) dL_law_1041 (by decide) ?_
  refine tm_iadd dL_law_1042 ?_
  refine tm_sld dL_law_1043 hb1 ?_
  refine tm_callV kX10 rfl (avs := [ti (gx g (q + 1).toNatClampNeg)]) (st := []) (okX10_draft hx) wcL_119.1 wcL_119.2.1 wcL_119.2.2.1 wcL_119.2.2.2 ⟨rfl, rfl, Nat.le_of_ble_eq_true rfl, Nat.le_of_ble_eq_true rfl⟩ rfl (Nat.le_of_ble_eq_true rfl) (by omega) dL_law_1044 ?_
  refine tm_aload_n dL_law_1047 rfl rfl ?_
  refine tm_aload_n dL_law_1048 rfl rfl ?_
  refine tm_iload_n dL_law_1049 rfl rfl ?_
  refine tm_iconst (v := 1) dL_law_1050 (by decide) ?_
  refine tm_iadd dL_law_1051 ?_
  refine tm_sld dL_law_1052 hb1 ?_
  refine tm_callV kX11 rfl (avs := [ti (gx g (q + 1).toNatClampNeg)]) (st := [ti v]) (okX11_draft hm) wcL_122.1 wcL_122.2.1 wcL_122.2.2.1 wcL_122.2.2.2 ⟨rfl, rfl, Nat.le_of_ble_eq_true rfl, Nat.le_of_ble_eq_true rfl⟩ rfl (Nat.le_of_ble_eq_true rfl) (by omega) dL_law_1053 ?_
  refine tm_icmp_eq (tgt := 1474) dL_law_1056 (by decide) (fun _ => ?_) (fun h => absurd rfl h)
  exact tm_widen (by omega) (by omega) kk
set_option maxHeartbeats 4000000 in
set_option maxRecDepth 100000 in
theorem law_c25 {g : tG} {nm : String} {mc ms cells slots : Nat} {r : Option tV} {M' M M1 M2 : tM} {q : Int32} {v : Int32} (hb1 : vp_in (q + 1) (gL g)) (hb2 : vp_in (q + 2) (gL g)) (hb3 : vp_in (q + 3) (gL g)) (hb4 : vp_in (q + 4) (gL g)) (hb5 : vp_in (q + 5) (gL g)) (hx : (fX10_check M = some (v, M1))) (hm : (fX11_check M1 = some (v, M2))) (hcs : cells + 6 ≤ 600000 ∧ slots + 682 ≤ 7302250) (kk : TW g (iL nm) rL mc ms r M' (cells + 6) (slots + 682) 1474 [(0, tr 91 0), (1, tr 10 0), (2, tr 11 0), (3, ti q)] [] M2) : TW g (iL nm) rL mc ms r M' cells slots 1061 [(0, tr 91 0), (1, tr 10 0), (2, tr 11 0), (3, ti q)] [] M := by
  have hcs1 : cells + 6 ≤ rL.cells ∧ slots + 682 ≤ rL.slots := hcs
  have hR1 : rL.cells = 600000 := rfl
  have hR2 : rL.slots = 7302250 := rfl
  refine tm_aload_n dL_law_1061 rfl rfl ?_
  refine tm_callV kX10 rfl (avs := []) (st := []) (okX10_check hx) wcL_123.1 wcL_123.2.1 wcL_123.2.2.1 wcL_123.2.2.2 ⟨rfl, rfl, Nat.le_of_ble_eq_true rfl, Nat.le_of_ble_eq_true rfl⟩ rfl (Nat.le_of_ble_eq_true rfl) (by omega) dL_law_1062 ?_
  refine tm_aload_n dL_law_1065 rfl rfl ?_
  refine tm_callV kX11 rfl (avs := []) (st := [ti v]) (okX11_check hm) wcL_126.1 wcL_126.2.1 wcL_126.2.2.1 wcL_126.2.2.2 ⟨rfl, rfl, Nat.le_of_ble_eq_true rfl, Nat.le_of_ble_eq_true rfl⟩ rfl (Nat.le_of_ble_eq_true rfl) (by omega) dL_law_1066 ?_
  refine tm_icmp_eq (tgt := 1474) dL_law_1069 (by decide) (fun _ => ?_) (fun h => absurd rfl h)
  exact tm_widen (by omega) (by omega) kk
set_option maxHeartbeats 4000000 in
set_option maxRecDepth 100000 in
theorem law_c26 {g : tG} {nm : String} {mc ms cells slots : Nat} {r : Option tV} {M' M M1 M2 : tM} {q : Int32} {v : Int32} (hb1 : vp_in (q + 1) (gL g)) (hb2 : vp_in (q + 2) (gL g)) (hb3 : vp_in (q + 3) (gL g)) (hb4 : vp_in (q + 4) (gL g)) (hb5 : vp_in (q + 5) (gL g)) (hx : (fX10_time (gx g (q + 1).toNatClampNeg) (gx g (q + 2).toNatClampNeg) M = some (v, M1))) (hm : (fX11_time (gx g (q + 1).toNatClampNeg) (gx g (q + 2).toNatClampNeg) M1 = some (v, M2))) (hcs : cells + 6 ≤ 600000 ∧ slots + 682 ≤ 7302250) (kk : TW g (iL nm) rL mc ms r M' (cells + 6) (slots + 682) 1474 [(0, tr 91 0), (1, tr 10 0), (2, tr 11 0), (3, ti q)] [] M2) : TW g (iL nm) rL mc ms r M' cells slots 1074 [(0, tr 91 0), (1, tr 10 0), (2, tr 11 0), (3, ti q)] [] M := by
  have hcs1 : cells + 6 ≤ rL.cells ∧ slots + 682 ≤ rL.slots := hcs
  have hR1 : rL.cells = 600000 := rfl
  have hR2 : rL.slots = 7302250 := rfl
  refine tm_aload_n dL_law_1074 rfl rfl ?_
  refine tm_aload_n dL_law_1075 rfl rfl ?_
  refine tm_iload_n dL_law_1076 rfl rfl ?_
  refine tm_iconst (v := 1) dL_law_1077 (by decide) ?_
  refine tm_iadd dL_law_1078 ?_
  refine tm_sld dL_law_1079 hb1 ?_
  refine tm_aload_n dL_law_1080 rfl rfl ?_
  refine tm_iload_n dL_law_1081 rfl rfl ?_
  refine tm_iconst (v := 2) dL_law_1082 (by decide) ?_
  refine tm_iadd dL_law_1083 ?_
  refine tm_sld dL_law_1084 hb2 ?_
  refine tm_callV kX10 rfl (avs := [ti (gx g (q + 1).toNatClampNeg), ti (gx g (q + 2).toNatClampNeg)]) (st := []) (okX10_time hx) wcL_127.1 wcL_127.2.1 wcL_127.2.2.1 wcL_127.2.2.2 ⟨rfl, rfl, Nat.le_of_ble_eq_true rfl, Nat.le_of_ble_eq_true rfl⟩ rfl (Nat.le_of_ble_eq_true rfl) (by omega) dL_law_1085 ?_
  refine tm_aload_n dL_law_1088 rfl rfl ?_
  refine tm_aload_n dL_law_1089 rfl rfl ?_
  refine tm_iload_n dL_law_1090 rfl rfl ?_
  refine tm_iconst (v := 1) dL_law_1091 (by decide) ?_
  refine tm_iadd dL_law_1092 ?_
  refine tm_sld dL_law_1093 hb1 ?_
  refine tm_aload_n dL_law_1094 rfl rfl ?_
  refine tm_iload_n dL_law_1095 rfl rfl ?_
  refine tm_iconst (v := 2) dL_law_1096 (by decide) ?_
  refine tm_iadd dL_law_1097 ?_
  refine tm_sld dL_law_1098 hb2 ?_
  refine tm_callV kX11 rfl (avs := [ti (gx g (q + 1).toNatClampNeg), ti (gx g (q + 2).toNatClampNeg)]) (st := [ti v]) (okX11_time hm) wcL_130.1 wcL_130.2.1 wcL_130.2.2.1 wcL_130.2.2.2 ⟨rfl, rfl, Nat.le_of_ble_eq_true rfl, Nat.le_of_ble_eq_true rfl⟩ rfl (Nat.le_of_ble_eq_true rfl) (by omega) dL_law_1099 ?_
  refine tm_icmp_eq (tgt := 1474) dL_law_1102 (by decide) (fun _ => ?_) (fun h => absurd rfl h)
  exact tm_widen (by omega) (by omega) kk
set_option maxHeartbeats 4000000 in
set_option maxRecDepth 100000 in
theorem law_c27 {g : tG} {nm : String} {mc ms cells slots : Nat} {r : Option tV} {M' M M1 M2 : tM} {q : Int32} {v : Int32} (hb1 : vp_in (q + 1) (gL g)) (hb2 : vp_in (q + 2) (gL g)) (hb3 : vp_in (q + 3) (gL g)) (hb4 : vp_in (q + 4) (gL g)) (hb5 : vp_in (q + 5) (gL g)) (hx : (fX10_beat (if (gx g (q + 1).toNatClampNeg) = 0 then 0 else 1) M = some (v, M1))) (hm : (fX11_beat (if (gx g (q + 1).toNatClampNeg) = 0 then 0 else 1) M1 = some (v, M2))) (hcs : cells + 6 ≤ 600000 ∧ slots + 682 ≤ 7302250) (kk : TW g (iL nm) rL mc ms r M' (cells + 6) (slots + 682) 1474 [(0, tr 91 0), (1, tr 10 0), (2, tr 11 0), (3, ti q)] [] M2) : TW g (iL nm) rL mc ms r M' cells slots 1107 [(0, tr 91 0), (1, tr 10 0), (2, tr 11 0), (3, ti q)] [] M := by
  have hcs1 : cells + 6 ≤ rL.cells ∧ slots + 682 ≤ rL.slots := hcs
  have hR1 : rL.cells = 600000 := rfl
  have hR2 : rL.slots = 7302250 := rfl
  by_cases hz : (gx g (q + 1).toNatClampNeg) = 0
  · rw [if_pos hz] at hx hm
    refine tm_aload_n dL_law_1107 rfl rfl ?_
    refine tm_aload_n dL_law_1108 rfl rfl ?_
    refine tm_iload_n dL_law_1109 rfl rfl ?_
    refine tm_iconst (v := 1) dL_law_1110 (by decide) ?_
    refine tm_iadd dL_law_1111 ?_
    refine tm_sld dL_law_1112 hb1 ?_
    refine tm_if_eq (tgt := 1120) dL_law_1113 (by decide) (fun _ => ?_) (fun h => absurd hz h)
    refine tm_iconst (v := 0) dL_law_1120 (by decide) ?_
    refine tm_callV kX10 rfl (avs := [ti 0]) (st := []) (okX10_beat hx) wcL_131.1 wcL_131.2.1 wcL_131.2.2.1 wcL_131.2.2.2 ⟨rfl, rfl, Nat.le_of_ble_eq_true rfl, Nat.le_of_ble_eq_true rfl⟩ rfl (Nat.le_of_ble_eq_true rfl) (by omega) dL_law_1121 ?_
    refine tm_aload_n dL_law_1124 rfl rfl ?_
    refine tm_aload_n dL_law_1125 rfl rfl ?_
    refine tm_iload_n dL_law_1126 rfl rfl ?_
    refine tm_iconst (v := 1) dL_law_1127 (by decide) ?_
    refine tm_iadd dL_law_1128 ?_
    refine tm_sld dL_law_1129 hb1 ?_
    refine tm_if_eq (tgt := 1137) dL_law_1130 (by decide) (fun _ => ?_) (fun h => absurd hz h)
    refine tm_iconst (v := 0) dL_law_1137 (by decide) ?_
    refine tm_callV kX11 rfl (avs := [ti 0]) (st := [ti v]) (okX11_beat hm) wcL_135.1 wcL_135.2.1 wcL_135.2.2.1 wcL_135.2.2.2 ⟨rfl, rfl, Nat.le_of_ble_eq_true rfl, Nat.le_of_ble_eq_true rfl⟩ rfl (Nat.le_of_ble_eq_true rfl) (by omega) dL_law_1138 ?_
    refine tm_icmp_eq (tgt := 1474) dL_law_1141 (by decide) (fun _ => ?_) (fun h => absurd rfl h)
    exact tm_widen (by omega) (by omega) kk
  · rw [if_neg hz] at hx hm
    refine tm_aload_n dL_law_1107 rfl rfl ?_
    refine tm_aload_n dL_law_1108 rfl rfl ?_
    refine tm_iload_n dL_law_1109 rfl rfl ?_
    refine tm_iconst (v := 1) dL_law_1110 (by decide) ?_
    refine tm_iadd dL_law_1111 ?_
    refine tm_sld dL_law_1112 hb1 ?_
    refine tm_if_eq (tgt := 1120) dL_law_1113 (by decide) (fun h => absurd h hz) (fun _ => ?_)
    refine tm_iconst (v := 1) dL_law_1116 (by decide) ?_
    refine tm_goto (tgt := 1121) dL_law_1117 (by decide) ?_
    refine tm_callV kX10 rfl (avs := [ti 1]) (st := []) (okX10_beat hx) wcL_131.1 wcL_131.2.1 wcL_131.2.2.1 wcL_131.2.2.2 ⟨rfl, rfl, Nat.le_of_ble_eq_true rfl, Nat.le_of_ble_eq_true rfl⟩ rfl (Nat.le_of_ble_eq_true rfl) (by omega) dL_law_1121 ?_
    refine tm_aload_n dL_law_1124 rfl rfl ?_
    refine tm_aload_n dL_law_1125 rfl rfl ?_
    refine tm_iload_n dL_law_1126 rfl rfl ?_
    refine tm_iconst (v := 1) dL_law_1127 (by decide) ?_
    refine tm_iadd dL_law_1128 ?_
    refine tm_sld dL_law_1129 hb1 ?_
    refine tm_if_eq (tgt := 1137) dL_law_1130 (by decide) (fun h => absurd h hz) (fun _ => ?_)
    refine tm_iconst (v := 1) dL_law_1133 (by decide) ?_
    refine tm_goto (tgt := 1138) dL_law_1134 (by decide) ?_
    refine tm_callV kX11 rfl (avs := [ti 1]) (st := [ti v]) (okX11_beat hm) wcL_135.1 wcL_135.2.1 wcL_135.2.2.1 wcL_135.2.2.2 ⟨rfl, rfl, Nat.le_of_ble_eq_true rfl, Nat.le_of_ble_eq_true rfl⟩ rfl (Nat.le_of_ble_eq_true rfl) (by omega) dL_law_1138 ?_
    refine tm_icmp_eq (tgt := 1474) dL_law_1141 (by decide) (fun _ => ?_) (fun h => absurd rfl h)
    exact tm_widen (by omega) (by omega) kk
set_option maxHeartbeats 4000000 in
set_option maxRecDepth 100000 in
theorem law_c28 {g : tG} {nm : String} {mc ms cells slots : Nat} {r : Option tV} {M' M : tM} {q : Int32} {v : Int32} (hb1 : vp_in (q + 1) (gL g)) (hb2 : vp_in (q + 2) (gL g)) (hb3 : vp_in (q + 3) (gL g)) (hb4 : vp_in (q + 4) (gL g)) (hb5 : vp_in (q + 5) (gL g)) (hx : (fX10_may (gx g (q + 1).toNatClampNeg) M = some v)) (hm : (fX11_may (gx g (q + 1).toNatClampNeg) M = some v)) (hcs : cells + 6 ≤ 600000 ∧ slots + 682 ≤ 7302250) (kk : TW g (iL nm) rL mc ms r M' (cells + 6) (slots + 682) 1474 [(0, tr 91 0), (1, tr 10 0), (2, tr 11 0), (3, ti q)] [] M) : TW g (iL nm) rL mc ms r M' cells slots 1146 [(0, tr 91 0), (1, tr 10 0), (2, tr 11 0), (3, ti q)] [] M := by
  have hcs1 : cells + 6 ≤ rL.cells ∧ slots + 682 ≤ rL.slots := hcs
  have hR1 : rL.cells = 600000 := rfl
  have hR2 : rL.slots = 7302250 := rfl
  refine tm_aload_n dL_law_1146 rfl rfl ?_
  refine tm_aload_n dL_law_1147 rfl rfl ?_
  refine tm_iload_n dL_law_1148 rfl rfl ?_
  refine tm_iconst (v := 1) dL_law_1149 (by decide) ?_
  refine tm_iadd dL_law_1150 ?_
  refine tm_sld dL_law_1151 hb1 ?_
  refine tm_callV kX10 rfl (avs := [ti (gx g (q + 1).toNatClampNeg)]) (st := []) (okX10_may hx) wcL_136.1 wcL_136.2.1 wcL_136.2.2.1 wcL_136.2.2.2 ⟨rfl, rfl, Nat.le_of_ble_eq_true rfl, Nat.le_of_ble_eq_true rfl⟩ rfl (Nat.le_of_ble_eq_true rfl) (by omega) dL_law_1152 ?_
  refine tm_aload_n dL_law_1155 rfl rfl ?_
  refine tm_aload_n dL_law_1156 rfl rfl ?_
  refine tm_iload_n dL_law_1157 rfl rfl ?_
  refine tm_iconst (v := 1) dL_law_1158 (by decide) ?_
  refine tm_iadd dL_law_1159 ?_
  refine tm_sld dL_law_1160 hb1 ?_
  refine tm_callV kX11 rfl (avs := [ti (gx g (q + 1).toNatClampNeg)]) (st := [ti v]) (okX11_may hm) wcL_139.1 wcL_139.2.1 wcL_139.2.2.1 wcL_139.2.2.2 ⟨rfl, rfl, Nat.le_of_ble_eq_true rfl, Nat.le_of_ble_eq_true rfl⟩ rfl (Nat.le_of_ble_eq_true rfl) (by omega) dL_law_1161 ?_
  refine tm_icmp_eq (tgt := 1474) dL_law_1164 (by decide) (fun _ => ?_) (fun h => absurd rfl h)
  exact tm_widen (by omega) (by omega) kk
set_option maxHeartbeats 4000000 in
set_option maxRecDepth 100000 in
theorem law_c29 {g : tG} {nm : String} {mc ms cells slots : Nat} {r : Option tV} {M' M M1 M2 : tM} {q : Int32} {v : Int32} (hb1 : vp_in (q + 1) (gL g)) (hb2 : vp_in (q + 2) (gL g)) (hb3 : vp_in (q + 3) (gL g)) (hb4 : vp_in (q + 4) (gL g)) (hb5 : vp_in (q + 5) (gL g)) (hx : (fX10_fire (gx g (q + 1).toNatClampNeg) M = some (v, M1))) (hm : (fX11_fire (gx g (q + 1).toNatClampNeg) M1 = some (v, M2))) (hcs : cells + 6 ≤ 600000 ∧ slots + 682 ≤ 7302250) (kk : TW g (iL nm) rL mc ms r M' (cells + 6) (slots + 682) 1474 [(0, tr 91 0), (1, tr 10 0), (2, tr 11 0), (3, ti q)] [] M2) : TW g (iL nm) rL mc ms r M' cells slots 1169 [(0, tr 91 0), (1, tr 10 0), (2, tr 11 0), (3, ti q)] [] M := by
  have hcs1 : cells + 6 ≤ rL.cells ∧ slots + 682 ≤ rL.slots := hcs
  have hR1 : rL.cells = 600000 := rfl
  have hR2 : rL.slots = 7302250 := rfl
  refine tm_aload_n dL_law_1169 rfl rfl ?_
  refine tm_aload_n dL_law_1170 rfl rfl ?_
  refine tm_iload_n dL_law_1171 rfl rfl ?_
  refine tm_iconst (v := 1) dL_law_1172 (by decide) ?_
  refine tm_iadd dL_law_1173 ?_
  refine tm_sld dL_law_1174 hb1 ?_
  refine tm_callV kX10 rfl (avs := [ti (gx g (q + 1).toNatClampNeg)]) (st := []) (okX10_fire hx) wcL_140.1 wcL_140.2.1 wcL_140.2.2.1 wcL_140.2.2.2 ⟨rfl, rfl, Nat.le_of_ble_eq_true rfl, Nat.le_of_ble_eq_true rfl⟩ rfl (Nat.le_of_ble_eq_true rfl) (by omega) dL_law_1175 ?_
  refine tm_aload_n dL_law_1178 rfl rfl ?_
  refine tm_aload_n dL_law_1179 rfl rfl ?_
  refine tm_iload_n dL_law_1180 rfl rfl ?_
  refine tm_iconst (v := 1) dL_law_1181 (by decide) ?_
  refine tm_iadd dL_law_1182 ?_
  refine tm_sld dL_law_1183 hb1 ?_
  refine tm_callV kX11 rfl (avs := [ti (gx g (q + 1).toNatClampNeg)]) (st := [ti v]) (okX11_fire hm) wcL_143.1 wcL_143.2.1 wcL_143.2.2.1 wcL_143.2.2.2 ⟨rfl, rfl, Nat.le_of_ble_eq_true rfl, Nat.le_of_ble_eq_true rfl⟩ rfl (Nat.le_of_ble_eq_true rfl) (by omega) dL_law_1184 ?_
  refine tm_icmp_eq (tgt := 1474) dL_law_1187 (by decide) (fun _ => ?_) (fun h => absurd rfl h)
  exact tm_widen (by omega) (by omega) kk
set_option maxHeartbeats 4000000 in
set_option maxRecDepth 100000 in
theorem law_c30 {g : tG} {nm : String} {mc ms cells slots : Nat} {r : Option tV} {M' M : tM} {q : Int32} {v : Int64} (hb1 : vp_in (q + 1) (gL g)) (hb2 : vp_in (q + 2) (gL g)) (hb3 : vp_in (q + 3) (gL g)) (hb4 : vp_in (q + 4) (gL g)) (hb5 : vp_in (q + 5) (gL g)) (hx : (fX10_gave M = some v)) (hm : (fX11_gave M = some v)) (hcs : cells + 6 ≤ 600000 ∧ slots + 682 ≤ 7302250) (kk : TW g (iL nm) rL mc ms r M' (cells + 6) (slots + 682) 1474 [(0, tr 91 0), (1, tr 10 0), (2, tr 11 0), (3, ti q)] [] M) : TW g (iL nm) rL mc ms r M' cells slots 1192 [(0, tr 91 0), (1, tr 10 0), (2, tr 11 0), (3, ti q)] [] M := by
  have hcs1 : cells + 6 ≤ rL.cells ∧ slots + 682 ≤ rL.slots := hcs
  have hR1 : rL.cells = 600000 := rfl
  have hR2 : rL.slots = 7302250 := rfl
  refine tm_aload_n dL_law_1192 rfl rfl ?_
  refine tm_callV kX10 rfl (avs := []) (st := []) (okX10_gave hx) wcL_144.1 wcL_144.2.1 wcL_144.2.2.1 wcL_144.2.2.2 ⟨rfl, rfl, Nat.le_of_ble_eq_true rfl, Nat.le_of_ble_eq_true rfl⟩ rfl (Nat.le_of_ble_eq_true rfl) (by omega) dL_law_1193 ?_
  refine tm_aload_n dL_law_1196 rfl rfl ?_
  refine tm_callV kX11 rfl (avs := []) (st := [tl v]) (okX11_gave hm) wcL_148.1 wcL_148.2.1 wcL_148.2.2.1 wcL_148.2.2.2 ⟨rfl, rfl, Nat.le_of_ble_eq_true rfl, Nat.le_of_ble_eq_true rfl⟩ rfl (Nat.le_of_ble_eq_true rfl) (by omega) dL_law_1197 ?_
  refine tm_lcmp dL_law_1200 ?_
  refine tm_if_eq (tgt := 1474) dL_law_1201 (by decide) (fun _ => ?_) (fun h => absurd (lg_cmp_self v) h)
  exact tm_widen (by omega) (by omega) kk
set_option maxHeartbeats 4000000 in
set_option maxRecDepth 100000 in
theorem law_c31 {g : tG} {nm : String} {mc ms cells slots : Nat} {r : Option tV} {M' M : tM} {q : Int32} {v : Int32} (hb1 : vp_in (q + 1) (gL g)) (hb2 : vp_in (q + 2) (gL g)) (hb3 : vp_in (q + 3) (gL g)) (hb4 : vp_in (q + 4) (gL g)) (hb5 : vp_in (q + 5) (gL g)) (hx : (fX10_trace (gx g (q + 1).toNatClampNeg) M = some v)) (hm : (fX11_trace (gx g (q + 1).toNatClampNeg) M = some v)) (hcs : cells + 6 ≤ 600000 ∧ slots + 682 ≤ 7302250) (kk : TW g (iL nm) rL mc ms r M' (cells + 6) (slots + 682) 1474 [(0, tr 91 0), (1, tr 10 0), (2, tr 11 0), (3, ti q)] [] M) : TW g (iL nm) rL mc ms r M' cells slots 1206 [(0, tr 91 0), (1, tr 10 0), (2, tr 11 0), (3, ti q)] [] M := by
  have hcs1 : cells + 6 ≤ rL.cells ∧ slots + 682 ≤ rL.slots := hcs
  have hR1 : rL.cells = 600000 := rfl
  have hR2 : rL.slots = 7302250 := rfl
  refine tm_aload_n dL_law_1206 rfl rfl ?_
  refine tm_aload_n dL_law_1207 rfl rfl ?_
  refine tm_iload_n dL_law_1208 rfl rfl ?_
  refine tm_iconst (v := 1) dL_law_1209 (by decide) ?_
  refine tm_iadd dL_law_1210 ?_
  refine tm_sld dL_law_1211 hb1 ?_
  refine tm_callV kX10 rfl (avs := [ti (gx g (q + 1).toNatClampNeg)]) (st := []) (okX10_trace hx) wcL_149.1 wcL_149.2.1 wcL_149.2.2.1 wcL_149.2.2.2 ⟨rfl, rfl, Nat.le_of_ble_eq_true rfl, Nat.le_of_ble_eq_true rfl⟩ rfl (Nat.le_of_ble_eq_true rfl) (by omega) dL_law_1212 ?_
  refine tm_aload_n dL_law_1215 rfl rfl ?_
  refine tm_aload_n dL_law_1216 rfl rfl ?_
  refine tm_iload_n dL_law_1217 rfl rfl ?_
  refine tm_iconst (v := 1) dL_law_1218 (by decide) ?_
  refine tm_iadd dL_law_1219 ?_
  refine tm_sld dL_law_1220 hb1 ?_
  refine tm_callV kX11 rfl (avs := [ti (gx g (q + 1).toNatClampNeg)]) (st := [ti v]) (okX11_trace hm) wcL_152.1 wcL_152.2.1 wcL_152.2.2.1 wcL_152.2.2.2 ⟨rfl, rfl, Nat.le_of_ble_eq_true rfl, Nat.le_of_ble_eq_true rfl⟩ rfl (Nat.le_of_ble_eq_true rfl) (by omega) dL_law_1221 ?_
  refine tm_icmp_eq (tgt := 1474) dL_law_1224 (by decide) (fun _ => ?_) (fun h => absurd rfl h)
  exact tm_widen (by omega) (by omega) kk
set_option maxHeartbeats 4000000 in
set_option maxRecDepth 100000 in
theorem law_c32 {g : tG} {nm : String} {mc ms cells slots : Nat} {r : Option tV} {M' M M1 M2 : tM} {q : Int32} {v : Int32} (hb1 : vp_in (q + 1) (gL g)) (hb2 : vp_in (q + 2) (gL g)) (hb3 : vp_in (q + 3) (gL g)) (hb4 : vp_in (q + 4) (gL g)) (hb5 : vp_in (q + 5) (gL g)) (hx : (fX10_deal (gx g (q + 1).toNatClampNeg) (gx g (q + 2).toNatClampNeg) M = some (v, M1))) (hm : (fX11_deal (gx g (q + 1).toNatClampNeg) (gx g (q + 2).toNatClampNeg) M1 = some (v, M2))) (hcs : cells + 6 ≤ 600000 ∧ slots + 682 ≤ 7302250) (kk : TW g (iL nm) rL mc ms r M' (cells + 6) (slots + 682) 1474 [(0, tr 91 0), (1, tr 10 0), (2, tr 11 0), (3, ti q)] [] M2) : TW g (iL nm) rL mc ms r M' cells slots 1229 [(0, tr 91 0), (1, tr 10 0), (2, tr 11 0), (3, ti q)] [] M := by
  have hcs1 : cells + 6 ≤ rL.cells ∧ slots + 682 ≤ rL.slots := hcs
  have hR1 : rL.cells = 600000 := rfl
  have hR2 : rL.slots = 7302250 := rfl
  refine tm_aload_n dL_law_1229 rfl rfl ?_
  refine tm_aload_n dL_law_1230 rfl rfl ?_
  refine tm_iload_n dL_law_1231 rfl rfl ?_
  refine tm_iconst (v := 1) dL_law_1232 (by decide) ?_
  refine tm_iadd dL_law_1233 ?_
  refine tm_sld dL_law_1234 hb1 ?_
  refine tm_aload_n dL_law_1235 rfl rfl ?_
  refine tm_iload_n dL_law_1236 rfl rfl ?_
  refine tm_iconst (v := 2) dL_law_1237 (by decide) ?_
  refine tm_iadd dL_law_1238 ?_
  refine tm_sld dL_law_1239 hb2 ?_
  refine tm_callV kX10 rfl (avs := [ti (gx g (q + 1).toNatClampNeg), ti (gx g (q + 2).toNatClampNeg)]) (st := []) (okX10_deal hx) wcL_153.1 wcL_153.2.1 wcL_153.2.2.1 wcL_153.2.2.2 ⟨rfl, rfl, Nat.le_of_ble_eq_true rfl, Nat.le_of_ble_eq_true rfl⟩ rfl (Nat.le_of_ble_eq_true rfl) (by omega) dL_law_1240 ?_
  refine tm_aload_n dL_law_1243 rfl rfl ?_
  refine tm_aload_n dL_law_1244 rfl rfl ?_
  refine tm_iload_n dL_law_1245 rfl rfl ?_
  refine tm_iconst (v := 1) dL_law_1246 (by decide) ?_
  refine tm_iadd dL_law_1247 ?_
  refine tm_sld dL_law_1248 hb1 ?_
  refine tm_aload_n dL_law_1249 rfl rfl ?_
  refine tm_iload_n dL_law_1250 rfl rfl ?_
  refine tm_iconst (v := 2) dL_law_1251 (by decide) ?_
  refine tm_iadd dL_law_1252 ?_
  refine tm_sld dL_law_1253 hb2 ?_
  refine tm_callV kX11 rfl (avs := [ti (gx g (q + 1).toNatClampNeg), ti (gx g (q + 2).toNatClampNeg)]) (st := [ti v]) (okX11_deal hm) wcL_156.1 wcL_156.2.1 wcL_156.2.2.1 wcL_156.2.2.2 ⟨rfl, rfl, Nat.le_of_ble_eq_true rfl, Nat.le_of_ble_eq_true rfl⟩ rfl (Nat.le_of_ble_eq_true rfl) (by omega) dL_law_1254 ?_
  refine tm_icmp_eq (tgt := 1474) dL_law_1257 (by decide) (fun _ => ?_) (fun h => absurd rfl h)
  exact tm_widen (by omega) (by omega) kk
set_option maxHeartbeats 4000000 in
set_option maxRecDepth 100000 in
theorem law_c33 {g : tG} {nm : String} {mc ms cells slots : Nat} {r : Option tV} {M' M M1 M2 : tM} {q : Int32} {v : Int32} (hb1 : vp_in (q + 1) (gL g)) (hb2 : vp_in (q + 2) (gL g)) (hb3 : vp_in (q + 3) (gL g)) (hb4 : vp_in (q + 4) (gL g)) (hb5 : vp_in (q + 5) (gL g)) (hx : (fX10_go (gx g (q + 1).toNatClampNeg) M = some (v, M1))) (hm : (fX11_go (gx g (q + 1).toNatClampNeg) M1 = some (v, M2))) (hcs : cells + 6 ≤ 600000 ∧ slots + 682 ≤ 7302250) (kk : TW g (iL nm) rL mc ms r M' (cells + 6) (slots + 682) 1474 [(0, tr 91 0), (1, tr 10 0), (2, tr 11 0), (3, ti q)] [] M2) : TW g (iL nm) rL mc ms r M' cells slots 1262 [(0, tr 91 0), (1, tr 10 0), (2, tr 11 0), (3, ti q)] [] M := by
  have hcs1 : cells + 6 ≤ rL.cells ∧ slots + 682 ≤ rL.slots := hcs
  have hR1 : rL.cells = 600000 := rfl
  have hR2 : rL.slots = 7302250 := rfl
  refine tm_aload_n dL_law_1262 rfl rfl ?_
  refine tm_aload_n dL_law_1263 rfl rfl ?_
  refine tm_iload_n dL_law_1264 rfl rfl ?_
  refine tm_iconst (v := 1) dL_law_1265 (by decide) ?_
  refine tm_iadd dL_law_1266 ?_
  refine tm_sld dL_law_1267 hb1 ?_
  refine tm_callV kX10 rfl (avs := [ti (gx g (q + 1).toNatClampNeg)]) (st := []) (okX10_go hx) wcL_157.1 wcL_157.2.1 wcL_157.2.2.1 wcL_157.2.2.2 ⟨rfl, rfl, Nat.le_of_ble_eq_true rfl, Nat.le_of_ble_eq_true rfl⟩ rfl (Nat.le_of_ble_eq_true rfl) (by omega) dL_law_1268 ?_
  refine tm_aload_n dL_law_1271 rfl rfl ?_
  refine tm_aload_n dL_law_1272 rfl rfl ?_
  refine tm_iload_n dL_law_1273 rfl rfl ?_
  refine tm_iconst (v := 1) dL_law_1274 (by decide) ?_
  refine tm_iadd dL_law_1275 ?_
  refine tm_sld dL_law_1276 hb1 ?_
  refine tm_callV kX11 rfl (avs := [ti (gx g (q + 1).toNatClampNeg)]) (st := [ti v]) (okX11_go hm) wcL_160.1 wcL_160.2.1 wcL_160.2.2.1 wcL_160.2.2.2 ⟨rfl, rfl, Nat.le_of_ble_eq_true rfl, Nat.le_of_ble_eq_true rfl⟩ rfl (Nat.le_of_ble_eq_true rfl) (by omega) dL_law_1277 ?_
  refine tm_icmp_eq (tgt := 1474) dL_law_1280 (by decide) (fun _ => ?_) (fun h => absurd rfl h)
  exact tm_widen (by omega) (by omega) kk
set_option maxHeartbeats 4000000 in
set_option maxRecDepth 100000 in
theorem law_c34 {g : tG} {nm : String} {mc ms cells slots : Nat} {r : Option tV} {M' M M1 M2 : tM} {q : Int32} {v : Int32} (hb1 : vp_in (q + 1) (gL g)) (hb2 : vp_in (q + 2) (gL g)) (hb3 : vp_in (q + 3) (gL g)) (hb4 : vp_in (q + 4) (gL g)) (hb5 : vp_in (q + 5) (gL g)) (hx : (fX10_reset M = some (v, M1))) (hm : (fX11_reset M1 = some (v, M2))) (hcs : cells + 6 ≤ 600000 ∧ slots + 682 ≤ 7302250) (kk : TW g (iL nm) rL mc ms r M' (cells + 6) (slots + 682) 1474 [(0, tr 91 0), (1, tr 10 0), (2, tr 11 0), (3, ti q)] [] M2) : TW g (iL nm) rL mc ms r M' cells slots 1285 [(0, tr 91 0), (1, tr 10 0), (2, tr 11 0), (3, ti q)] [] M := by
  have hcs1 : cells + 6 ≤ rL.cells ∧ slots + 682 ≤ rL.slots := hcs
  have hR1 : rL.cells = 600000 := rfl
  have hR2 : rL.slots = 7302250 := rfl
  refine tm_aload_n dL_law_1285 rfl rfl ?_
  refine tm_callV kX10 rfl (avs := []) (st := []) (okX10_reset hx) wcL_161.1 wcL_161.2.1 wcL_161.2.2.1 wcL_161.2.2.2 ⟨rfl, rfl, Nat.le_of_ble_eq_true rfl, Nat.le_of_ble_eq_true rfl⟩ rfl (Nat.le_of_ble_eq_true rfl) (by omega) dL_law_1286 ?_
  refine tm_aload_n dL_law_1289 rfl rfl ?_
  refine tm_callV kX11 rfl (avs := []) (st := [ti v]) (okX11_reset hm) wcL_164.1 wcL_164.2.1 wcL_164.2.2.1 wcL_164.2.2.2 ⟨rfl, rfl, Nat.le_of_ble_eq_true rfl, Nat.le_of_ble_eq_true rfl⟩ rfl (Nat.le_of_ble_eq_true rfl) (by omega) dL_law_1290 ?_
  refine tm_icmp_eq (tgt := 1474) dL_law_1293 (by decide) (fun _ => ?_) (fun h => absurd rfl h)
  exact tm_widen (by omega) (by omega) kk
set_option maxHeartbeats 4000000 in
set_option maxRecDepth 100000 in
theorem law_c35 {g : tG} {nm : String} {mc ms cells slots : Nat} {r : Option tV} {M' M : tM} {q : Int32} {v : Int32} (hb1 : vp_in (q + 1) (gL g)) (hb2 : vp_in (q + 2) (gL g)) (hb3 : vp_in (q + 3) (gL g)) (hb4 : vp_in (q + 4) (gL g)) (hb5 : vp_in (q + 5) (gL g)) (hx : (fX10_things (gx g (q + 1).toNatClampNeg) M = some v)) (hm : (fX11_things (gx g (q + 1).toNatClampNeg) M = some v)) (hcs : cells + 6 ≤ 600000 ∧ slots + 682 ≤ 7302250) (kk : TW g (iL nm) rL mc ms r M' (cells + 6) (slots + 682) 1474 [(0, tr 91 0), (1, tr 10 0), (2, tr 11 0), (3, ti q)] [] M) : TW g (iL nm) rL mc ms r M' cells slots 1298 [(0, tr 91 0), (1, tr 10 0), (2, tr 11 0), (3, ti q)] [] M := by
  have hcs1 : cells + 6 ≤ rL.cells ∧ slots + 682 ≤ rL.slots := hcs
  have hR1 : rL.cells = 600000 := rfl
  have hR2 : rL.slots = 7302250 := rfl
  refine tm_aload_n dL_law_1298 rfl rfl ?_
  refine tm_aload_n dL_law_1299 rfl rfl ?_
  refine tm_iload_n dL_law_1300 rfl rfl ?_
  refine tm_iconst (v := 1) dL_law_1301 (by decide) ?_
  refine tm_iadd dL_law_1302 ?_
  refine tm_sld dL_law_1303 hb1 ?_
  refine tm_callV kX10 rfl (avs := [ti (gx g (q + 1).toNatClampNeg)]) (st := []) (okX10_things hx) wcL_165.1 wcL_165.2.1 wcL_165.2.2.1 wcL_165.2.2.2 ⟨rfl, rfl, Nat.le_of_ble_eq_true rfl, Nat.le_of_ble_eq_true rfl⟩ rfl (Nat.le_of_ble_eq_true rfl) (by omega) dL_law_1304 ?_
  refine tm_aload_n dL_law_1307 rfl rfl ?_
  refine tm_aload_n dL_law_1308 rfl rfl ?_
  refine tm_iload_n dL_law_1309 rfl rfl ?_
  refine tm_iconst (v := 1) dL_law_1310 (by decide) ?_
  refine tm_iadd dL_law_1311 ?_
  refine tm_sld dL_law_1312 hb1 ?_
  refine tm_callV kX11 rfl (avs := [ti (gx g (q + 1).toNatClampNeg)]) (st := [ti v]) (okX11_things hm) wcL_168.1 wcL_168.2.1 wcL_168.2.2.1 wcL_168.2.2.2 ⟨rfl, rfl, Nat.le_of_ble_eq_true rfl, Nat.le_of_ble_eq_true rfl⟩ rfl (Nat.le_of_ble_eq_true rfl) (by omega) dL_law_1313 ?_
  refine tm_icmp_eq (tgt := 1474) dL_law_1316 (by decide) (fun _ => ?_) (fun h => absurd rfl h)
  exact tm_widen (by omega) (by omega) kk
set_option maxHeartbeats 4000000 in
set_option maxRecDepth 100000 in
theorem law_c36 {g : tG} {nm : String} {mc ms cells slots : Nat} {r : Option tV} {M' M M1 M2 : tM} {q : Int32} {v : Int32} (hb1 : vp_in (q + 1) (gL g)) (hb2 : vp_in (q + 2) (gL g)) (hb3 : vp_in (q + 3) (gL g)) (hb4 : vp_in (q + 4) (gL g)) (hb5 : vp_in (q + 5) (gL g)) (hx : (fX10_look (gx g (q + 1).toNatClampNeg) (gx g (q + 2).toNatClampNeg) M = some (v, M1))) (hm : (fX11_look (gx g (q + 1).toNatClampNeg) (gx g (q + 2).toNatClampNeg) M1 = some (v, M2))) (hcs : cells + 6 ≤ 600000 ∧ slots + 682 ≤ 7302250) (kk : TW g (iL nm) rL mc ms r M' (cells + 6) (slots + 682) 1474 [(0, tr 91 0), (1, tr 10 0), (2, tr 11 0), (3, ti q)] [] M2) : TW g (iL nm) rL mc ms r M' cells slots 1321 [(0, tr 91 0), (1, tr 10 0), (2, tr 11 0), (3, ti q)] [] M := by
  have hcs1 : cells + 6 ≤ rL.cells ∧ slots + 682 ≤ rL.slots := hcs
  have hR1 : rL.cells = 600000 := rfl
  have hR2 : rL.slots = 7302250 := rfl
  refine tm_aload_n dL_law_1321 rfl rfl ?_
  refine tm_aload_n dL_law_1322 rfl rfl ?_
  refine tm_iload_n dL_law_1323 rfl rfl ?_
  refine tm_iconst (v := 1) dL_law_1324 (by decide) ?_
  refine tm_iadd dL_law_1325 ?_
  refine tm_sld dL_law_1326 hb1 ?_
  refine tm_aload_n dL_law_1327 rfl rfl ?_
  refine tm_iload_n dL_law_1328 rfl rfl ?_
  refine tm_iconst (v := 2) dL_law_1329 (by decide) ?_
  refine tm_iadd dL_law_1330 ?_
  refine tm_sld dL_law_1331 hb2 ?_
  refine tm_callV kX10 rfl (avs := [ti (gx g (q + 1).toNatClampNeg), ti (gx g (q + 2).toNatClampNeg)]) (st := []) (okX10_look hx) wcL_169.1 wcL_169.2.1 wcL_169.2.2.1 wcL_169.2.2.2 ⟨rfl, rfl, Nat.le_of_ble_eq_true rfl, Nat.le_of_ble_eq_true rfl⟩ rfl (Nat.le_of_ble_eq_true rfl) (by omega) dL_law_1332 ?_
  refine tm_aload_n dL_law_1335 rfl rfl ?_
  refine tm_aload_n dL_law_1336 rfl rfl ?_
  refine tm_iload_n dL_law_1337 rfl rfl ?_
  refine tm_iconst (v := 1) dL_law_1338 (by decide) ?_
  refine tm_iadd dL_law_1339 ?_
  refine tm_sld dL_law_1340 hb1 ?_
  refine tm_aload_n dL_law_1341 rfl rfl ?_
  refine tm_iload_n dL_law_1342 rfl rfl ?_
  refine tm_iconst (v := 2) dL_law_1343 (by decide) ?_
  refine tm_iadd dL_law_1344 ?_
  refine tm_sld dL_law_1345 hb2 ?_
  refine tm_callV kX11 rfl (avs := [ti (gx g (q + 1).toNatClampNeg), ti (gx g (q + 2).toNatClampNeg)]) (st := [ti v]) (okX11_look hm) wcL_172.1 wcL_172.2.1 wcL_172.2.2.1 wcL_172.2.2.2 ⟨rfl, rfl, Nat.le_of_ble_eq_true rfl, Nat.le_of_ble_eq_true rfl⟩ rfl (Nat.le_of_ble_eq_true rfl) (by omega) dL_law_1346 ?_
  refine tm_icmp_eq (tgt := 1474) dL_law_1349 (by decide) (fun _ => ?_) (fun h => absurd rfl h)
  exact tm_widen (by omega) (by omega) kk
set_option maxHeartbeats 4000000 in
set_option maxRecDepth 100000 in
theorem law_c37 {g : tG} {nm : String} {mc ms cells slots : Nat} {r : Option tV} {M' M M1 M2 : tM} {q : Int32} {v : Int32} (hb1 : vp_in (q + 1) (gL g)) (hb2 : vp_in (q + 2) (gL g)) (hb3 : vp_in (q + 3) (gL g)) (hb4 : vp_in (q + 4) (gL g)) (hb5 : vp_in (q + 5) (gL g)) (hx : (fX10_given (gx g (q + 1).toNatClampNeg) (gx g (q + 2).toNatClampNeg) M = some (v, M1))) (hm : (fX11_given (gx g (q + 1).toNatClampNeg) (gx g (q + 2).toNatClampNeg) M1 = some (v, M2))) (hcs : cells + 6 ≤ 600000 ∧ slots + 682 ≤ 7302250) (kk : TW g (iL nm) rL mc ms r M' (cells + 6) (slots + 682) 1474 [(0, tr 91 0), (1, tr 10 0), (2, tr 11 0), (3, ti q)] [] M2) : TW g (iL nm) rL mc ms r M' cells slots 1354 [(0, tr 91 0), (1, tr 10 0), (2, tr 11 0), (3, ti q)] [] M := by
  have hcs1 : cells + 6 ≤ rL.cells ∧ slots + 682 ≤ rL.slots := hcs
  have hR1 : rL.cells = 600000 := rfl
  have hR2 : rL.slots = 7302250 := rfl
  refine tm_aload_n dL_law_1354 rfl rfl ?_
  refine tm_aload_n dL_law_1355 rfl rfl ?_
  refine tm_iload_n dL_law_1356 rfl rfl ?_
  refine tm_iconst (v := 1) dL_law_1357 (by decide) ?_
  refine tm_iadd dL_law_1358 ?_
  refine tm_sld dL_law_1359 hb1 ?_
  refine tm_aload_n dL_law_1360 rfl rfl ?_
  refine tm_iload_n dL_law_1361 rfl rfl ?_
  refine tm_iconst (v := 2) dL_law_1362 (by decide) ?_
  refine tm_iadd dL_law_1363 ?_
  refine tm_sld dL_law_1364 hb2 ?_
  refine tm_callV kX10 rfl (avs := [ti (gx g (q + 1).toNatClampNeg), ti (gx g (q + 2).toNatClampNeg)]) (st := []) (okX10_given hx) wcL_173.1 wcL_173.2.1 wcL_173.2.2.1 wcL_173.2.2.2 ⟨rfl, rfl, Nat.le_of_ble_eq_true rfl, Nat.le_of_ble_eq_true rfl⟩ rfl (Nat.le_of_ble_eq_true rfl) (by omega) dL_law_1365 ?_
  refine tm_aload_n dL_law_1368 rfl rfl ?_
  refine tm_aload_n dL_law_1369 rfl rfl ?_
  refine tm_iload_n dL_law_1370 rfl rfl ?_
  refine tm_iconst (v := 1) dL_law_1371 (by decide) ?_
  refine tm_iadd dL_law_1372 ?_
  refine tm_sld dL_law_1373 hb1 ?_
  refine tm_aload_n dL_law_1374 rfl rfl ?_
  refine tm_iload_n dL_law_1375 rfl rfl ?_
  refine tm_iconst (v := 2) dL_law_1376 (by decide) ?_
  refine tm_iadd dL_law_1377 ?_
  refine tm_sld dL_law_1378 hb2 ?_
  refine tm_callV kX11 rfl (avs := [ti (gx g (q + 1).toNatClampNeg), ti (gx g (q + 2).toNatClampNeg)]) (st := [ti v]) (okX11_given hm) wcL_176.1 wcL_176.2.1 wcL_176.2.2.1 wcL_176.2.2.2 ⟨rfl, rfl, Nat.le_of_ble_eq_true rfl, Nat.le_of_ble_eq_true rfl⟩ rfl (Nat.le_of_ble_eq_true rfl) (by omega) dL_law_1379 ?_
  refine tm_icmp_eq (tgt := 1474) dL_law_1382 (by decide) (fun _ => ?_) (fun h => absurd rfl h)
  exact tm_widen (by omega) (by omega) kk
set_option maxHeartbeats 4000000 in
set_option maxRecDepth 100000 in
theorem law_c38 {g : tG} {nm : String} {mc ms cells slots : Nat} {r : Option tV} {M' M : tM} {q : Int32} {v : Int64} (hb1 : vp_in (q + 1) (gL g)) (hb2 : vp_in (q + 2) (gL g)) (hb3 : vp_in (q + 3) (gL g)) (hb4 : vp_in (q + 4) (gL g)) (hb5 : vp_in (q + 5) (gL g)) (hx : (fX10_asked M = some v)) (hm : (fX11_asked M = some v)) (hcs : cells + 6 ≤ 600000 ∧ slots + 682 ≤ 7302250) (kk : TW g (iL nm) rL mc ms r M' (cells + 6) (slots + 682) 1474 [(0, tr 91 0), (1, tr 10 0), (2, tr 11 0), (3, ti q)] [] M) : TW g (iL nm) rL mc ms r M' cells slots 1387 [(0, tr 91 0), (1, tr 10 0), (2, tr 11 0), (3, ti q)] [] M := by
  have hcs1 : cells + 6 ≤ rL.cells ∧ slots + 682 ≤ rL.slots := hcs
  have hR1 : rL.cells = 600000 := rfl
  have hR2 : rL.slots = 7302250 := rfl
  refine tm_aload_n dL_law_1387 rfl rfl ?_
  refine tm_callV kX10 rfl (avs := []) (st := []) (okX10_asked hx) wcL_177.1 wcL_177.2.1 wcL_177.2.2.1 wcL_177.2.2.2 ⟨rfl, rfl, Nat.le_of_ble_eq_true rfl, Nat.le_of_ble_eq_true rfl⟩ rfl (Nat.le_of_ble_eq_true rfl) (by omega) dL_law_1388 ?_
  refine tm_aload_n dL_law_1391 rfl rfl ?_
  refine tm_callV kX11 rfl (avs := []) (st := [tl v]) (okX11_asked hm) wcL_180.1 wcL_180.2.1 wcL_180.2.2.1 wcL_180.2.2.2 ⟨rfl, rfl, Nat.le_of_ble_eq_true rfl, Nat.le_of_ble_eq_true rfl⟩ rfl (Nat.le_of_ble_eq_true rfl) (by omega) dL_law_1392 ?_
  refine tm_lcmp dL_law_1395 ?_
  refine tm_if_eq (tgt := 1474) dL_law_1396 (by decide) (fun _ => ?_) (fun h => absurd (lg_cmp_self v) h)
  exact tm_widen (by omega) (by omega) kk
set_option maxHeartbeats 4000000 in
set_option maxRecDepth 100000 in
theorem law_c39 {g : tG} {nm : String} {mc ms cells slots : Nat} {r : Option tV} {M' M : tM} {q : Int32} {v : Int32} (hb1 : vp_in (q + 1) (gL g)) (hb2 : vp_in (q + 2) (gL g)) (hb3 : vp_in (q + 3) (gL g)) (hb4 : vp_in (q + 4) (gL g)) (hb5 : vp_in (q + 5) (gL g)) (hx : (fX10_many (gx g (q + 1).toNatClampNeg) M = some v)) (hm : (fX11_many (gx g (q + 1).toNatClampNeg) M = some v)) (hcs : cells + 6 ≤ 600000 ∧ slots + 682 ≤ 7302250) (kk : TW g (iL nm) rL mc ms r M' (cells + 6) (slots + 682) 1474 [(0, tr 91 0), (1, tr 10 0), (2, tr 11 0), (3, ti q)] [] M) : TW g (iL nm) rL mc ms r M' cells slots 1401 [(0, tr 91 0), (1, tr 10 0), (2, tr 11 0), (3, ti q)] [] M := by
  have hcs1 : cells + 6 ≤ rL.cells ∧ slots + 682 ≤ rL.slots := hcs
  have hR1 : rL.cells = 600000 := rfl
  have hR2 : rL.slots = 7302250 := rfl
  refine tm_aload_n dL_law_1401 rfl rfl ?_
  refine tm_aload_n dL_law_1402 rfl rfl ?_
  refine tm_iload_n dL_law_1403 rfl rfl ?_
  refine tm_iconst (v := 1) dL_law_1404 (by decide) ?_
  refine tm_iadd dL_law_1405 ?_
  refine tm_sld dL_law_1406 hb1 ?_
  refine tm_callV kX10 rfl (avs := [ti (gx g (q + 1).toNatClampNeg)]) (st := []) (okX10_many hx) wcL_181.1 wcL_181.2.1 wcL_181.2.2.1 wcL_181.2.2.2 ⟨rfl, rfl, Nat.le_of_ble_eq_true rfl, Nat.le_of_ble_eq_true rfl⟩ rfl (Nat.le_of_ble_eq_true rfl) (by omega) dL_law_1407 ?_
  refine tm_aload_n dL_law_1410 rfl rfl ?_
  refine tm_aload_n dL_law_1411 rfl rfl ?_
  refine tm_iload_n dL_law_1412 rfl rfl ?_
  refine tm_iconst (v := 1) dL_law_1413 (by decide) ?_
  refine tm_iadd dL_law_1414 ?_
  refine tm_sld dL_law_1415 hb1 ?_
  refine tm_callV kX11 rfl (avs := [ti (gx g (q + 1).toNatClampNeg)]) (st := [ti v]) (okX11_many hm) wcL_184.1 wcL_184.2.1 wcL_184.2.2.1 wcL_184.2.2.2 ⟨rfl, rfl, Nat.le_of_ble_eq_true rfl, Nat.le_of_ble_eq_true rfl⟩ rfl (Nat.le_of_ble_eq_true rfl) (by omega) dL_law_1416 ?_
  refine tm_icmp_eq (tgt := 1474) dL_law_1419 (by decide) (fun _ => ?_) (fun h => absurd rfl h)
  exact tm_widen (by omega) (by omega) kk
set_option maxHeartbeats 4000000 in
set_option maxRecDepth 100000 in
theorem law_c40 {g : tG} {nm : String} {mc ms cells slots : Nat} {r : Option tV} {M' M : tM} {q : Int32} {v : Int32} (hb1 : vp_in (q + 1) (gL g)) (hb2 : vp_in (q + 2) (gL g)) (hb3 : vp_in (q + 3) (gL g)) (hb4 : vp_in (q + 4) (gL g)) (hb5 : vp_in (q + 5) (gL g)) (hx : (fX10_finding M = some v)) (hm : (fX11_finding M = some v)) (hcs : cells + 6 ≤ 600000 ∧ slots + 682 ≤ 7302250) (kk : TW g (iL nm) rL mc ms r M' (cells + 6) (slots + 682) 1474 [(0, tr 91 0), (1, tr 10 0), (2, tr 11 0), (3, ti q)] [] M) : TW g (iL nm) rL mc ms r M' cells slots 1424 [(0, tr 91 0), (1, tr 10 0), (2, tr 11 0), (3, ti q)] [] M := by
  have hcs1 : cells + 6 ≤ rL.cells ∧ slots + 682 ≤ rL.slots := hcs
  have hR1 : rL.cells = 600000 := rfl
  have hR2 : rL.slots = 7302250 := rfl
  refine tm_aload_n dL_law_1424 rfl rfl ?_
  refine tm_callV kX10 rfl (avs := []) (st := []) (okX10_finding hx) wcL_185.1 wcL_185.2.1 wcL_185.2.2.1 wcL_185.2.2.2 ⟨rfl, rfl, Nat.le_of_ble_eq_true rfl, Nat.le_of_ble_eq_true rfl⟩ rfl (Nat.le_of_ble_eq_true rfl) (by omega) dL_law_1425 ?_
  refine tm_aload_n dL_law_1428 rfl rfl ?_
  refine tm_callV kX11 rfl (avs := []) (st := [ti v]) (okX11_finding hm) wcL_188.1 wcL_188.2.1 wcL_188.2.2.1 wcL_188.2.2.2 ⟨rfl, rfl, Nat.le_of_ble_eq_true rfl, Nat.le_of_ble_eq_true rfl⟩ rfl (Nat.le_of_ble_eq_true rfl) (by omega) dL_law_1429 ?_
  refine tm_icmp_eq (tgt := 1474) dL_law_1432 (by decide) (fun _ => ?_) (fun h => absurd rfl h)
  exact tm_widen (by omega) (by omega) kk
set_option maxHeartbeats 4000000 in
set_option maxRecDepth 100000 in
theorem law_c41 {g : tG} {nm : String} {mc ms cells slots : Nat} {r : Option tV} {M' M : tM} {q : Int32} {v : Int32} (hb1 : vp_in (q + 1) (gL g)) (hb2 : vp_in (q + 2) (gL g)) (hb3 : vp_in (q + 3) (gL g)) (hb4 : vp_in (q + 4) (gL g)) (hb5 : vp_in (q + 5) (gL g)) (hx : (fX10_findings (gx g (q + 1).toNatClampNeg) M = some v)) (hm : (fX11_findings (gx g (q + 1).toNatClampNeg) M = some v)) (hcs : cells + 6 ≤ 600000 ∧ slots + 682 ≤ 7302250) (kk : TW g (iL nm) rL mc ms r M' (cells + 6) (slots + 682) 1474 [(0, tr 91 0), (1, tr 10 0), (2, tr 11 0), (3, ti q)] [] M) : TW g (iL nm) rL mc ms r M' cells slots 1437 [(0, tr 91 0), (1, tr 10 0), (2, tr 11 0), (3, ti q)] [] M := by
  have hcs1 : cells + 6 ≤ rL.cells ∧ slots + 682 ≤ rL.slots := hcs
  have hR1 : rL.cells = 600000 := rfl
  have hR2 : rL.slots = 7302250 := rfl
  refine tm_aload_n dL_law_1437 rfl rfl ?_
  refine tm_aload_n dL_law_1438 rfl rfl ?_
  refine tm_iload_n dL_law_1439 rfl rfl ?_
  refine tm_iconst (v := 1) dL_law_1440 (by decide) ?_
  refine tm_iadd dL_law_1441 ?_
  refine tm_sld dL_law_1442 hb1 ?_
  refine tm_callV kX10 rfl (avs := [ti (gx g (q + 1).toNatClampNeg)]) (st := []) (okX10_findings hx) wcL_189.1 wcL_189.2.1 wcL_189.2.2.1 wcL_189.2.2.2 ⟨rfl, rfl, Nat.le_of_ble_eq_true rfl, Nat.le_of_ble_eq_true rfl⟩ rfl (Nat.le_of_ble_eq_true rfl) (by omega) dL_law_1443 ?_
  refine tm_aload_n dL_law_1446 rfl rfl ?_
  refine tm_aload_n dL_law_1447 rfl rfl ?_
  refine tm_iload_n dL_law_1448 rfl rfl ?_
  refine tm_iconst (v := 1) dL_law_1449 (by decide) ?_
  refine tm_iadd dL_law_1450 ?_
  refine tm_sld dL_law_1451 hb1 ?_
  refine tm_callV kX11 rfl (avs := [ti (gx g (q + 1).toNatClampNeg)]) (st := [ti v]) (okX11_findings hm) wcL_192.1 wcL_192.2.1 wcL_192.2.2.1 wcL_192.2.2.2 ⟨rfl, rfl, Nat.le_of_ble_eq_true rfl, Nat.le_of_ble_eq_true rfl⟩ rfl (Nat.le_of_ble_eq_true rfl) (by omega) dL_law_1452 ?_
  refine tm_icmp_eq (tgt := 1474) dL_law_1455 (by decide) (fun _ => ?_) (fun h => absurd rfl h)
  exact tm_widen (by omega) (by omega) kk
set_option maxHeartbeats 4000000 in
set_option maxRecDepth 100000 in
theorem law_c42 {g : tG} {nm : String} {mc ms cells slots : Nat} {r : Option tV} {M' M : tM} {q : Int32} {v : Int64} (hb1 : vp_in (q + 1) (gL g)) (hb2 : vp_in (q + 2) (gL g)) (hb3 : vp_in (q + 3) (gL g)) (hb4 : vp_in (q + 4) (gL g)) (hb5 : vp_in (q + 5) (gL g)) (hx : (fX10_digest M = some v)) (hm : (fX11_digest M = some v)) (hcs : cells + 6 ≤ 600000 ∧ slots + 682 ≤ 7302250) (kk : TW g (iL nm) rL mc ms r M' (cells + 6) (slots + 682) 1474 [(0, tr 91 0), (1, tr 10 0), (2, tr 11 0), (3, ti q)] [] M) : TW g (iL nm) rL mc ms r M' cells slots 1460 [(0, tr 91 0), (1, tr 10 0), (2, tr 11 0), (3, ti q)] [] M := by
  have hcs1 : cells + 6 ≤ rL.cells ∧ slots + 682 ≤ rL.slots := hcs
  have hR1 : rL.cells = 600000 := rfl
  have hR2 : rL.slots = 7302250 := rfl
  refine tm_aload_n dL_law_1460 rfl rfl ?_
  refine tm_callV kX10 rfl (avs := []) (st := []) (okX10_digest hx) wcL_193.1 wcL_193.2.1 wcL_193.2.2.1 wcL_193.2.2.2 ⟨rfl, rfl, Nat.le_of_ble_eq_true rfl, Nat.le_of_ble_eq_true rfl⟩ rfl (Nat.le_of_ble_eq_true rfl) (by omega) dL_law_1461 ?_
  refine tm_aload_n dL_law_1464 rfl rfl ?_
  refine tm_callV kX11 rfl (avs := []) (st := [tl v]) (okX11_digest hm) wcL_196.1 wcL_196.2.1 wcL_196.2.2.1 wcL_196.2.2.2 ⟨rfl, rfl, Nat.le_of_ble_eq_true rfl, Nat.le_of_ble_eq_true rfl⟩ rfl (Nat.le_of_ble_eq_true rfl) (by omega) dL_law_1465 ?_
  refine tm_lcmp dL_law_1468 ?_
  refine tm_if_eq (tgt := 1474) dL_law_1469 (by decide) (fun _ => ?_) (fun h => absurd (lg_cmp_self v) h)
  exact tm_widen (by omega) (by omega) kk
