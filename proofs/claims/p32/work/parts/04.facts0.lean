def xmd (j : Nat) : Bool := decide ((xy j).cls = xcn (xow j)) && (plainName (xy j).cls || Nat.beq j xJmax || Nat.beq j xJmin) && decide ((xy j).cls ≠ "java/lang/invoke/MethodHandle") && decide ((xy j).cls ≠ "java/lang/invoke/VarHandle") && decide ((parseMethodDescriptor (xy j).desc).map (fun d => d.parameters.length) = some (bif Nat.beq (xki j) 0 then xna j else xna j - 1)) && Nat.ble (xml j) 24 && (Nat.beq (xki j) 0 || Nat.blt 0 (xna j))
/-- what the tables say of a method -/
def xmf (j : Nat) : Prop := Cond.code (xy j) (xcode j) (xml j) (xrt j) ∈ xALL ∧ Cond.initialized (xy j).cls ∈ xALL ∧ (xki j = 0 → Cond.static (xy j) ∈ xALL) ∧ (xki j = 1 → Cond.instanceMethod (xy j) ∈ xALL ∧ Cond.selects (xy j).cls (xy j) (xy j) ∈ xALL) ∧ (xki j = 2 → Cond.instanceMethod (xy j) ∈ xALL ∧ (xy j).name = "<init>" ∧ xrt j = none) ∧
  xmd j = true

set_option maxRecDepth 20000 in
theorem xm0 : xmf 0 := ⟨xin 184 rfl rfl, xin 12 rfl rfl, fun h => absurd h (by decide), fun h => absurd h (by decide), fun _ => ⟨xin 183 rfl rfl, rfl, rfl⟩, by decide +kernel⟩
set_option maxRecDepth 20000 in
theorem xm1 : xmf 1 := ⟨xin 621 rfl rfl, xin 12 rfl rfl, fun h => absurd h (by decide), fun _ => ⟨xin 619 rfl rfl, xin 620 rfl rfl⟩, fun h => absurd h (by decide), by decide +kernel⟩
set_option maxRecDepth 20000 in
theorem xm2 : xmf 2 := ⟨xin 627 rfl rfl, xin 12 rfl rfl, fun h => absurd h (by decide), fun _ => ⟨xin 625 rfl rfl, xin 626 rfl rfl⟩, fun h => absurd h (by decide), by decide +kernel⟩
set_option maxRecDepth 20000 in
theorem xm3 : xmf 3 := ⟨xin 658 rfl rfl, xin 12 rfl rfl, fun h => absurd h (by decide), fun _ => ⟨xin 656 rfl rfl, xin 657 rfl rfl⟩, fun h => absurd h (by decide), by decide +kernel⟩
set_option maxRecDepth 20000 in
theorem xm4 : xmf 4 := ⟨xin 654 rfl rfl, xin 12 rfl rfl, fun h => absurd h (by decide), fun _ => ⟨xin 652 rfl rfl, xin 653 rfl rfl⟩, fun h => absurd h (by decide), by decide +kernel⟩
set_option maxRecDepth 20000 in
theorem xm5 : xmf 5 := ⟨xin 715 rfl rfl, xin 12 rfl rfl, fun h => absurd h (by decide), fun _ => ⟨xin 713 rfl rfl, xin 714 rfl rfl⟩, fun h => absurd h (by decide), by decide +kernel⟩
set_option maxRecDepth 20000 in
theorem xm6 : xmf 6 := ⟨xin 141 rfl rfl, xin 10 rfl rfl, fun h => absurd h (by decide), fun h => absurd h (by decide), fun _ => ⟨xin 140 rfl rfl, rfl, rfl⟩, by decide +kernel⟩
set_option maxRecDepth 20000 in
theorem xm7 : xmf 7 := ⟨xin 589 rfl rfl, xin 10 rfl rfl, fun h => absurd h (by decide), fun _ => ⟨xin 587 rfl rfl, xin 588 rfl rfl⟩, fun h => absurd h (by decide), by decide +kernel⟩
set_option maxRecDepth 20000 in
theorem xm8 : xmf 8 := ⟨xin 594 rfl rfl, xin 10 rfl rfl, fun h => absurd h (by decide), fun _ => ⟨xin 592 rfl rfl, xin 593 rfl rfl⟩, fun h => absurd h (by decide), by decide +kernel⟩
set_option maxRecDepth 20000 in
theorem xm9 : xmf 9 := ⟨xin 617 rfl rfl, xin 10 rfl rfl, fun h => absurd h (by decide), fun _ => ⟨xin 615 rfl rfl, xin 616 rfl rfl⟩, fun h => absurd h (by decide), by decide +kernel⟩
set_option maxRecDepth 20000 in
theorem xm10 : xmf 10 := ⟨xin 681 rfl rfl, xin 10 rfl rfl, fun h => absurd h (by decide), fun _ => ⟨xin 679 rfl rfl, xin 680 rfl rfl⟩, fun h => absurd h (by decide), by decide +kernel⟩
set_option maxRecDepth 20000 in
theorem xm11 : xmf 11 := ⟨xin 685 rfl rfl, xin 10 rfl rfl, fun h => absurd h (by decide), fun _ => ⟨xin 683 rfl rfl, xin 684 rfl rfl⟩, fun h => absurd h (by decide), by decide +kernel⟩
set_option maxRecDepth 20000 in
theorem xm12 : xmf 12 := ⟨xin 902 rfl rfl, xin 10 rfl rfl, fun h => absurd h (by decide), fun _ => ⟨xin 900 rfl rfl, xin 901 rfl rfl⟩, fun h => absurd h (by decide), by decide +kernel⟩
set_option maxRecDepth 20000 in
theorem xm13 : xmf 13 := ⟨xin 612 rfl rfl, xin 10 rfl rfl, fun h => absurd h (by decide), fun _ => ⟨xin 610 rfl rfl, xin 611 rfl rfl⟩, fun h => absurd h (by decide), by decide +kernel⟩
set_option maxRecDepth 20000 in
theorem xm14 : xmf 14 := ⟨xin 907 rfl rfl, xin 10 rfl rfl, fun h => absurd h (by decide), fun _ => ⟨xin 905 rfl rfl, xin 906 rfl rfl⟩, fun h => absurd h (by decide), by decide +kernel⟩
set_option maxRecDepth 20000 in
theorem xm15 : xmf 15 := ⟨xin 911 rfl rfl, xin 10 rfl rfl, fun h => absurd h (by decide), fun _ => ⟨xin 909 rfl rfl, xin 910 rfl rfl⟩, fun h => absurd h (by decide), by decide +kernel⟩
set_option maxRecDepth 20000 in
theorem xm16 : xmf 16 := ⟨xin 926 rfl rfl, xin 10 rfl rfl, fun h => absurd h (by decide), fun _ => ⟨xin 924 rfl rfl, xin 925 rfl rfl⟩, fun h => absurd h (by decide), by decide +kernel⟩
set_option maxRecDepth 20000 in
theorem xm17 : xmf 17 := ⟨xin 931 rfl rfl, xin 10 rfl rfl, fun h => absurd h (by decide), fun _ => ⟨xin 929 rfl rfl, xin 930 rfl rfl⟩, fun h => absurd h (by decide), by decide +kernel⟩
set_option maxRecDepth 20000 in
theorem xm18 : xmf 18 := ⟨xin 237 rfl rfl, xin 14 rfl rfl, fun h => absurd h (by decide), fun h => absurd h (by decide), fun _ => ⟨xin 236 rfl rfl, rfl, rfl⟩, by decide +kernel⟩
set_option maxRecDepth 20000 in
theorem xm19 : xmf 19 := ⟨xin 689 rfl rfl, xin 14 rfl rfl, fun h => absurd h (by decide), fun _ => ⟨xin 687 rfl rfl, xin 688 rfl rfl⟩, fun h => absurd h (by decide), by decide +kernel⟩
set_option maxRecDepth 20000 in
theorem xm20 : xmf 20 := ⟨xin 697 rfl rfl, xin 14 rfl rfl, fun h => absurd h (by decide), fun _ => ⟨xin 695 rfl rfl, xin 696 rfl rfl⟩, fun h => absurd h (by decide), by decide +kernel⟩
set_option maxRecDepth 20000 in
theorem xm21 : xmf 21 := ⟨xin 700 rfl rfl, xin 14 rfl rfl, fun _ => xin 699 rfl rfl, fun h => absurd h (by decide), fun h => absurd h (by decide), by decide +kernel⟩
set_option maxRecDepth 20000 in
theorem xm22 : xmf 22 := ⟨xin 711 rfl rfl, xin 14 rfl rfl, fun _ => xin 710 rfl rfl, fun h => absurd h (by decide), fun h => absurd h (by decide), by decide +kernel⟩
set_option maxRecDepth 20000 in
theorem xm23 : xmf 23 := ⟨xin 42 rfl rfl, xin 8 rfl rfl, fun h => absurd h (by decide), fun h => absurd h (by decide), fun _ => ⟨xin 41 rfl rfl, rfl, rfl⟩, by decide +kernel⟩
set_option maxRecDepth 20000 in
theorem xm24 : xmf 24 := ⟨xin 452 rfl rfl, xin 8 rfl rfl, fun h => absurd h (by decide), fun _ => ⟨xin 450 rfl rfl, xin 451 rfl rfl⟩, fun h => absurd h (by decide), by decide +kernel⟩
set_option maxRecDepth 20000 in
theorem xm25 : xmf 25 := ⟨xin 467 rfl rfl, xin 8 rfl rfl, fun h => absurd h (by decide), fun _ => ⟨xin 465 rfl rfl, xin 466 rfl rfl⟩, fun h => absurd h (by decide), by decide +kernel⟩
set_option maxRecDepth 20000 in
theorem xm26 : xmf 26 := ⟨xin 535 rfl rfl, xin 8 rfl rfl, fun h => absurd h (by decide), fun _ => ⟨xin 533 rfl rfl, xin 534 rfl rfl⟩, fun h => absurd h (by decide), by decide +kernel⟩
set_option maxRecDepth 20000 in
theorem xm27 : xmf 27 := ⟨xin 546 rfl rfl, xin 8 rfl rfl, fun h => absurd h (by decide), fun _ => ⟨xin 544 rfl rfl, xin 545 rfl rfl⟩, fun h => absurd h (by decide), by decide +kernel⟩
set_option maxRecDepth 20000 in
theorem xm28 : xmf 28 := ⟨xin 513 rfl rfl, xin 8 rfl rfl, fun h => absurd h (by decide), fun _ => ⟨xin 511 rfl rfl, xin 512 rfl rfl⟩, fun h => absurd h (by decide), by decide +kernel⟩
set_option maxRecDepth 20000 in
theorem xm29 : xmf 29 := ⟨xin 517 rfl rfl, xin 8 rfl rfl, fun h => absurd h (by decide), fun _ => ⟨xin 515 rfl rfl, xin 516 rfl rfl⟩, fun h => absurd h (by decide), by decide +kernel⟩
set_option maxRecDepth 20000 in
theorem xm30 : xmf 30 := ⟨xin 571 rfl rfl, xin 8 rfl rfl, fun h => absurd h (by decide), fun _ => ⟨xin 569 rfl rfl, xin 570 rfl rfl⟩, fun h => absurd h (by decide), by decide +kernel⟩
set_option maxRecDepth 20000 in
theorem xm31 : xmf 31 := ⟨xin 436 rfl rfl, xin 8 rfl rfl, fun h => absurd h (by decide), fun _ => ⟨xin 434 rfl rfl, xin 435 rfl rfl⟩, fun h => absurd h (by decide), by decide +kernel⟩
set_option maxRecDepth 20000 in
theorem xm32 : xmf 32 := ⟨xin 476 rfl rfl, xin 8 rfl rfl, fun h => absurd h (by decide), fun _ => ⟨xin 474 rfl rfl, xin 475 rfl rfl⟩, fun h => absurd h (by decide), by decide +kernel⟩
set_option maxRecDepth 20000 in
theorem xm33 : xmf 33 := ⟨xin 463 rfl rfl, xin 8 rfl rfl, fun h => absurd h (by decide), fun _ => ⟨xin 461 rfl rfl, xin 462 rfl rfl⟩, fun h => absurd h (by decide), by decide +kernel⟩
set_option maxRecDepth 20000 in
theorem xm34 : xmf 34 := ⟨xin 501 rfl rfl, xin 8 rfl rfl, fun h => absurd h (by decide), fun _ => ⟨xin 499 rfl rfl, xin 500 rfl rfl⟩, fun h => absurd h (by decide), by decide +kernel⟩
set_option maxRecDepth 20000 in
theorem xm35 : xmf 35 := ⟨xin 509 rfl rfl, xin 8 rfl rfl, fun h => absurd h (by decide), fun _ => ⟨xin 507 rfl rfl, xin 508 rfl rfl⟩, fun h => absurd h (by decide), by decide +kernel⟩
set_option maxRecDepth 20000 in
theorem xm36 : xmf 36 := ⟨xin 531 rfl rfl, xin 8 rfl rfl, fun h => absurd h (by decide), fun _ => ⟨xin 529 rfl rfl, xin 530 rfl rfl⟩, fun h => absurd h (by decide), by decide +kernel⟩
set_option maxRecDepth 20000 in
theorem xm37 : xmf 37 := ⟨xin 551 rfl rfl, xin 8 rfl rfl, fun h => absurd h (by decide), fun _ => ⟨xin 549 rfl rfl, xin 550 rfl rfl⟩, fun h => absurd h (by decide), by decide +kernel⟩
set_option maxRecDepth 20000 in
theorem xm38 : xmf 38 := ⟨xin 121 rfl rfl, xin 9 rfl rfl, fun h => absurd h (by decide), fun h => absurd h (by decide), fun _ => ⟨xin 120 rfl rfl, rfl, rfl⟩, by decide +kernel⟩
set_option maxRecDepth 20000 in
theorem xm39 : xmf 39 := ⟨xin 493 rfl rfl, xin 9 rfl rfl, fun h => absurd h (by decide), fun _ => ⟨xin 491 rfl rfl, xin 492 rfl rfl⟩, fun h => absurd h (by decide), by decide +kernel⟩
set_option maxRecDepth 20000 in
theorem xm40 : xmf 40 := ⟨xin 563 rfl rfl, xin 9 rfl rfl, fun h => absurd h (by decide), fun _ => ⟨xin 561 rfl rfl, xin 562 rfl rfl⟩, fun h => absurd h (by decide), by decide +kernel⟩
set_option maxRecDepth 20000 in
theorem xm41 : xmf 41 := ⟨xin 480 rfl rfl, xin 9 rfl rfl, fun h => absurd h (by decide), fun _ => ⟨xin 478 rfl rfl, xin 479 rfl rfl⟩, fun h => absurd h (by decide), by decide +kernel⟩
set_option maxRecDepth 20000 in
theorem xm42 : xmf 42 := ⟨xin 209 rfl rfl, xin 13 rfl rfl, fun h => absurd h (by decide), fun h => absurd h (by decide), fun _ => ⟨xin 208 rfl rfl, rfl, rfl⟩, by decide +kernel⟩
set_option maxRecDepth 20000 in
theorem xm43 : xmf 43 := ⟨xin 632 rfl rfl, xin 13 rfl rfl, fun h => absurd h (by decide), fun _ => ⟨xin 630 rfl rfl, xin 631 rfl rfl⟩, fun h => absurd h (by decide), by decide +kernel⟩
set_option maxRecDepth 20000 in
theorem xm44 : xmf 44 := ⟨xin 638 rfl rfl, xin 13 rfl rfl, fun h => absurd h (by decide), fun _ => ⟨xin 636 rfl rfl, xin 637 rfl rfl⟩, fun h => absurd h (by decide), by decide +kernel⟩
set_option maxRecDepth 20000 in
theorem xm45 : xmf 45 := ⟨xin 645 rfl rfl, xin 13 rfl rfl, fun h => absurd h (by decide), fun _ => ⟨xin 643 rfl rfl, xin 644 rfl rfl⟩, fun h => absurd h (by decide), by decide +kernel⟩
set_option maxRecDepth 20000 in
theorem xm46 : xmf 46 := ⟨xin 649 rfl rfl, xin 13 rfl rfl, fun h => absurd h (by decide), fun _ => ⟨xin 647 rfl rfl, xin 648 rfl rfl⟩, fun h => absurd h (by decide), by decide +kernel⟩
set_option maxRecDepth 20000 in
theorem xm47 : xmf 47 := ⟨xin 784 rfl rfl, xin 13 rfl rfl, fun h => absurd h (by decide), fun _ => ⟨xin 782 rfl rfl, xin 783 rfl rfl⟩, fun h => absurd h (by decide), by decide +kernel⟩
set_option maxRecDepth 20000 in
theorem xm48 : xmf 48 := ⟨xin 943 rfl rfl, xin 13 rfl rfl, fun h => absurd h (by decide), fun _ => ⟨xin 941 rfl rfl, xin 942 rfl rfl⟩, fun h => absurd h (by decide), by decide +kernel⟩
set_option maxRecDepth 20000 in
theorem xm49 : xmf 49 := ⟨xin 947 rfl rfl, xin 13 rfl rfl, fun h => absurd h (by decide), fun _ => ⟨xin 945 rfl rfl, xin 946 rfl rfl⟩, fun h => absurd h (by decide), by decide +kernel⟩
set_option maxRecDepth 20000 in
theorem xm50 : xmf 50 := ⟨xin 951 rfl rfl, xin 13 rfl rfl, fun h => absurd h (by decide), fun _ => ⟨xin 949 rfl rfl, xin 950 rfl rfl⟩, fun h => absurd h (by decide), by decide +kernel⟩
set_option maxRecDepth 20000 in
theorem xm51 : xmf 51 := ⟨xin 737 rfl rfl, xin 13 rfl rfl, fun h => absurd h (by decide), fun _ => ⟨xin 735 rfl rfl, xin 736 rfl rfl⟩, fun h => absurd h (by decide), by decide +kernel⟩
set_option maxRecDepth 20000 in
theorem xm52 : xmf 52 := ⟨xin 733 rfl rfl, xin 13 rfl rfl, fun h => absurd h (by decide), fun _ => ⟨xin 731 rfl rfl, xin 732 rfl rfl⟩, fun h => absurd h (by decide), by decide +kernel⟩
set_option maxRecDepth 20000 in
theorem xm53 : xmf 53 := ⟨xin 761 rfl rfl, xin 13 rfl rfl, fun h => absurd h (by decide), fun _ => ⟨xin 759 rfl rfl, xin 760 rfl rfl⟩, fun h => absurd h (by decide), by decide +kernel⟩
set_option maxRecDepth 20000 in
theorem xm54 : xmf 54 := ⟨xin 729 rfl rfl, xin 13 rfl rfl, fun h => absurd h (by decide), fun _ => ⟨xin 727 rfl rfl, xin 728 rfl rfl⟩, fun h => absurd h (by decide), by decide +kernel⟩
set_option maxRecDepth 20000 in
theorem xm55 : xmf 55 := ⟨xin 960 rfl rfl, xin 13 rfl rfl, fun h => absurd h (by decide), fun _ => ⟨xin 958 rfl rfl, xin 959 rfl rfl⟩, fun h => absurd h (by decide), by decide +kernel⟩
set_option maxRecDepth 20000 in
theorem xm56 : xmf 56 := ⟨xin 956 rfl rfl, xin 13 rfl rfl, fun h => absurd h (by decide), fun _ => ⟨xin 954 rfl rfl, xin 955 rfl rfl⟩, fun h => absurd h (by decide), by decide +kernel⟩
set_option maxRecDepth 20000 in
theorem xm57 : xmf 57 := ⟨xin 765 rfl rfl, xin 13 rfl rfl, fun h => absurd h (by decide), fun _ => ⟨xin 763 rfl rfl, xin 764 rfl rfl⟩, fun h => absurd h (by decide), by decide +kernel⟩
set_option maxRecDepth 20000 in
theorem xm58 : xmf 58 := ⟨xin 769 rfl rfl, xin 13 rfl rfl, fun h => absurd h (by decide), fun _ => ⟨xin 767 rfl rfl, xin 768 rfl rfl⟩, fun h => absurd h (by decide), by decide +kernel⟩
set_option maxRecDepth 20000 in
theorem xm59 : xmf 59 := ⟨xin 973 rfl rfl, xin 13 rfl rfl, fun h => absurd h (by decide), fun _ => ⟨xin 971 rfl rfl, xin 972 rfl rfl⟩, fun h => absurd h (by decide), by decide +kernel⟩
set_option maxRecDepth 20000 in
theorem xm60 : xmf 60 := ⟨xin 977 rfl rfl, xin 13 rfl rfl, fun h => absurd h (by decide), fun _ => ⟨xin 975 rfl rfl, xin 976 rfl rfl⟩, fun h => absurd h (by decide), by decide +kernel⟩
set_option maxRecDepth 20000 in
theorem xm61 : xmf 61 := ⟨xin 773 rfl rfl, xin 13 rfl rfl, fun h => absurd h (by decide), fun _ => ⟨xin 771 rfl rfl, xin 772 rfl rfl⟩, fun h => absurd h (by decide), by decide +kernel⟩
set_option maxRecDepth 20000 in
theorem xm62 : xmf 62 := ⟨xin 776 rfl rfl, xin 13 rfl rfl, fun _ => xin 775 rfl rfl, fun h => absurd h (by decide), fun h => absurd h (by decide), by decide +kernel⟩
set_option maxRecDepth 20000 in
theorem xm63 : xmf 63 := ⟨xin 780 rfl rfl, xin 13 rfl rfl, fun h => absurd h (by decide), fun _ => ⟨xin 778 rfl rfl, xin 779 rfl rfl⟩, fun h => absurd h (by decide), by decide +kernel⟩
set_option maxRecDepth 20000 in
theorem xm64 : xmf 64 := ⟨xin 147 rfl rfl, xin 11 rfl rfl, fun h => absurd h (by decide), fun h => absurd h (by decide), fun _ => ⟨xin 146 rfl rfl, rfl, rfl⟩, by decide +kernel⟩
set_option maxRecDepth 20000 in
theorem xm65 : xmf 65 := ⟨xin 918 rfl rfl, xin 11 rfl rfl, fun _ => xin 917 rfl rfl, fun h => absurd h (by decide), fun h => absurd h (by decide), by decide +kernel⟩
set_option maxRecDepth 20000 in
theorem xm66 : xmf 66 := ⟨xin 598 rfl rfl, xin 11 rfl rfl, fun h => absurd h (by decide), fun _ => ⟨xin 596 rfl rfl, xin 597 rfl rfl⟩, fun h => absurd h (by decide), by decide +kernel⟩
set_option maxRecDepth 20000 in
theorem xm67 : xmf 67 := ⟨xin 606 rfl rfl, xin 11 rfl rfl, fun h => absurd h (by decide), fun _ => ⟨xin 604 rfl rfl, xin 605 rfl rfl⟩, fun h => absurd h (by decide), by decide +kernel⟩
set_option maxRecDepth 20000 in
theorem xm68 : xmf 68 := ⟨xin 602 rfl rfl, xin 11 rfl rfl, fun h => absurd h (by decide), fun _ => ⟨xin 600 rfl rfl, xin 601 rfl rfl⟩, fun h => absurd h (by decide), by decide +kernel⟩
set_option maxRecDepth 20000 in
theorem xm69 : xmf 69 := ⟨xin 36 rfl rfl, xin 7 rfl rfl, fun h => absurd h (by decide), fun h => absurd h (by decide), fun _ => ⟨xin 35 rfl rfl, rfl, rfl⟩, by decide +kernel⟩
set_option maxRecDepth 20000 in
theorem xm70 : xmf 70 := ⟨xin 871 rfl rfl, xin 7 rfl rfl, fun h => absurd h (by decide), fun _ => ⟨xin 869 rfl rfl, xin 870 rfl rfl⟩, fun h => absurd h (by decide), by decide +kernel⟩
set_option maxRecDepth 20000 in
theorem xm71 : xmf 71 := ⟨xin 875 rfl rfl, xin 7 rfl rfl, fun h => absurd h (by decide), fun _ => ⟨xin 873 rfl rfl, xin 874 rfl rfl⟩, fun h => absurd h (by decide), by decide +kernel⟩
set_option maxRecDepth 20000 in
theorem xm72 : xmf 72 := ⟨xin 323 rfl rfl, xin 7 rfl rfl, fun h => absurd h (by decide), fun _ => ⟨xin 321 rfl rfl, xin 322 rfl rfl⟩, fun h => absurd h (by decide), by decide +kernel⟩
set_option maxRecDepth 20000 in
theorem xm73 : xmf 73 := ⟨xin 418 rfl rfl, xin 7 rfl rfl, fun h => absurd h (by decide), fun _ => ⟨xin 416 rfl rfl, xin 417 rfl rfl⟩, fun h => absurd h (by decide), by decide +kernel⟩
set_option maxRecDepth 20000 in
theorem xm74 : xmf 74 := ⟨xin 327 rfl rfl, xin 7 rfl rfl, fun h => absurd h (by decide), fun _ => ⟨xin 325 rfl rfl, xin 326 rfl rfl⟩, fun h => absurd h (by decide), by decide +kernel⟩
set_option maxRecDepth 20000 in
theorem xm75 : xmf 75 := ⟨xin 422 rfl rfl, xin 7 rfl rfl, fun h => absurd h (by decide), fun _ => ⟨xin 420 rfl rfl, xin 421 rfl rfl⟩, fun h => absurd h (by decide), by decide +kernel⟩
set_option maxRecDepth 20000 in
theorem xm76 : xmf 76 := ⟨xin 414 rfl rfl, xin 7 rfl rfl, fun _ => xin 413 rfl rfl, fun h => absurd h (by decide), fun h => absurd h (by decide), by decide +kernel⟩
set_option maxRecDepth 20000 in
theorem xm77 : xmf 77 := ⟨xin 331 rfl rfl, xin 7 rfl rfl, fun h => absurd h (by decide), fun _ => ⟨xin 329 rfl rfl, xin 330 rfl rfl⟩, fun h => absurd h (by decide), by decide +kernel⟩
set_option maxRecDepth 20000 in
theorem xm78 : xmf 78 := ⟨xin 343 rfl rfl, xin 7 rfl rfl, fun h => absurd h (by decide), fun _ => ⟨xin 341 rfl rfl, xin 342 rfl rfl⟩, fun h => absurd h (by decide), by decide +kernel⟩
set_option maxRecDepth 20000 in
theorem xm79 : xmf 79 := ⟨xin 351 rfl rfl, xin 7 rfl rfl, fun h => absurd h (by decide), fun _ => ⟨xin 349 rfl rfl, xin 350 rfl rfl⟩, fun h => absurd h (by decide), by decide +kernel⟩
set_option maxRecDepth 20000 in
theorem xm80 : xmf 80 := ⟨xin 356 rfl rfl, xin 7 rfl rfl, fun h => absurd h (by decide), fun _ => ⟨xin 354 rfl rfl, xin 355 rfl rfl⟩, fun h => absurd h (by decide), by decide +kernel⟩
set_option maxRecDepth 20000 in
theorem xm81 : xmf 81 := ⟨xin 339 rfl rfl, xin 7 rfl rfl, fun h => absurd h (by decide), fun _ => ⟨xin 337 rfl rfl, xin 338 rfl rfl⟩, fun h => absurd h (by decide), by decide +kernel⟩
set_option maxRecDepth 20000 in
theorem xm82 : xmf 82 := ⟨xin 335 rfl rfl, xin 7 rfl rfl, fun h => absurd h (by decide), fun _ => ⟨xin 333 rfl rfl, xin 334 rfl rfl⟩, fun h => absurd h (by decide), by decide +kernel⟩
set_option maxRecDepth 20000 in
theorem xm83 : xmf 83 := ⟨xin 347 rfl rfl, xin 7 rfl rfl, fun h => absurd h (by decide), fun _ => ⟨xin 345 rfl rfl, xin 346 rfl rfl⟩, fun h => absurd h (by decide), by decide +kernel⟩
set_option maxRecDepth 20000 in
theorem xm84 : xmf 84 := ⟨xin 411 rfl rfl, xin 7 rfl rfl, fun h => absurd h (by decide), fun _ => ⟨xin 409 rfl rfl, xin 410 rfl rfl⟩, fun h => absurd h (by decide), by decide +kernel⟩
set_option maxRecDepth 20000 in
theorem xm85 : xmf 85 := ⟨xin 426 rfl rfl, xin 7 rfl rfl, fun h => absurd h (by decide), fun _ => ⟨xin 424 rfl rfl, xin 425 rfl rfl⟩, fun h => absurd h (by decide), by decide +kernel⟩
set_option maxRecDepth 20000 in
theorem xm86 : xmf 86 := ⟨xin 430 rfl rfl, xin 7 rfl rfl, fun h => absurd h (by decide), fun _ => ⟨xin 428 rfl rfl, xin 429 rfl rfl⟩, fun h => absurd h (by decide), by decide +kernel⟩
set_option maxRecDepth 20000 in
theorem xm87 : xmf 87 := ⟨xin 440 rfl rfl, xin 7 rfl rfl, fun h => absurd h (by decide), fun _ => ⟨xin 438 rfl rfl, xin 439 rfl rfl⟩, fun h => absurd h (by decide), by decide +kernel⟩
set_option maxRecDepth 20000 in
theorem xm88 : xmf 88 := ⟨xin 448 rfl rfl, xin 7 rfl rfl, fun h => absurd h (by decide), fun _ => ⟨xin 446 rfl rfl, xin 447 rfl rfl⟩, fun h => absurd h (by decide), by decide +kernel⟩
set_option maxRecDepth 20000 in
theorem xm89 : xmf 89 := ⟨xin 444 rfl rfl, xin 7 rfl rfl, fun h => absurd h (by decide), fun _ => ⟨xin 442 rfl rfl, xin 443 rfl rfl⟩, fun h => absurd h (by decide), by decide +kernel⟩
set_option maxRecDepth 20000 in
theorem xm90 : xmf 90 := ⟨xin 456 rfl rfl, xin 7 rfl rfl, fun h => absurd h (by decide), fun _ => ⟨xin 454 rfl rfl, xin 455 rfl rfl⟩, fun h => absurd h (by decide), by decide +kernel⟩
set_option maxRecDepth 20000 in
theorem xm91 : xmf 91 := ⟨xin 472 rfl rfl, xin 7 rfl rfl, fun h => absurd h (by decide), fun _ => ⟨xin 470 rfl rfl, xin 471 rfl rfl⟩, fun h => absurd h (by decide), by decide +kernel⟩
set_option maxRecDepth 20000 in
theorem xm92 : xmf 92 := ⟨xin 264 rfl rfl, xin 16 rfl rfl, fun h => absurd h (by decide), fun h => absurd h (by decide), fun _ => ⟨xin 263 rfl rfl, rfl, rfl⟩, by decide +kernel⟩
set_option maxRecDepth 20000 in
theorem xm93 : xmf 93 := ⟨xin 818 rfl rfl, xin 16 rfl rfl, fun h => absurd h (by decide), fun _ => ⟨xin 816 rfl rfl, xin 817 rfl rfl⟩, fun h => absurd h (by decide), by decide +kernel⟩
set_option maxRecDepth 20000 in
theorem xm94 : xmf 94 := ⟨xin 830 rfl rfl, xin 16 rfl rfl, fun h => absurd h (by decide), fun _ => ⟨xin 828 rfl rfl, xin 829 rfl rfl⟩, fun h => absurd h (by decide), by decide +kernel⟩
set_option maxRecDepth 20000 in
theorem xm95 : xmf 95 := ⟨xin 826 rfl rfl, xin 16 rfl rfl, fun _ => xin 825 rfl rfl, fun h => absurd h (by decide), fun h => absurd h (by decide), by decide +kernel⟩
set_option maxRecDepth 20000 in
theorem xm96 : xmf 96 := ⟨xin 822 rfl rfl, xin 16 rfl rfl, fun _ => xin 821 rfl rfl, fun h => absurd h (by decide), fun h => absurd h (by decide), by decide +kernel⟩
set_option maxRecDepth 20000 in
theorem xm97 : xmf 97 := ⟨xin 668 rfl rfl, xin 19 rfl rfl, fun _ => xin 667 rfl rfl, fun h => absurd h (by decide), fun h => absurd h (by decide), by decide +kernel⟩
set_option maxRecDepth 20000 in
theorem xm98 : xmf 98 := ⟨xin 745 rfl rfl, xin 19 rfl rfl, fun _ => xin 744 rfl rfl, fun h => absurd h (by decide), fun h => absurd h (by decide), by decide +kernel⟩
set_option maxRecDepth 20000 in
theorem xm99 : xmf 99 := ⟨xin 693 rfl rfl, xin 19 rfl rfl, fun _ => xin 692 rfl rfl, fun h => absurd h (by decide), fun h => absurd h (by decide), by decide +kernel⟩
set_option maxRecDepth 20000 in
theorem xm100 : xmf 100 := ⟨xin 805 rfl rfl, xin 19 rfl rfl, fun _ => xin 804 rfl rfl, fun h => absurd h (by decide), fun h => absurd h (by decide), by decide +kernel⟩
set_option maxRecDepth 20000 in
theorem xm101 : xmf 101 := ⟨xin 703 rfl rfl, xin 19 rfl rfl, fun _ => xin 702 rfl rfl, fun h => absurd h (by decide), fun h => absurd h (by decide), by decide +kernel⟩
set_option maxRecDepth 20000 in
theorem xm102 : xmf 102 := ⟨xin 706 rfl rfl, xin 19 rfl rfl, fun _ => xin 705 rfl rfl, fun h => absurd h (by decide), fun h => absurd h (by decide), by decide +kernel⟩
set_option maxRecDepth 20000 in
theorem xm103 : xmf 103 := ⟨xin 741 rfl rfl, xin 19 rfl rfl, fun _ => xin 740 rfl rfl, fun h => absurd h (by decide), fun h => absurd h (by decide), by decide +kernel⟩
set_option maxRecDepth 20000 in
theorem xm104 : xmf 104 := ⟨xin 855 rfl rfl, xin 19 rfl rfl, fun _ => xin 854 rfl rfl, fun h => absurd h (by decide), fun h => absurd h (by decide), by decide +kernel⟩
set_option maxRecDepth 20000 in
theorem xm105 : xmf 105 := ⟨xin 846 rfl rfl, xin 19 rfl rfl, fun _ => xin 845 rfl rfl, fun h => absurd h (by decide), fun h => absurd h (by decide), by decide +kernel⟩
set_option maxRecDepth 20000 in
theorem xm106 : xmf 106 := ⟨xin 851 rfl rfl, xin 19 rfl rfl, fun _ => xin 850 rfl rfl, fun h => absurd h (by decide), fun h => absurd h (by decide), by decide +kernel⟩
set_option maxRecDepth 20000 in
theorem xm107 : xmf 107 := ⟨xin 248 rfl rfl, xin 15 rfl rfl, fun h => absurd h (by decide), fun h => absurd h (by decide), fun _ => ⟨xin 247 rfl rfl, rfl, rfl⟩, by decide +kernel⟩
set_option maxRecDepth 20000 in
theorem xm108 : xmf 108 := ⟨xin 749 rfl rfl, xin 15 rfl rfl, fun h => absurd h (by decide), fun _ => ⟨xin 747 rfl rfl, xin 748 rfl rfl⟩, fun h => absurd h (by decide), by decide +kernel⟩
set_option maxRecDepth 20000 in
theorem xm109 : xmf 109 := ⟨xin 991 rfl rfl, xin 15 rfl rfl, fun h => absurd h (by decide), fun _ => ⟨xin 989 rfl rfl, xin 990 rfl rfl⟩, fun h => absurd h (by decide), by decide +kernel⟩
set_option maxRecDepth 20000 in
theorem xm110 : xmf 110 := ⟨xin 754 rfl rfl, xin 15 rfl rfl, fun h => absurd h (by decide), fun _ => ⟨xin 752 rfl rfl, xin 753 rfl rfl⟩, fun h => absurd h (by decide), by decide +kernel⟩
set_option maxRecDepth 20000 in
theorem xm111 : xmf 111 := ⟨xin 757 rfl rfl, xin 15 rfl rfl, fun _ => xin 756 rfl rfl, fun h => absurd h (by decide), fun h => absurd h (by decide), by decide +kernel⟩
set_option maxRecDepth 20000 in
theorem xm112 : xmf 112 := ⟨xin 793 rfl rfl, xin 15 rfl rfl, fun h => absurd h (by decide), fun _ => ⟨xin 791 rfl rfl, xin 792 rfl rfl⟩, fun h => absurd h (by decide), by decide +kernel⟩
set_option maxRecDepth 20000 in
theorem xm113 : xmf 113 := ⟨xin 796 rfl rfl, xin 15 rfl rfl, fun _ => xin 795 rfl rfl, fun h => absurd h (by decide), fun h => absurd h (by decide), by decide +kernel⟩
set_option maxRecDepth 20000 in
theorem xm114 : xmf 114 := ⟨xin 28 rfl rfl, xin 6 rfl rfl, fun h => absurd h (by decide), fun h => absurd h (by decide), fun _ => ⟨xin 27 rfl rfl, rfl, rfl⟩, by decide +kernel⟩
set_option maxRecDepth 20000 in
theorem xm115 : xmf 115 := ⟨xin 867 rfl rfl, xin 6 rfl rfl, fun h => absurd h (by decide), fun _ => ⟨xin 865 rfl rfl, xin 866 rfl rfl⟩, fun h => absurd h (by decide), by decide +kernel⟩
set_option maxRecDepth 20000 in
theorem xm116 : xmf 116 := ⟨xin 879 rfl rfl, xin 6 rfl rfl, fun h => absurd h (by decide), fun _ => ⟨xin 877 rfl rfl, xin 878 rfl rfl⟩, fun h => absurd h (by decide), by decide +kernel⟩
set_option maxRecDepth 20000 in
theorem xm117 : xmf 117 := ⟨xin 319 rfl rfl, xin 6 rfl rfl, fun h => absurd h (by decide), fun _ => ⟨xin 317 rfl rfl, xin 318 rfl rfl⟩, fun h => absurd h (by decide), by decide +kernel⟩
set_option maxRecDepth 20000 in
theorem xm118 : xmf 118 := ⟨xin 484 rfl rfl, xin 6 rfl rfl, fun h => absurd h (by decide), fun _ => ⟨xin 482 rfl rfl, xin 483 rfl rfl⟩, fun h => absurd h (by decide), by decide +kernel⟩
set_option maxRecDepth 20000 in
theorem xm119 : xmf 119 := ⟨xin 505 rfl rfl, xin 6 rfl rfl, fun h => absurd h (by decide), fun _ => ⟨xin 503 rfl rfl, xin 504 rfl rfl⟩, fun h => absurd h (by decide), by decide +kernel⟩
set_option maxRecDepth 20000 in
theorem xm120 : xmf 120 := ⟨xin 527 rfl rfl, xin 6 rfl rfl, fun h => absurd h (by decide), fun _ => ⟨xin 525 rfl rfl, xin 526 rfl rfl⟩, fun h => absurd h (by decide), by decide +kernel⟩
set_option maxRecDepth 20000 in
theorem xm121 : xmf 121 := ⟨xin 541 rfl rfl, xin 6 rfl rfl, fun h => absurd h (by decide), fun _ => ⟨xin 539 rfl rfl, xin 540 rfl rfl⟩, fun h => absurd h (by decide), by decide +kernel⟩
set_option maxRecDepth 20000 in
theorem xm122 : xmf 122 := ⟨xin 555 rfl rfl, xin 6 rfl rfl, fun h => absurd h (by decide), fun _ => ⟨xin 553 rfl rfl, xin 554 rfl rfl⟩, fun h => absurd h (by decide), by decide +kernel⟩
set_option maxRecDepth 20000 in
theorem xm123 : xmf 123 := ⟨xin 559 rfl rfl, xin 6 rfl rfl, fun h => absurd h (by decide), fun _ => ⟨xin 557 rfl rfl, xin 558 rfl rfl⟩, fun h => absurd h (by decide), by decide +kernel⟩
set_option maxRecDepth 20000 in
theorem xm124 : xmf 124 := ⟨xin 567 rfl rfl, xin 6 rfl rfl, fun h => absurd h (by decide), fun _ => ⟨xin 565 rfl rfl, xin 566 rfl rfl⟩, fun h => absurd h (by decide), by decide +kernel⟩
set_option maxRecDepth 20000 in
theorem xm125 : xmf 125 := ⟨xin 665 rfl rfl, xin 6 rfl rfl, fun h => absurd h (by decide), fun _ => ⟨xin 663 rfl rfl, xin 664 rfl rfl⟩, fun h => absurd h (by decide), by decide +kernel⟩
set_option maxRecDepth 20000 in
theorem xm126 : xmf 126 := ⟨xin 673 rfl rfl, xin 6 rfl rfl, fun h => absurd h (by decide), fun _ => ⟨xin 671 rfl rfl, xin 672 rfl rfl⟩, fun h => absurd h (by decide), by decide +kernel⟩
set_option maxRecDepth 20000 in
theorem xm127 : xmf 127 := ⟨xin 915 rfl rfl, xin 6 rfl rfl, fun h => absurd h (by decide), fun _ => ⟨xin 913 rfl rfl, xin 914 rfl rfl⟩, fun h => absurd h (by decide), by decide +kernel⟩
set_option maxRecDepth 20000 in
theorem xm128 : xmf 128 := ⟨xin 897 rfl rfl, xin 6 rfl rfl, fun h => absurd h (by decide), fun _ => ⟨xin 895 rfl rfl, xin 896 rfl rfl⟩, fun h => absurd h (by decide), by decide +kernel⟩
set_option maxRecDepth 20000 in
theorem xm129 : xmf 129 := ⟨xin 922 rfl rfl, xin 6 rfl rfl, fun h => absurd h (by decide), fun _ => ⟨xin 920 rfl rfl, xin 921 rfl rfl⟩, fun h => absurd h (by decide), by decide +kernel⟩
set_option maxRecDepth 20000 in
theorem xm130 : xmf 130 := ⟨xin 677 rfl rfl, xin 6 rfl rfl, fun h => absurd h (by decide), fun _ => ⟨xin 675 rfl rfl, xin 676 rfl rfl⟩, fun h => absurd h (by decide), by decide +kernel⟩
set_option maxRecDepth 20000 in
theorem xm131 : xmf 131 := ⟨xin 982 rfl rfl, xin 6 rfl rfl, fun h => absurd h (by decide), fun _ => ⟨xin 980 rfl rfl, xin 981 rfl rfl⟩, fun h => absurd h (by decide), by decide +kernel⟩
set_option maxRecDepth 20000 in
theorem xm132 : xmf 132 := ⟨xin 939 rfl rfl, xin 6 rfl rfl, fun h => absurd h (by decide), fun _ => ⟨xin 937 rfl rfl, xin 938 rfl rfl⟩, fun h => absurd h (by decide), by decide +kernel⟩
set_option maxRecDepth 20000 in
theorem xm133 : xmf 133 := ⟨xin 725 rfl rfl, xin 6 rfl rfl, fun h => absurd h (by decide), fun _ => ⟨xin 723 rfl rfl, xin 724 rfl rfl⟩, fun h => absurd h (by decide), by decide +kernel⟩
set_option maxRecDepth 20000 in
theorem xm134 : xmf 134 := ⟨xin 987 rfl rfl, xin 6 rfl rfl, fun h => absurd h (by decide), fun _ => ⟨xin 985 rfl rfl, xin 986 rfl rfl⟩, fun h => absurd h (by decide), by decide +kernel⟩
set_option maxRecDepth 20000 in
theorem xm135 : xmf 135 := ⟨xin 995 rfl rfl, xin 6 rfl rfl, fun h => absurd h (by decide), fun _ => ⟨xin 993 rfl rfl, xin 994 rfl rfl⟩, fun h => absurd h (by decide), by decide +kernel⟩
set_option maxRecDepth 20000 in
theorem xm136 : xmf 136 := ⟨xin 968 rfl rfl, xin 6 rfl rfl, fun h => absurd h (by decide), fun _ => ⟨xin 966 rfl rfl, xin 967 rfl rfl⟩, fun h => absurd h (by decide), by decide +kernel⟩
set_option maxRecDepth 20000 in
theorem xm137 : xmf 137 := ⟨xin 789 rfl rfl, xin 6 rfl rfl, fun h => absurd h (by decide), fun _ => ⟨xin 787 rfl rfl, xin 788 rfl rfl⟩, fun h => absurd h (by decide), by decide +kernel⟩
set_option maxRecDepth 20000 in
theorem xm138 : xmf 138 := ⟨xin 800 rfl rfl, xin 6 rfl rfl, fun h => absurd h (by decide), fun _ => ⟨xin 798 rfl rfl, xin 799 rfl rfl⟩, fun h => absurd h (by decide), by decide +kernel⟩
set_option maxRecDepth 20000 in
theorem xm139 : xmf 139 := ⟨xin 810 rfl rfl, xin 6 rfl rfl, fun h => absurd h (by decide), fun _ => ⟨xin 808 rfl rfl, xin 809 rfl rfl⟩, fun h => absurd h (by decide), by decide +kernel⟩
set_option maxRecDepth 20000 in
theorem xm140 : xmf 140 := ⟨xin 835 rfl rfl, xin 6 rfl rfl, fun h => absurd h (by decide), fun _ => ⟨xin 833 rfl rfl, xin 834 rfl rfl⟩, fun h => absurd h (by decide), by decide +kernel⟩
set_option maxRecDepth 20000 in
theorem xm141 : xmf 141 := ⟨xin 839 rfl rfl, xin 6 rfl rfl, fun h => absurd h (by decide), fun _ => ⟨xin 837 rfl rfl, xin 838 rfl rfl⟩, fun h => absurd h (by decide), by decide +kernel⟩
set_option maxRecDepth 20000 in
theorem xm142 : xmf 142 := ⟨xin 843 rfl rfl, xin 6 rfl rfl, fun h => absurd h (by decide), fun _ => ⟨xin 841 rfl rfl, xin 842 rfl rfl⟩, fun h => absurd h (by decide), by decide +kernel⟩
set_option maxRecDepth 20000 in
theorem xm143 : xmf 143 := ⟨xin 661 rfl rfl, xin 6 rfl rfl, fun _ => xin 660 rfl rfl, fun h => absurd h (by decide), fun h => absurd h (by decide), by decide +kernel⟩
set_option maxRecDepth 20000 in
theorem xm144 : xmf 144 := ⟨xin 577 rfl rfl, xin 6 rfl rfl, fun _ => xin 576 rfl rfl, fun h => absurd h (by decide), fun h => absurd h (by decide), by decide +kernel⟩
set_option maxRecDepth 20000 in
theorem xm145 : xmf 145 := ⟨xin 574 rfl rfl, xin 6 rfl rfl, fun _ => xin 573 rfl rfl, fun h => absurd h (by decide), fun h => absurd h (by decide), by decide +kernel⟩
set_option maxRecDepth 20000 in
theorem xm146 : xmf 146 := ⟨xin 459 rfl rfl, xin 6 rfl rfl, fun _ => xin 458 rfl rfl, fun h => absurd h (by decide), fun h => absurd h (by decide), by decide +kernel⟩
set_option maxRecDepth 20000 in
theorem xm147 : xmf 147 := ⟨xin 580 rfl rfl, xin 6 rfl rfl, fun _ => xin 579 rfl rfl, fun h => absurd h (by decide), fun h => absurd h (by decide), by decide +kernel⟩
set_option maxRecDepth 20000 in
theorem xm148 : xmf 148 := ⟨xin 489 rfl rfl, xin 6 rfl rfl, fun h => absurd h (by decide), fun _ => ⟨xin 488 rfl rfl, xin 0 rfl rfl⟩, fun h => absurd h (by decide), by decide +kernel⟩
set_option maxRecDepth 20000 in
theorem xm149 : xmf 149 := ⟨xin 814 rfl rfl, xin 6 rfl rfl, fun h => absurd h (by decide), fun _ => ⟨xin 813 rfl rfl, xin 3 rfl rfl⟩, fun h => absurd h (by decide), by decide +kernel⟩
set_option maxRecDepth 20000 in
theorem xm150 : xmf 150 := ⟨xin 719 rfl rfl, xin 6 rfl rfl, fun h => absurd h (by decide), fun _ => ⟨xin 718 rfl rfl, xin 2 rfl rfl⟩, fun h => absurd h (by decide), by decide +kernel⟩
set_option maxRecDepth 20000 in
theorem xm151 : xmf 151 := ⟨xin 585 rfl rfl, xin 6 rfl rfl, fun h => absurd h (by decide), fun _ => ⟨xin 584 rfl rfl, xin 1 rfl rfl⟩, fun h => absurd h (by decide), by decide +kernel⟩
set_option maxRecDepth 20000 in
theorem xm152 : xmf 152 := ⟨xin 964 rfl rfl, xin 6 rfl rfl, fun h => absurd h (by decide), fun _ => ⟨xin 963 rfl rfl, xin 4 rfl rfl⟩, fun h => absurd h (by decide), by decide +kernel⟩
set_option maxRecDepth 20000 in
theorem xm153 : xmf 153 := ⟨xin 520 rfl rfl, xin 18 rfl rfl, fun _ => xin 519 rfl rfl, fun h => absurd h (by decide), fun h => absurd h (by decide), by decide +kernel⟩
set_option maxRecDepth 20000 in
theorem xm154 : xmf 154 := ⟨xin 641 rfl rfl, xin 17 rfl rfl, fun _ => xin 640 rfl rfl, fun h => absurd h (by decide), fun h => absurd h (by decide), by decide +kernel⟩
set_option maxRecDepth 20000 in
theorem xm155 : xmf 155 := ⟨xin 497 rfl rfl, xin 17 rfl rfl, fun _ => xin 496 rfl rfl, fun h => absurd h (by decide), fun h => absurd h (by decide), by decide +kernel⟩
set_option maxRecDepth 20000 in
theorem xm156 : xmf 156 := ⟨xin 360 rfl rfl, xin 20 rfl rfl, fun h => absurd h (by decide), fun _ => ⟨xin 358 rfl rfl, xin 359 rfl rfl⟩, fun h => absurd h (by decide), by decide +kernel⟩
set_option maxRecDepth 20000 in
theorem xm157 : xmf 157 := ⟨xin 370 rfl rfl, xin 20 rfl rfl, fun h => absurd h (by decide), fun _ => ⟨xin 368 rfl rfl, xin 369 rfl rfl⟩, fun h => absurd h (by decide), by decide +kernel⟩
set_option maxRecDepth 20000 in
theorem xm158 : xmf 158 := ⟨xin 364 rfl rfl, xin 20 rfl rfl, fun h => absurd h (by decide), fun _ => ⟨xin 362 rfl rfl, xin 363 rfl rfl⟩, fun h => absurd h (by decide), by decide +kernel⟩
set_option maxRecDepth 20000 in
theorem xm159 : xmf 159 := ⟨xin 374 rfl rfl, xin 20 rfl rfl, fun h => absurd h (by decide), fun _ => ⟨xin 372 rfl rfl, xin 373 rfl rfl⟩, fun h => absurd h (by decide), by decide +kernel⟩
set_option maxRecDepth 20000 in
theorem xm160 : xmf 160 := ⟨xin 380 rfl rfl, xin 20 rfl rfl, fun _ => xin 379 rfl rfl, fun h => absurd h (by decide), fun h => absurd h (by decide), by decide +kernel⟩
set_option maxRecDepth 20000 in
theorem xm161 : xmf 161 := ⟨xin 377 rfl rfl, xin 21 rfl rfl, fun _ => xin 376 rfl rfl, fun h => absurd h (by decide), fun h => absurd h (by decide), by decide +kernel⟩
set_option maxRecDepth 20000 in
theorem xm162 : xmf 162 := ⟨xin 385 rfl rfl, xin 22 rfl rfl, fun _ => xin 384 rfl rfl, fun h => absurd h (by decide), fun h => absurd h (by decide), by decide +kernel⟩
set_option maxRecDepth 20000 in
theorem xm163 : xmf 163 := ⟨xin 863 rfl rfl, xin 5 rfl rfl, fun _ => xin 862 rfl rfl, fun h => absurd h (by decide), fun h => absurd h (by decide), by decide +kernel⟩
set_option maxRecDepth 20000 in
theorem xm164 : xmf 164 := ⟨xin 882 rfl rfl, xin 5 rfl rfl, fun _ => xin 881 rfl rfl, fun h => absurd h (by decide), fun h => absurd h (by decide), by decide +kernel⟩
set_option maxRecDepth 20000 in
theorem xm165 : xmf 165 := ⟨xin 889 rfl rfl, xin 5 rfl rfl, fun _ => xin 888 rfl rfl, fun h => absurd h (by decide), fun h => absurd h (by decide), by decide +kernel⟩
set_option maxRecDepth 20000 in
theorem xm166 : xmf 166 := ⟨xin 858 rfl rfl, xin 5 rfl rfl, fun _ => xin 857 rfl rfl, fun h => absurd h (by decide), fun h => absurd h (by decide), by decide +kernel⟩
set_option maxRecDepth 20000 in
theorem xm167 : xmf 167 := ⟨xin 892 rfl rfl, xin 5 rfl rfl, fun _ => xin 891 rfl rfl, fun h => absurd h (by decide), fun h => absurd h (by decide), by decide +kernel⟩
set_option maxRecDepth 20000 in
theorem xm168 : xmf 168 := ⟨xin 935 rfl rfl, xin 5 rfl rfl, fun _ => xin 934 rfl rfl, fun h => absurd h (by decide), fun h => absurd h (by decide), by decide +kernel⟩
set_option maxRecDepth 20000 in
theorem xm169 : xmf 169 := ⟨xin 999 rfl rfl, xin 5 rfl rfl, fun _ => xin 998 rfl rfl, fun h => absurd h (by decide), fun h => absurd h (by decide), by decide +kernel⟩
set_option maxRecDepth 20000 in
theorem xm170 : xmf 170 := ⟨xin 1002 rfl rfl, xin 5 rfl rfl, fun _ => xin 1001 rfl rfl, fun h => absurd h (by decide), fun h => absurd h (by decide), by decide +kernel⟩
set_option maxRecDepth 20000 in
theorem xm_all : ∀ j, j < 171 → xmf j := lt_s (lt_s (lt_s (lt_s (lt_s (lt_s (lt_s (lt_s (lt_s (lt_s (lt_s (lt_s (lt_s (lt_s (lt_s (lt_s (lt_s (lt_s (lt_s (lt_s (lt_s (lt_s (lt_s (lt_s (lt_s (lt_s (lt_s (lt_s (lt_s (lt_s (lt_s (lt_s (lt_s (lt_s (lt_s (lt_s (lt_s (lt_s (lt_s (lt_s (lt_s (lt_s (lt_s (lt_s (lt_s (lt_s (lt_s (lt_s (lt_s (lt_s (lt_s (lt_s (lt_s (lt_s (lt_s (lt_s (lt_s (lt_s (lt_s (lt_s (lt_s (lt_s (lt_s (lt_s (lt_s (lt_s (lt_s (lt_s (lt_s (lt_s (lt_s (lt_s (lt_s (lt_s (lt_s (lt_s (lt_s (lt_s (lt_s (lt_s (lt_s (lt_s (lt_s (lt_s (lt_s (lt_s (lt_s (lt_s (lt_s (lt_s (lt_s (lt_s (lt_s (lt_s (lt_s (lt_s (lt_s (lt_s (lt_s (lt_s (lt_s (lt_s (lt_s (lt_s (lt_s (lt_s (lt_s (lt_s (lt_s (lt_s (lt_s (lt_s (lt_s (lt_s (lt_s (lt_s (lt_s (lt_s (lt_s (lt_s (lt_s (lt_s (lt_s (lt_s (lt_s (lt_s (lt_s (lt_s (lt_s (lt_s (lt_s (lt_s (lt_s (lt_s (lt_s (lt_s (lt_s (lt_s (lt_s (lt_s (lt_s (lt_s (lt_s (lt_s (lt_s (lt_s (lt_s (lt_s (lt_s (lt_s (lt_s (lt_s (lt_s (lt_s (lt_s (lt_s (lt_s (lt_s (lt_s (lt_s (lt_s (lt_s (lt_s (lt_s (lt_s (lt_s (lt_s (lt_s (lt_s (lt_s (lt_s (lt_0) xm0) xm1) xm2) xm3) xm4) xm5) xm6) xm7) xm8) xm9) xm10) xm11) xm12) xm13) xm14) xm15) xm16) xm17) xm18) xm19) xm20) xm21) xm22) xm23) xm24) xm25) xm26) xm27) xm28) xm29) xm30) xm31) xm32) xm33) xm34) xm35) xm36) xm37) xm38) xm39) xm40) xm41) xm42) xm43) xm44) xm45) xm46) xm47) xm48) xm49) xm50) xm51) xm52) xm53) xm54) xm55) xm56) xm57) xm58) xm59) xm60) xm61) xm62) xm63) xm64) xm65) xm66) xm67) xm68) xm69) xm70) xm71) xm72) xm73) xm74) xm75) xm76) xm77) xm78) xm79) xm80) xm81) xm82) xm83) xm84) xm85) xm86) xm87) xm88) xm89) xm90) xm91) xm92) xm93) xm94) xm95) xm96) xm97) xm98) xm99) xm100) xm101) xm102) xm103) xm104) xm105) xm106) xm107) xm108) xm109) xm110) xm111) xm112) xm113) xm114) xm115) xm116) xm117) xm118) xm119) xm120) xm121) xm122) xm123) xm124) xm125) xm126) xm127) xm128) xm129) xm130) xm131) xm132) xm133) xm134) xm135) xm136) xm137) xm138) xm139) xm140) xm141) xm142) xm143) xm144) xm145) xm146) xm147) xm148) xm149) xm150) xm151) xm152) xm153) xm154) xm155) xm156) xm157) xm158) xm159) xm160) xm161) xm162) xm163) xm164) xm165) xm166) xm167) xm168) xm169) xm170
