def xmd (j : Nat) : Bool := decide ((xy j).cls = xcn (xow j)) && (plainName (xy j).cls || Nat.beq j xJmax || Nat.beq j xJmin) && decide ((xy j).cls ≠ "java/lang/invoke/MethodHandle") && decide ((xy j).cls ≠ "java/lang/invoke/VarHandle") && decide ((parseMethodDescriptor (xy j).desc).map (fun d => d.parameters.length) = some (bif Nat.beq (xki j) 0 then xna j else xna j - 1)) && Nat.ble (xml j) 12 && (Nat.beq (xki j) 0 || Nat.blt 0 (xna j))
/-- what the tables say of a method -/
def xmf (j : Nat) : Prop := Cond.code (xy j) (xcode j) (xml j) (xrt j) ∈ xALL ∧ Cond.initialized (xy j).cls ∈ xALL ∧ (xki j = 0 → Cond.static (xy j) ∈ xALL) ∧ (xki j = 1 → Cond.instanceMethod (xy j) ∈ xALL ∧ Cond.selects (xy j).cls (xy j) (xy j) ∈ xALL) ∧ (xki j = 2 → Cond.instanceMethod (xy j) ∈ xALL ∧ (xy j).name = "<init>" ∧ xrt j = none) ∧
  xmd j = true

set_option maxRecDepth 20000 in
theorem xm0 : xmf 0 := ⟨xin 246 rfl rfl, xin 72 rfl rfl, fun h => absurd h (by decide), fun h => absurd h (by decide), fun _ => ⟨xin 245 rfl rfl, rfl, rfl⟩, by decide +kernel⟩
set_option maxRecDepth 20000 in
theorem xm1 : xmf 1 := ⟨xin 703 rfl rfl, xin 72 rfl rfl, fun h => absurd h (by decide), fun _ => ⟨xin 701 rfl rfl, xin 702 rfl rfl⟩, fun h => absurd h (by decide), by decide +kernel⟩
set_option maxRecDepth 20000 in
theorem xm2 : xmf 2 := ⟨xin 709 rfl rfl, xin 72 rfl rfl, fun h => absurd h (by decide), fun _ => ⟨xin 707 rfl rfl, xin 708 rfl rfl⟩, fun h => absurd h (by decide), by decide +kernel⟩
set_option maxRecDepth 20000 in
theorem xm3 : xmf 3 := ⟨xin 740 rfl rfl, xin 72 rfl rfl, fun h => absurd h (by decide), fun _ => ⟨xin 738 rfl rfl, xin 739 rfl rfl⟩, fun h => absurd h (by decide), by decide +kernel⟩
set_option maxRecDepth 20000 in
theorem xm4 : xmf 4 := ⟨xin 736 rfl rfl, xin 72 rfl rfl, fun h => absurd h (by decide), fun _ => ⟨xin 734 rfl rfl, xin 735 rfl rfl⟩, fun h => absurd h (by decide), by decide +kernel⟩
set_option maxRecDepth 20000 in
theorem xm5 : xmf 5 := ⟨xin 836 rfl rfl, xin 72 rfl rfl, fun h => absurd h (by decide), fun _ => ⟨xin 834 rfl rfl, xin 835 rfl rfl⟩, fun h => absurd h (by decide), by decide +kernel⟩
set_option maxRecDepth 20000 in
theorem xm6 : xmf 6 := ⟨xin 203 rfl rfl, xin 70 rfl rfl, fun h => absurd h (by decide), fun h => absurd h (by decide), fun _ => ⟨xin 202 rfl rfl, rfl, rfl⟩, by decide +kernel⟩
set_option maxRecDepth 20000 in
theorem xm7 : xmf 7 := ⟨xin 671 rfl rfl, xin 70 rfl rfl, fun h => absurd h (by decide), fun _ => ⟨xin 669 rfl rfl, xin 670 rfl rfl⟩, fun h => absurd h (by decide), by decide +kernel⟩
set_option maxRecDepth 20000 in
theorem xm8 : xmf 8 := ⟨xin 676 rfl rfl, xin 70 rfl rfl, fun h => absurd h (by decide), fun _ => ⟨xin 674 rfl rfl, xin 675 rfl rfl⟩, fun h => absurd h (by decide), by decide +kernel⟩
set_option maxRecDepth 20000 in
theorem xm9 : xmf 9 := ⟨xin 699 rfl rfl, xin 70 rfl rfl, fun h => absurd h (by decide), fun _ => ⟨xin 697 rfl rfl, xin 698 rfl rfl⟩, fun h => absurd h (by decide), by decide +kernel⟩
set_option maxRecDepth 20000 in
theorem xm10 : xmf 10 := ⟨xin 802 rfl rfl, xin 70 rfl rfl, fun h => absurd h (by decide), fun _ => ⟨xin 800 rfl rfl, xin 801 rfl rfl⟩, fun h => absurd h (by decide), by decide +kernel⟩
set_option maxRecDepth 20000 in
theorem xm11 : xmf 11 := ⟨xin 806 rfl rfl, xin 70 rfl rfl, fun h => absurd h (by decide), fun _ => ⟨xin 804 rfl rfl, xin 805 rfl rfl⟩, fun h => absurd h (by decide), by decide +kernel⟩
set_option maxRecDepth 20000 in
theorem xm12 : xmf 12 := ⟨xin 771 rfl rfl, xin 70 rfl rfl, fun h => absurd h (by decide), fun _ => ⟨xin 769 rfl rfl, xin 770 rfl rfl⟩, fun h => absurd h (by decide), by decide +kernel⟩
set_option maxRecDepth 20000 in
theorem xm13 : xmf 13 := ⟨xin 694 rfl rfl, xin 70 rfl rfl, fun h => absurd h (by decide), fun _ => ⟨xin 692 rfl rfl, xin 693 rfl rfl⟩, fun h => absurd h (by decide), by decide +kernel⟩
set_option maxRecDepth 20000 in
theorem xm14 : xmf 14 := ⟨xin 776 rfl rfl, xin 70 rfl rfl, fun h => absurd h (by decide), fun _ => ⟨xin 774 rfl rfl, xin 775 rfl rfl⟩, fun h => absurd h (by decide), by decide +kernel⟩
set_option maxRecDepth 20000 in
theorem xm15 : xmf 15 := ⟨xin 780 rfl rfl, xin 70 rfl rfl, fun h => absurd h (by decide), fun _ => ⟨xin 778 rfl rfl, xin 779 rfl rfl⟩, fun h => absurd h (by decide), by decide +kernel⟩
set_option maxRecDepth 20000 in
theorem xm16 : xmf 16 := ⟨xin 788 rfl rfl, xin 70 rfl rfl, fun h => absurd h (by decide), fun _ => ⟨xin 786 rfl rfl, xin 787 rfl rfl⟩, fun h => absurd h (by decide), by decide +kernel⟩
set_option maxRecDepth 20000 in
theorem xm17 : xmf 17 := ⟨xin 793 rfl rfl, xin 70 rfl rfl, fun h => absurd h (by decide), fun _ => ⟨xin 791 rfl rfl, xin 792 rfl rfl⟩, fun h => absurd h (by decide), by decide +kernel⟩
set_option maxRecDepth 20000 in
theorem xm18 : xmf 18 := ⟨xin 299 rfl rfl, xin 74 rfl rfl, fun h => absurd h (by decide), fun h => absurd h (by decide), fun _ => ⟨xin 298 rfl rfl, rfl, rfl⟩, by decide +kernel⟩
set_option maxRecDepth 20000 in
theorem xm19 : xmf 19 := ⟨xin 810 rfl rfl, xin 74 rfl rfl, fun h => absurd h (by decide), fun _ => ⟨xin 808 rfl rfl, xin 809 rfl rfl⟩, fun h => absurd h (by decide), by decide +kernel⟩
set_option maxRecDepth 20000 in
theorem xm20 : xmf 20 := ⟨xin 818 rfl rfl, xin 74 rfl rfl, fun h => absurd h (by decide), fun _ => ⟨xin 816 rfl rfl, xin 817 rfl rfl⟩, fun h => absurd h (by decide), by decide +kernel⟩
set_option maxRecDepth 20000 in
theorem xm21 : xmf 21 := ⟨xin 821 rfl rfl, xin 74 rfl rfl, fun _ => xin 820 rfl rfl, fun h => absurd h (by decide), fun h => absurd h (by decide), by decide +kernel⟩
set_option maxRecDepth 20000 in
theorem xm22 : xmf 22 := ⟨xin 832 rfl rfl, xin 74 rfl rfl, fun _ => xin 831 rfl rfl, fun h => absurd h (by decide), fun h => absurd h (by decide), by decide +kernel⟩
set_option maxRecDepth 20000 in
theorem xm23 : xmf 23 := ⟨xin 103 rfl rfl, xin 68 rfl rfl, fun h => absurd h (by decide), fun h => absurd h (by decide), fun _ => ⟨xin 102 rfl rfl, rfl, rfl⟩, by decide +kernel⟩
set_option maxRecDepth 20000 in
theorem xm24 : xmf 24 := ⟨xin 530 rfl rfl, xin 68 rfl rfl, fun h => absurd h (by decide), fun _ => ⟨xin 528 rfl rfl, xin 529 rfl rfl⟩, fun h => absurd h (by decide), by decide +kernel⟩
set_option maxRecDepth 20000 in
theorem xm25 : xmf 25 := ⟨xin 545 rfl rfl, xin 68 rfl rfl, fun h => absurd h (by decide), fun _ => ⟨xin 543 rfl rfl, xin 544 rfl rfl⟩, fun h => absurd h (by decide), by decide +kernel⟩
set_option maxRecDepth 20000 in
theorem xm26 : xmf 26 := ⟨xin 617 rfl rfl, xin 68 rfl rfl, fun h => absurd h (by decide), fun _ => ⟨xin 615 rfl rfl, xin 616 rfl rfl⟩, fun h => absurd h (by decide), by decide +kernel⟩
set_option maxRecDepth 20000 in
theorem xm27 : xmf 27 := ⟨xin 628 rfl rfl, xin 68 rfl rfl, fun h => absurd h (by decide), fun _ => ⟨xin 626 rfl rfl, xin 627 rfl rfl⟩, fun h => absurd h (by decide), by decide +kernel⟩
set_option maxRecDepth 20000 in
theorem xm28 : xmf 28 := ⟨xin 595 rfl rfl, xin 68 rfl rfl, fun h => absurd h (by decide), fun _ => ⟨xin 593 rfl rfl, xin 594 rfl rfl⟩, fun h => absurd h (by decide), by decide +kernel⟩
set_option maxRecDepth 20000 in
theorem xm29 : xmf 29 := ⟨xin 599 rfl rfl, xin 68 rfl rfl, fun h => absurd h (by decide), fun _ => ⟨xin 597 rfl rfl, xin 598 rfl rfl⟩, fun h => absurd h (by decide), by decide +kernel⟩
set_option maxRecDepth 20000 in
theorem xm30 : xmf 30 := ⟨xin 653 rfl rfl, xin 68 rfl rfl, fun h => absurd h (by decide), fun _ => ⟨xin 651 rfl rfl, xin 652 rfl rfl⟩, fun h => absurd h (by decide), by decide +kernel⟩
set_option maxRecDepth 20000 in
theorem xm31 : xmf 31 := ⟨xin 514 rfl rfl, xin 68 rfl rfl, fun h => absurd h (by decide), fun _ => ⟨xin 512 rfl rfl, xin 513 rfl rfl⟩, fun h => absurd h (by decide), by decide +kernel⟩
set_option maxRecDepth 20000 in
theorem xm32 : xmf 32 := ⟨xin 554 rfl rfl, xin 68 rfl rfl, fun h => absurd h (by decide), fun _ => ⟨xin 552 rfl rfl, xin 553 rfl rfl⟩, fun h => absurd h (by decide), by decide +kernel⟩
set_option maxRecDepth 20000 in
theorem xm33 : xmf 33 := ⟨xin 541 rfl rfl, xin 68 rfl rfl, fun h => absurd h (by decide), fun _ => ⟨xin 539 rfl rfl, xin 540 rfl rfl⟩, fun h => absurd h (by decide), by decide +kernel⟩
set_option maxRecDepth 20000 in
theorem xm34 : xmf 34 := ⟨xin 583 rfl rfl, xin 68 rfl rfl, fun h => absurd h (by decide), fun _ => ⟨xin 581 rfl rfl, xin 582 rfl rfl⟩, fun h => absurd h (by decide), by decide +kernel⟩
set_option maxRecDepth 20000 in
theorem xm35 : xmf 35 := ⟨xin 591 rfl rfl, xin 68 rfl rfl, fun h => absurd h (by decide), fun _ => ⟨xin 589 rfl rfl, xin 590 rfl rfl⟩, fun h => absurd h (by decide), by decide +kernel⟩
set_option maxRecDepth 20000 in
theorem xm36 : xmf 36 := ⟨xin 613 rfl rfl, xin 68 rfl rfl, fun h => absurd h (by decide), fun _ => ⟨xin 611 rfl rfl, xin 612 rfl rfl⟩, fun h => absurd h (by decide), by decide +kernel⟩
set_option maxRecDepth 20000 in
theorem xm37 : xmf 37 := ⟨xin 633 rfl rfl, xin 68 rfl rfl, fun h => absurd h (by decide), fun _ => ⟨xin 631 rfl rfl, xin 632 rfl rfl⟩, fun h => absurd h (by decide), by decide +kernel⟩
set_option maxRecDepth 20000 in
theorem xm38 : xmf 38 := ⟨xin 183 rfl rfl, xin 69 rfl rfl, fun h => absurd h (by decide), fun h => absurd h (by decide), fun _ => ⟨xin 182 rfl rfl, rfl, rfl⟩, by decide +kernel⟩
set_option maxRecDepth 20000 in
theorem xm39 : xmf 39 := ⟨xin 575 rfl rfl, xin 69 rfl rfl, fun h => absurd h (by decide), fun _ => ⟨xin 573 rfl rfl, xin 574 rfl rfl⟩, fun h => absurd h (by decide), by decide +kernel⟩
set_option maxRecDepth 20000 in
theorem xm40 : xmf 40 := ⟨xin 645 rfl rfl, xin 69 rfl rfl, fun h => absurd h (by decide), fun _ => ⟨xin 643 rfl rfl, xin 644 rfl rfl⟩, fun h => absurd h (by decide), by decide +kernel⟩
set_option maxRecDepth 20000 in
theorem xm41 : xmf 41 := ⟨xin 558 rfl rfl, xin 69 rfl rfl, fun h => absurd h (by decide), fun _ => ⟨xin 556 rfl rfl, xin 557 rfl rfl⟩, fun h => absurd h (by decide), by decide +kernel⟩
set_option maxRecDepth 20000 in
theorem xm42 : xmf 42 := ⟨xin 271 rfl rfl, xin 73 rfl rfl, fun h => absurd h (by decide), fun h => absurd h (by decide), fun _ => ⟨xin 270 rfl rfl, rfl, rfl⟩, by decide +kernel⟩
set_option maxRecDepth 20000 in
theorem xm43 : xmf 43 := ⟨xin 714 rfl rfl, xin 73 rfl rfl, fun h => absurd h (by decide), fun _ => ⟨xin 712 rfl rfl, xin 713 rfl rfl⟩, fun h => absurd h (by decide), by decide +kernel⟩
set_option maxRecDepth 20000 in
theorem xm44 : xmf 44 := ⟨xin 720 rfl rfl, xin 73 rfl rfl, fun h => absurd h (by decide), fun _ => ⟨xin 718 rfl rfl, xin 719 rfl rfl⟩, fun h => absurd h (by decide), by decide +kernel⟩
set_option maxRecDepth 20000 in
theorem xm45 : xmf 45 := ⟨xin 727 rfl rfl, xin 73 rfl rfl, fun h => absurd h (by decide), fun _ => ⟨xin 725 rfl rfl, xin 726 rfl rfl⟩, fun h => absurd h (by decide), by decide +kernel⟩
set_option maxRecDepth 20000 in
theorem xm46 : xmf 46 := ⟨xin 731 rfl rfl, xin 73 rfl rfl, fun h => absurd h (by decide), fun _ => ⟨xin 729 rfl rfl, xin 730 rfl rfl⟩, fun h => absurd h (by decide), by decide +kernel⟩
set_option maxRecDepth 20000 in
theorem xm47 : xmf 47 := ⟨xin 850 rfl rfl, xin 73 rfl rfl, fun h => absurd h (by decide), fun _ => ⟨xin 848 rfl rfl, xin 849 rfl rfl⟩, fun h => absurd h (by decide), by decide +kernel⟩
set_option maxRecDepth 20000 in
theorem xm48 : xmf 48 := ⟨xin 858 rfl rfl, xin 73 rfl rfl, fun h => absurd h (by decide), fun _ => ⟨xin 856 rfl rfl, xin 857 rfl rfl⟩, fun h => absurd h (by decide), by decide +kernel⟩
set_option maxRecDepth 20000 in
theorem xm49 : xmf 49 := ⟨xin 862 rfl rfl, xin 73 rfl rfl, fun h => absurd h (by decide), fun _ => ⟨xin 860 rfl rfl, xin 861 rfl rfl⟩, fun h => absurd h (by decide), by decide +kernel⟩
set_option maxRecDepth 20000 in
theorem xm50 : xmf 50 := ⟨xin 866 rfl rfl, xin 73 rfl rfl, fun h => absurd h (by decide), fun _ => ⟨xin 864 rfl rfl, xin 865 rfl rfl⟩, fun h => absurd h (by decide), by decide +kernel⟩
set_option maxRecDepth 20000 in
theorem xm51 : xmf 51 := ⟨xin 870 rfl rfl, xin 73 rfl rfl, fun h => absurd h (by decide), fun _ => ⟨xin 868 rfl rfl, xin 869 rfl rfl⟩, fun h => absurd h (by decide), by decide +kernel⟩
set_option maxRecDepth 20000 in
theorem xm52 : xmf 52 := ⟨xin 894 rfl rfl, xin 73 rfl rfl, fun h => absurd h (by decide), fun _ => ⟨xin 892 rfl rfl, xin 893 rfl rfl⟩, fun h => absurd h (by decide), by decide +kernel⟩
set_option maxRecDepth 20000 in
theorem xm53 : xmf 53 := ⟨xin 919 rfl rfl, xin 73 rfl rfl, fun h => absurd h (by decide), fun _ => ⟨xin 917 rfl rfl, xin 918 rfl rfl⟩, fun h => absurd h (by decide), by decide +kernel⟩
set_option maxRecDepth 20000 in
theorem xm54 : xmf 54 := ⟨xin 890 rfl rfl, xin 73 rfl rfl, fun h => absurd h (by decide), fun _ => ⟨xin 888 rfl rfl, xin 889 rfl rfl⟩, fun h => absurd h (by decide), by decide +kernel⟩
set_option maxRecDepth 20000 in
theorem xm55 : xmf 55 := ⟨xin 878 rfl rfl, xin 73 rfl rfl, fun h => absurd h (by decide), fun _ => ⟨xin 876 rfl rfl, xin 877 rfl rfl⟩, fun h => absurd h (by decide), by decide +kernel⟩
set_option maxRecDepth 20000 in
theorem xm56 : xmf 56 := ⟨xin 874 rfl rfl, xin 73 rfl rfl, fun h => absurd h (by decide), fun _ => ⟨xin 872 rfl rfl, xin 873 rfl rfl⟩, fun h => absurd h (by decide), by decide +kernel⟩
set_option maxRecDepth 20000 in
theorem xm57 : xmf 57 := ⟨xin 923 rfl rfl, xin 73 rfl rfl, fun h => absurd h (by decide), fun _ => ⟨xin 921 rfl rfl, xin 922 rfl rfl⟩, fun h => absurd h (by decide), by decide +kernel⟩
set_option maxRecDepth 20000 in
theorem xm58 : xmf 58 := ⟨xin 927 rfl rfl, xin 73 rfl rfl, fun h => absurd h (by decide), fun _ => ⟨xin 925 rfl rfl, xin 926 rfl rfl⟩, fun h => absurd h (by decide), by decide +kernel⟩
set_option maxRecDepth 20000 in
theorem xm59 : xmf 59 := ⟨xin 962 rfl rfl, xin 73 rfl rfl, fun h => absurd h (by decide), fun _ => ⟨xin 960 rfl rfl, xin 961 rfl rfl⟩, fun h => absurd h (by decide), by decide +kernel⟩
set_option maxRecDepth 20000 in
theorem xm60 : xmf 60 := ⟨xin 966 rfl rfl, xin 73 rfl rfl, fun h => absurd h (by decide), fun _ => ⟨xin 964 rfl rfl, xin 965 rfl rfl⟩, fun h => absurd h (by decide), by decide +kernel⟩
set_option maxRecDepth 20000 in
theorem xm61 : xmf 61 := ⟨xin 931 rfl rfl, xin 73 rfl rfl, fun h => absurd h (by decide), fun _ => ⟨xin 929 rfl rfl, xin 930 rfl rfl⟩, fun h => absurd h (by decide), by decide +kernel⟩
set_option maxRecDepth 20000 in
theorem xm62 : xmf 62 := ⟨xin 934 rfl rfl, xin 73 rfl rfl, fun _ => xin 933 rfl rfl, fun h => absurd h (by decide), fun h => absurd h (by decide), by decide +kernel⟩
set_option maxRecDepth 20000 in
theorem xm63 : xmf 63 := ⟨xin 938 rfl rfl, xin 73 rfl rfl, fun h => absurd h (by decide), fun _ => ⟨xin 936 rfl rfl, xin 937 rfl rfl⟩, fun h => absurd h (by decide), by decide +kernel⟩
set_option maxRecDepth 20000 in
theorem xm64 : xmf 64 := ⟨xin 209 rfl rfl, xin 71 rfl rfl, fun h => absurd h (by decide), fun h => absurd h (by decide), fun _ => ⟨xin 208 rfl rfl, rfl, rfl⟩, by decide +kernel⟩
set_option maxRecDepth 20000 in
theorem xm65 : xmf 65 := ⟨xin 763 rfl rfl, xin 71 rfl rfl, fun _ => xin 762 rfl rfl, fun h => absurd h (by decide), fun h => absurd h (by decide), by decide +kernel⟩
set_option maxRecDepth 20000 in
theorem xm66 : xmf 66 := ⟨xin 680 rfl rfl, xin 71 rfl rfl, fun h => absurd h (by decide), fun _ => ⟨xin 678 rfl rfl, xin 679 rfl rfl⟩, fun h => absurd h (by decide), by decide +kernel⟩
set_option maxRecDepth 20000 in
theorem xm67 : xmf 67 := ⟨xin 688 rfl rfl, xin 71 rfl rfl, fun h => absurd h (by decide), fun _ => ⟨xin 686 rfl rfl, xin 687 rfl rfl⟩, fun h => absurd h (by decide), by decide +kernel⟩
set_option maxRecDepth 20000 in
theorem xm68 : xmf 68 := ⟨xin 684 rfl rfl, xin 71 rfl rfl, fun h => absurd h (by decide), fun _ => ⟨xin 682 rfl rfl, xin 683 rfl rfl⟩, fun h => absurd h (by decide), by decide +kernel⟩
set_option maxRecDepth 20000 in
theorem xm69 : xmf 69 := ⟨xin 97 rfl rfl, xin 67 rfl rfl, fun h => absurd h (by decide), fun h => absurd h (by decide), fun _ => ⟨xin 96 rfl rfl, rfl, rfl⟩, by decide +kernel⟩
set_option maxRecDepth 20000 in
theorem xm70 : xmf 70 := ⟨xin 385 rfl rfl, xin 67 rfl rfl, fun h => absurd h (by decide), fun _ => ⟨xin 383 rfl rfl, xin 384 rfl rfl⟩, fun h => absurd h (by decide), by decide +kernel⟩
set_option maxRecDepth 20000 in
theorem xm71 : xmf 71 := ⟨xin 389 rfl rfl, xin 67 rfl rfl, fun h => absurd h (by decide), fun _ => ⟨xin 387 rfl rfl, xin 388 rfl rfl⟩, fun h => absurd h (by decide), by decide +kernel⟩
set_option maxRecDepth 20000 in
theorem xm72 : xmf 72 := ⟨xin 401 rfl rfl, xin 67 rfl rfl, fun h => absurd h (by decide), fun _ => ⟨xin 399 rfl rfl, xin 400 rfl rfl⟩, fun h => absurd h (by decide), by decide +kernel⟩
set_option maxRecDepth 20000 in
theorem xm73 : xmf 73 := ⟨xin 496 rfl rfl, xin 67 rfl rfl, fun h => absurd h (by decide), fun _ => ⟨xin 494 rfl rfl, xin 495 rfl rfl⟩, fun h => absurd h (by decide), by decide +kernel⟩
set_option maxRecDepth 20000 in
theorem xm74 : xmf 74 := ⟨xin 405 rfl rfl, xin 67 rfl rfl, fun h => absurd h (by decide), fun _ => ⟨xin 403 rfl rfl, xin 404 rfl rfl⟩, fun h => absurd h (by decide), by decide +kernel⟩
set_option maxRecDepth 20000 in
theorem xm75 : xmf 75 := ⟨xin 500 rfl rfl, xin 67 rfl rfl, fun h => absurd h (by decide), fun _ => ⟨xin 498 rfl rfl, xin 499 rfl rfl⟩, fun h => absurd h (by decide), by decide +kernel⟩
set_option maxRecDepth 20000 in
theorem xm76 : xmf 76 := ⟨xin 492 rfl rfl, xin 67 rfl rfl, fun _ => xin 491 rfl rfl, fun h => absurd h (by decide), fun h => absurd h (by decide), by decide +kernel⟩
set_option maxRecDepth 20000 in
theorem xm77 : xmf 77 := ⟨xin 409 rfl rfl, xin 67 rfl rfl, fun h => absurd h (by decide), fun _ => ⟨xin 407 rfl rfl, xin 408 rfl rfl⟩, fun h => absurd h (by decide), by decide +kernel⟩
set_option maxRecDepth 20000 in
theorem xm78 : xmf 78 := ⟨xin 421 rfl rfl, xin 67 rfl rfl, fun h => absurd h (by decide), fun _ => ⟨xin 419 rfl rfl, xin 420 rfl rfl⟩, fun h => absurd h (by decide), by decide +kernel⟩
set_option maxRecDepth 20000 in
theorem xm79 : xmf 79 := ⟨xin 429 rfl rfl, xin 67 rfl rfl, fun h => absurd h (by decide), fun _ => ⟨xin 427 rfl rfl, xin 428 rfl rfl⟩, fun h => absurd h (by decide), by decide +kernel⟩
set_option maxRecDepth 20000 in
theorem xm80 : xmf 80 := ⟨xin 434 rfl rfl, xin 67 rfl rfl, fun h => absurd h (by decide), fun _ => ⟨xin 432 rfl rfl, xin 433 rfl rfl⟩, fun h => absurd h (by decide), by decide +kernel⟩
set_option maxRecDepth 20000 in
theorem xm81 : xmf 81 := ⟨xin 417 rfl rfl, xin 67 rfl rfl, fun h => absurd h (by decide), fun _ => ⟨xin 415 rfl rfl, xin 416 rfl rfl⟩, fun h => absurd h (by decide), by decide +kernel⟩
set_option maxRecDepth 20000 in
theorem xm82 : xmf 82 := ⟨xin 413 rfl rfl, xin 67 rfl rfl, fun h => absurd h (by decide), fun _ => ⟨xin 411 rfl rfl, xin 412 rfl rfl⟩, fun h => absurd h (by decide), by decide +kernel⟩
set_option maxRecDepth 20000 in
theorem xm83 : xmf 83 := ⟨xin 425 rfl rfl, xin 67 rfl rfl, fun h => absurd h (by decide), fun _ => ⟨xin 423 rfl rfl, xin 424 rfl rfl⟩, fun h => absurd h (by decide), by decide +kernel⟩
set_option maxRecDepth 20000 in
theorem xm84 : xmf 84 := ⟨xin 489 rfl rfl, xin 67 rfl rfl, fun h => absurd h (by decide), fun _ => ⟨xin 487 rfl rfl, xin 488 rfl rfl⟩, fun h => absurd h (by decide), by decide +kernel⟩
set_option maxRecDepth 20000 in
theorem xm85 : xmf 85 := ⟨xin 504 rfl rfl, xin 67 rfl rfl, fun h => absurd h (by decide), fun _ => ⟨xin 502 rfl rfl, xin 503 rfl rfl⟩, fun h => absurd h (by decide), by decide +kernel⟩
set_option maxRecDepth 20000 in
theorem xm86 : xmf 86 := ⟨xin 508 rfl rfl, xin 67 rfl rfl, fun h => absurd h (by decide), fun _ => ⟨xin 506 rfl rfl, xin 507 rfl rfl⟩, fun h => absurd h (by decide), by decide +kernel⟩
set_option maxRecDepth 20000 in
theorem xm87 : xmf 87 := ⟨xin 518 rfl rfl, xin 67 rfl rfl, fun h => absurd h (by decide), fun _ => ⟨xin 516 rfl rfl, xin 517 rfl rfl⟩, fun h => absurd h (by decide), by decide +kernel⟩
set_option maxRecDepth 20000 in
theorem xm88 : xmf 88 := ⟨xin 526 rfl rfl, xin 67 rfl rfl, fun h => absurd h (by decide), fun _ => ⟨xin 524 rfl rfl, xin 525 rfl rfl⟩, fun h => absurd h (by decide), by decide +kernel⟩
set_option maxRecDepth 20000 in
theorem xm89 : xmf 89 := ⟨xin 522 rfl rfl, xin 67 rfl rfl, fun h => absurd h (by decide), fun _ => ⟨xin 520 rfl rfl, xin 521 rfl rfl⟩, fun h => absurd h (by decide), by decide +kernel⟩
set_option maxRecDepth 20000 in
theorem xm90 : xmf 90 := ⟨xin 534 rfl rfl, xin 67 rfl rfl, fun h => absurd h (by decide), fun _ => ⟨xin 532 rfl rfl, xin 533 rfl rfl⟩, fun h => absurd h (by decide), by decide +kernel⟩
set_option maxRecDepth 20000 in
theorem xm91 : xmf 91 := ⟨xin 550 rfl rfl, xin 67 rfl rfl, fun h => absurd h (by decide), fun _ => ⟨xin 548 rfl rfl, xin 549 rfl rfl⟩, fun h => absurd h (by decide), by decide +kernel⟩
set_option maxRecDepth 20000 in
theorem xm92 : xmf 92 := ⟨xin 326 rfl rfl, xin 76 rfl rfl, fun h => absurd h (by decide), fun h => absurd h (by decide), fun _ => ⟨xin 325 rfl rfl, rfl, rfl⟩, by decide +kernel⟩
set_option maxRecDepth 20000 in
theorem xm93 : xmf 93 := ⟨xin 999 rfl rfl, xin 76 rfl rfl, fun h => absurd h (by decide), fun _ => ⟨xin 997 rfl rfl, xin 998 rfl rfl⟩, fun h => absurd h (by decide), by decide +kernel⟩
set_option maxRecDepth 20000 in
theorem xm94 : xmf 94 := ⟨xin 1011 rfl rfl, xin 76 rfl rfl, fun h => absurd h (by decide), fun _ => ⟨xin 1009 rfl rfl, xin 1010 rfl rfl⟩, fun h => absurd h (by decide), by decide +kernel⟩
set_option maxRecDepth 20000 in
theorem xm95 : xmf 95 := ⟨xin 1007 rfl rfl, xin 76 rfl rfl, fun _ => xin 1006 rfl rfl, fun h => absurd h (by decide), fun h => absurd h (by decide), by decide +kernel⟩
set_option maxRecDepth 20000 in
theorem xm96 : xmf 96 := ⟨xin 1003 rfl rfl, xin 76 rfl rfl, fun _ => xin 1002 rfl rfl, fun h => absurd h (by decide), fun h => absurd h (by decide), by decide +kernel⟩
set_option maxRecDepth 20000 in
theorem xm97 : xmf 97 := ⟨xin 750 rfl rfl, xin 84 rfl rfl, fun _ => xin 749 rfl rfl, fun h => absurd h (by decide), fun h => absurd h (by decide), by decide +kernel⟩
set_option maxRecDepth 20000 in
theorem xm98 : xmf 98 := ⟨xin 903 rfl rfl, xin 84 rfl rfl, fun _ => xin 902 rfl rfl, fun h => absurd h (by decide), fun h => absurd h (by decide), by decide +kernel⟩
set_option maxRecDepth 20000 in
theorem xm99 : xmf 99 := ⟨xin 814 rfl rfl, xin 84 rfl rfl, fun _ => xin 813 rfl rfl, fun h => absurd h (by decide), fun h => absurd h (by decide), by decide +kernel⟩
set_option maxRecDepth 20000 in
theorem xm100 : xmf 100 := ⟨xin 986 rfl rfl, xin 84 rfl rfl, fun _ => xin 985 rfl rfl, fun h => absurd h (by decide), fun h => absurd h (by decide), by decide +kernel⟩
set_option maxRecDepth 20000 in
theorem xm101 : xmf 101 := ⟨xin 824 rfl rfl, xin 84 rfl rfl, fun _ => xin 823 rfl rfl, fun h => absurd h (by decide), fun h => absurd h (by decide), by decide +kernel⟩
set_option maxRecDepth 20000 in
theorem xm102 : xmf 102 := ⟨xin 827 rfl rfl, xin 84 rfl rfl, fun _ => xin 826 rfl rfl, fun h => absurd h (by decide), fun h => absurd h (by decide), by decide +kernel⟩
set_option maxRecDepth 20000 in
theorem xm103 : xmf 103 := ⟨xin 899 rfl rfl, xin 84 rfl rfl, fun _ => xin 898 rfl rfl, fun h => absurd h (by decide), fun h => absurd h (by decide), by decide +kernel⟩
set_option maxRecDepth 20000 in
theorem xm104 : xmf 104 := ⟨xin 1036 rfl rfl, xin 84 rfl rfl, fun _ => xin 1035 rfl rfl, fun h => absurd h (by decide), fun h => absurd h (by decide), by decide +kernel⟩
set_option maxRecDepth 20000 in
theorem xm105 : xmf 105 := ⟨xin 1027 rfl rfl, xin 84 rfl rfl, fun _ => xin 1026 rfl rfl, fun h => absurd h (by decide), fun h => absurd h (by decide), by decide +kernel⟩
set_option maxRecDepth 20000 in
theorem xm106 : xmf 106 := ⟨xin 1032 rfl rfl, xin 84 rfl rfl, fun _ => xin 1031 rfl rfl, fun h => absurd h (by decide), fun h => absurd h (by decide), by decide +kernel⟩
set_option maxRecDepth 20000 in
theorem xm107 : xmf 107 := ⟨xin 310 rfl rfl, xin 75 rfl rfl, fun h => absurd h (by decide), fun h => absurd h (by decide), fun _ => ⟨xin 309 rfl rfl, rfl, rfl⟩, by decide +kernel⟩
set_option maxRecDepth 20000 in
theorem xm108 : xmf 108 := ⟨xin 907 rfl rfl, xin 75 rfl rfl, fun h => absurd h (by decide), fun _ => ⟨xin 905 rfl rfl, xin 906 rfl rfl⟩, fun h => absurd h (by decide), by decide +kernel⟩
set_option maxRecDepth 20000 in
theorem xm109 : xmf 109 := ⟨xin 948 rfl rfl, xin 75 rfl rfl, fun h => absurd h (by decide), fun _ => ⟨xin 946 rfl rfl, xin 947 rfl rfl⟩, fun h => absurd h (by decide), by decide +kernel⟩
set_option maxRecDepth 20000 in
theorem xm110 : xmf 110 := ⟨xin 912 rfl rfl, xin 75 rfl rfl, fun h => absurd h (by decide), fun _ => ⟨xin 910 rfl rfl, xin 911 rfl rfl⟩, fun h => absurd h (by decide), by decide +kernel⟩
set_option maxRecDepth 20000 in
theorem xm111 : xmf 111 := ⟨xin 915 rfl rfl, xin 75 rfl rfl, fun _ => xin 914 rfl rfl, fun h => absurd h (by decide), fun h => absurd h (by decide), by decide +kernel⟩
set_option maxRecDepth 20000 in
theorem xm112 : xmf 112 := ⟨xin 974 rfl rfl, xin 75 rfl rfl, fun h => absurd h (by decide), fun _ => ⟨xin 972 rfl rfl, xin 973 rfl rfl⟩, fun h => absurd h (by decide), by decide +kernel⟩
set_option maxRecDepth 20000 in
theorem xm113 : xmf 113 := ⟨xin 977 rfl rfl, xin 75 rfl rfl, fun _ => xin 976 rfl rfl, fun h => absurd h (by decide), fun h => absurd h (by decide), by decide +kernel⟩
set_option maxRecDepth 20000 in
theorem xm114 : xmf 114 := ⟨xin 89 rfl rfl, xin 66 rfl rfl, fun h => absurd h (by decide), fun h => absurd h (by decide), fun _ => ⟨xin 88 rfl rfl, rfl, rfl⟩, by decide +kernel⟩
set_option maxRecDepth 20000 in
theorem xm115 : xmf 115 := ⟨xin 381 rfl rfl, xin 66 rfl rfl, fun h => absurd h (by decide), fun _ => ⟨xin 379 rfl rfl, xin 380 rfl rfl⟩, fun h => absurd h (by decide), by decide +kernel⟩
set_option maxRecDepth 20000 in
theorem xm116 : xmf 116 := ⟨xin 393 rfl rfl, xin 66 rfl rfl, fun h => absurd h (by decide), fun _ => ⟨xin 391 rfl rfl, xin 392 rfl rfl⟩, fun h => absurd h (by decide), by decide +kernel⟩
set_option maxRecDepth 20000 in
theorem xm117 : xmf 117 := ⟨xin 397 rfl rfl, xin 66 rfl rfl, fun h => absurd h (by decide), fun _ => ⟨xin 395 rfl rfl, xin 396 rfl rfl⟩, fun h => absurd h (by decide), by decide +kernel⟩
set_option maxRecDepth 20000 in
theorem xm118 : xmf 118 := ⟨xin 562 rfl rfl, xin 66 rfl rfl, fun h => absurd h (by decide), fun _ => ⟨xin 560 rfl rfl, xin 561 rfl rfl⟩, fun h => absurd h (by decide), by decide +kernel⟩
set_option maxRecDepth 20000 in
theorem xm119 : xmf 119 := ⟨xin 566 rfl rfl, xin 66 rfl rfl, fun h => absurd h (by decide), fun _ => ⟨xin 564 rfl rfl, xin 565 rfl rfl⟩, fun h => absurd h (by decide), by decide +kernel⟩
set_option maxRecDepth 20000 in
theorem xm120 : xmf 120 := ⟨xin 587 rfl rfl, xin 66 rfl rfl, fun h => absurd h (by decide), fun _ => ⟨xin 585 rfl rfl, xin 586 rfl rfl⟩, fun h => absurd h (by decide), by decide +kernel⟩
set_option maxRecDepth 20000 in
theorem xm121 : xmf 121 := ⟨xin 609 rfl rfl, xin 66 rfl rfl, fun h => absurd h (by decide), fun _ => ⟨xin 607 rfl rfl, xin 608 rfl rfl⟩, fun h => absurd h (by decide), by decide +kernel⟩
set_option maxRecDepth 20000 in
theorem xm122 : xmf 122 := ⟨xin 623 rfl rfl, xin 66 rfl rfl, fun h => absurd h (by decide), fun _ => ⟨xin 621 rfl rfl, xin 622 rfl rfl⟩, fun h => absurd h (by decide), by decide +kernel⟩
set_option maxRecDepth 20000 in
theorem xm123 : xmf 123 := ⟨xin 637 rfl rfl, xin 66 rfl rfl, fun h => absurd h (by decide), fun _ => ⟨xin 635 rfl rfl, xin 636 rfl rfl⟩, fun h => absurd h (by decide), by decide +kernel⟩
set_option maxRecDepth 20000 in
theorem xm124 : xmf 124 := ⟨xin 641 rfl rfl, xin 66 rfl rfl, fun h => absurd h (by decide), fun _ => ⟨xin 639 rfl rfl, xin 640 rfl rfl⟩, fun h => absurd h (by decide), by decide +kernel⟩
set_option maxRecDepth 20000 in
theorem xm125 : xmf 125 := ⟨xin 649 rfl rfl, xin 66 rfl rfl, fun h => absurd h (by decide), fun _ => ⟨xin 647 rfl rfl, xin 648 rfl rfl⟩, fun h => absurd h (by decide), by decide +kernel⟩
set_option maxRecDepth 20000 in
theorem xm126 : xmf 126 := ⟨xin 747 rfl rfl, xin 66 rfl rfl, fun h => absurd h (by decide), fun _ => ⟨xin 745 rfl rfl, xin 746 rfl rfl⟩, fun h => absurd h (by decide), by decide +kernel⟩
set_option maxRecDepth 20000 in
theorem xm127 : xmf 127 := ⟨xin 755 rfl rfl, xin 66 rfl rfl, fun h => absurd h (by decide), fun _ => ⟨xin 753 rfl rfl, xin 754 rfl rfl⟩, fun h => absurd h (by decide), by decide +kernel⟩
set_option maxRecDepth 20000 in
theorem xm128 : xmf 128 := ⟨xin 759 rfl rfl, xin 66 rfl rfl, fun h => absurd h (by decide), fun _ => ⟨xin 757 rfl rfl, xin 758 rfl rfl⟩, fun h => absurd h (by decide), by decide +kernel⟩
set_option maxRecDepth 20000 in
theorem xm129 : xmf 129 := ⟨xin 767 rfl rfl, xin 66 rfl rfl, fun h => absurd h (by decide), fun _ => ⟨xin 765 rfl rfl, xin 766 rfl rfl⟩, fun h => absurd h (by decide), by decide +kernel⟩
set_option maxRecDepth 20000 in
theorem xm130 : xmf 130 := ⟨xin 784 rfl rfl, xin 66 rfl rfl, fun h => absurd h (by decide), fun _ => ⟨xin 782 rfl rfl, xin 783 rfl rfl⟩, fun h => absurd h (by decide), by decide +kernel⟩
set_option maxRecDepth 20000 in
theorem xm131 : xmf 131 := ⟨xin 798 rfl rfl, xin 66 rfl rfl, fun h => absurd h (by decide), fun _ => ⟨xin 796 rfl rfl, xin 797 rfl rfl⟩, fun h => absurd h (by decide), by decide +kernel⟩
set_option maxRecDepth 20000 in
theorem xm132 : xmf 132 := ⟨xin 846 rfl rfl, xin 66 rfl rfl, fun h => absurd h (by decide), fun _ => ⟨xin 844 rfl rfl, xin 845 rfl rfl⟩, fun h => absurd h (by decide), by decide +kernel⟩
set_option maxRecDepth 20000 in
theorem xm133 : xmf 133 := ⟨xin 854 rfl rfl, xin 66 rfl rfl, fun h => absurd h (by decide), fun _ => ⟨xin 852 rfl rfl, xin 853 rfl rfl⟩, fun h => absurd h (by decide), by decide +kernel⟩
set_option maxRecDepth 20000 in
theorem xm134 : xmf 134 := ⟨xin 886 rfl rfl, xin 66 rfl rfl, fun h => absurd h (by decide), fun _ => ⟨xin 884 rfl rfl, xin 885 rfl rfl⟩, fun h => absurd h (by decide), by decide +kernel⟩
set_option maxRecDepth 20000 in
theorem xm135 : xmf 135 := ⟨xin 944 rfl rfl, xin 66 rfl rfl, fun h => absurd h (by decide), fun _ => ⟨xin 942 rfl rfl, xin 943 rfl rfl⟩, fun h => absurd h (by decide), by decide +kernel⟩
set_option maxRecDepth 20000 in
theorem xm136 : xmf 136 := ⟨xin 952 rfl rfl, xin 66 rfl rfl, fun h => absurd h (by decide), fun _ => ⟨xin 950 rfl rfl, xin 951 rfl rfl⟩, fun h => absurd h (by decide), by decide +kernel⟩
set_option maxRecDepth 20000 in
theorem xm137 : xmf 137 := ⟨xin 957 rfl rfl, xin 66 rfl rfl, fun h => absurd h (by decide), fun _ => ⟨xin 955 rfl rfl, xin 956 rfl rfl⟩, fun h => absurd h (by decide), by decide +kernel⟩
set_option maxRecDepth 20000 in
theorem xm138 : xmf 138 := ⟨xin 970 rfl rfl, xin 66 rfl rfl, fun h => absurd h (by decide), fun _ => ⟨xin 968 rfl rfl, xin 969 rfl rfl⟩, fun h => absurd h (by decide), by decide +kernel⟩
set_option maxRecDepth 20000 in
theorem xm139 : xmf 139 := ⟨xin 981 rfl rfl, xin 66 rfl rfl, fun h => absurd h (by decide), fun _ => ⟨xin 979 rfl rfl, xin 980 rfl rfl⟩, fun h => absurd h (by decide), by decide +kernel⟩
set_option maxRecDepth 20000 in
theorem xm140 : xmf 140 := ⟨xin 991 rfl rfl, xin 66 rfl rfl, fun h => absurd h (by decide), fun _ => ⟨xin 989 rfl rfl, xin 990 rfl rfl⟩, fun h => absurd h (by decide), by decide +kernel⟩
set_option maxRecDepth 20000 in
theorem xm141 : xmf 141 := ⟨xin 1016 rfl rfl, xin 66 rfl rfl, fun h => absurd h (by decide), fun _ => ⟨xin 1014 rfl rfl, xin 1015 rfl rfl⟩, fun h => absurd h (by decide), by decide +kernel⟩
set_option maxRecDepth 20000 in
theorem xm142 : xmf 142 := ⟨xin 1020 rfl rfl, xin 66 rfl rfl, fun h => absurd h (by decide), fun _ => ⟨xin 1018 rfl rfl, xin 1019 rfl rfl⟩, fun h => absurd h (by decide), by decide +kernel⟩
set_option maxRecDepth 20000 in
theorem xm143 : xmf 143 := ⟨xin 1024 rfl rfl, xin 66 rfl rfl, fun h => absurd h (by decide), fun _ => ⟨xin 1022 rfl rfl, xin 1023 rfl rfl⟩, fun h => absurd h (by decide), by decide +kernel⟩
set_option maxRecDepth 20000 in
theorem xm144 : xmf 144 := ⟨xin 743 rfl rfl, xin 66 rfl rfl, fun _ => xin 742 rfl rfl, fun h => absurd h (by decide), fun h => absurd h (by decide), by decide +kernel⟩
set_option maxRecDepth 20000 in
theorem xm145 : xmf 145 := ⟨xin 659 rfl rfl, xin 66 rfl rfl, fun _ => xin 658 rfl rfl, fun h => absurd h (by decide), fun h => absurd h (by decide), by decide +kernel⟩
set_option maxRecDepth 20000 in
theorem xm146 : xmf 146 := ⟨xin 656 rfl rfl, xin 66 rfl rfl, fun _ => xin 655 rfl rfl, fun h => absurd h (by decide), fun h => absurd h (by decide), by decide +kernel⟩
set_option maxRecDepth 20000 in
theorem xm147 : xmf 147 := ⟨xin 537 rfl rfl, xin 66 rfl rfl, fun _ => xin 536 rfl rfl, fun h => absurd h (by decide), fun h => absurd h (by decide), by decide +kernel⟩
set_option maxRecDepth 20000 in
theorem xm148 : xmf 148 := ⟨xin 662 rfl rfl, xin 66 rfl rfl, fun _ => xin 661 rfl rfl, fun h => absurd h (by decide), fun h => absurd h (by decide), by decide +kernel⟩
set_option maxRecDepth 20000 in
theorem xm149 : xmf 149 := ⟨xin 571 rfl rfl, xin 66 rfl rfl, fun h => absurd h (by decide), fun _ => ⟨xin 570 rfl rfl, xin 0 rfl rfl⟩, fun h => absurd h (by decide), by decide +kernel⟩
set_option maxRecDepth 20000 in
theorem xm150 : xmf 150 := ⟨xin 995 rfl rfl, xin 66 rfl rfl, fun h => absurd h (by decide), fun _ => ⟨xin 994 rfl rfl, xin 4 rfl rfl⟩, fun h => absurd h (by decide), by decide +kernel⟩
set_option maxRecDepth 20000 in
theorem xm151 : xmf 151 := ⟨xin 840 rfl rfl, xin 66 rfl rfl, fun h => absurd h (by decide), fun _ => ⟨xin 839 rfl rfl, xin 2 rfl rfl⟩, fun h => absurd h (by decide), by decide +kernel⟩
set_option maxRecDepth 20000 in
theorem xm152 : xmf 152 := ⟨xin 667 rfl rfl, xin 66 rfl rfl, fun h => absurd h (by decide), fun _ => ⟨xin 666 rfl rfl, xin 1 rfl rfl⟩, fun h => absurd h (by decide), by decide +kernel⟩
set_option maxRecDepth 20000 in
theorem xm153 : xmf 153 := ⟨xin 882 rfl rfl, xin 66 rfl rfl, fun h => absurd h (by decide), fun _ => ⟨xin 881 rfl rfl, xin 3 rfl rfl⟩, fun h => absurd h (by decide), by decide +kernel⟩
set_option maxRecDepth 20000 in
theorem xm154 : xmf 154 := ⟨xin 1041 rfl rfl, xin 77 rfl rfl, fun h => absurd h (by decide), fun h => absurd h (by decide), fun _ => ⟨xin 1040 rfl rfl, rfl, rfl⟩, by decide +kernel⟩
set_option maxRecDepth 20000 in
theorem xm155 : xmf 155 := ⟨xin 1224 rfl rfl, xin 77 rfl rfl, fun h => absurd h (by decide), fun _ => ⟨xin 1222 rfl rfl, xin 1223 rfl rfl⟩, fun h => absurd h (by decide), by decide +kernel⟩
set_option maxRecDepth 20000 in
theorem xm156 : xmf 156 := ⟨xin 1228 rfl rfl, xin 77 rfl rfl, fun h => absurd h (by decide), fun _ => ⟨xin 1227 rfl rfl, xin 5 rfl rfl⟩, fun h => absurd h (by decide), by decide +kernel⟩
set_option maxRecDepth 20000 in
theorem xm157 : xmf 157 := ⟨xin 1232 rfl rfl, xin 77 rfl rfl, fun h => absurd h (by decide), fun _ => ⟨xin 1230 rfl rfl, xin 1231 rfl rfl⟩, fun h => absurd h (by decide), by decide +kernel⟩
set_option maxRecDepth 20000 in
theorem xm158 : xmf 158 := ⟨xin 1244 rfl rfl, xin 77 rfl rfl, fun h => absurd h (by decide), fun _ => ⟨xin 1243 rfl rfl, xin 7 rfl rfl⟩, fun h => absurd h (by decide), by decide +kernel⟩
set_option maxRecDepth 20000 in
theorem xm159 : xmf 159 := ⟨xin 1254 rfl rfl, xin 77 rfl rfl, fun _ => xin 1253 rfl rfl, fun h => absurd h (by decide), fun h => absurd h (by decide), by decide +kernel⟩
set_option maxRecDepth 20000 in
theorem xm160 : xmf 160 := ⟨xin 1251 rfl rfl, xin 77 rfl rfl, fun _ => xin 1250 rfl rfl, fun h => absurd h (by decide), fun h => absurd h (by decide), by decide +kernel⟩
set_option maxRecDepth 20000 in
theorem xm161 : xmf 161 := ⟨xin 1048 rfl rfl, xin 77 rfl rfl, fun _ => xin 1047 rfl rfl, fun h => absurd h (by decide), fun h => absurd h (by decide), by decide +kernel⟩
set_option maxRecDepth 20000 in
theorem xm162 : xmf 162 := ⟨xin 1045 rfl rfl, xin 77 rfl rfl, fun _ => xin 1044 rfl rfl, fun h => absurd h (by decide), fun h => absurd h (by decide), by decide +kernel⟩
set_option maxRecDepth 20000 in
theorem xm163 : xmf 163 := ⟨xin 1248 rfl rfl, xin 77 rfl rfl, fun h => absurd h (by decide), fun _ => ⟨xin 1247 rfl rfl, xin 8 rfl rfl⟩, fun h => absurd h (by decide), by decide +kernel⟩
set_option maxRecDepth 20000 in
theorem xm164 : xmf 164 := ⟨xin 1240 rfl rfl, xin 77 rfl rfl, fun h => absurd h (by decide), fun _ => ⟨xin 1239 rfl rfl, xin 6 rfl rfl⟩, fun h => absurd h (by decide), by decide +kernel⟩
set_option maxRecDepth 20000 in
theorem xm165 : xmf 165 := ⟨xin 1258 rfl rfl, xin 77 rfl rfl, fun h => absurd h (by decide), fun _ => ⟨xin 1257 rfl rfl, xin 9 rfl rfl⟩, fun h => absurd h (by decide), by decide +kernel⟩
set_option maxRecDepth 20000 in
theorem xm166 : xmf 166 := ⟨xin 1266 rfl rfl, xin 77 rfl rfl, fun h => absurd h (by decide), fun _ => ⟨xin 1265 rfl rfl, xin 11 rfl rfl⟩, fun h => absurd h (by decide), by decide +kernel⟩
set_option maxRecDepth 20000 in
theorem xm167 : xmf 167 := ⟨xin 1274 rfl rfl, xin 77 rfl rfl, fun h => absurd h (by decide), fun _ => ⟨xin 1273 rfl rfl, xin 13 rfl rfl⟩, fun h => absurd h (by decide), by decide +kernel⟩
set_option maxRecDepth 20000 in
theorem xm168 : xmf 168 := ⟨xin 1290 rfl rfl, xin 77 rfl rfl, fun h => absurd h (by decide), fun _ => ⟨xin 1289 rfl rfl, xin 17 rfl rfl⟩, fun h => absurd h (by decide), by decide +kernel⟩
set_option maxRecDepth 20000 in
theorem xm169 : xmf 169 := ⟨xin 1270 rfl rfl, xin 77 rfl rfl, fun h => absurd h (by decide), fun _ => ⟨xin 1269 rfl rfl, xin 12 rfl rfl⟩, fun h => absurd h (by decide), by decide +kernel⟩
set_option maxRecDepth 20000 in
theorem xm170 : xmf 170 := ⟨xin 1262 rfl rfl, xin 77 rfl rfl, fun h => absurd h (by decide), fun _ => ⟨xin 1261 rfl rfl, xin 10 rfl rfl⟩, fun h => absurd h (by decide), by decide +kernel⟩
set_option maxRecDepth 20000 in
theorem xm171 : xmf 171 := ⟨xin 1236 rfl rfl, xin 77 rfl rfl, fun h => absurd h (by decide), fun _ => ⟨xin 1234 rfl rfl, xin 1235 rfl rfl⟩, fun h => absurd h (by decide), by decide +kernel⟩
set_option maxRecDepth 20000 in
theorem xm172 : xmf 172 := ⟨xin 1312 rfl rfl, xin 77 rfl rfl, fun h => absurd h (by decide), fun _ => ⟨xin 1310 rfl rfl, xin 1311 rfl rfl⟩, fun h => absurd h (by decide), by decide +kernel⟩
set_option maxRecDepth 20000 in
theorem xm173 : xmf 173 := ⟨xin 1278 rfl rfl, xin 77 rfl rfl, fun h => absurd h (by decide), fun _ => ⟨xin 1277 rfl rfl, xin 14 rfl rfl⟩, fun h => absurd h (by decide), by decide +kernel⟩
set_option maxRecDepth 20000 in
theorem xm174 : xmf 174 := ⟨xin 1286 rfl rfl, xin 77 rfl rfl, fun h => absurd h (by decide), fun _ => ⟨xin 1285 rfl rfl, xin 16 rfl rfl⟩, fun h => absurd h (by decide), by decide +kernel⟩
set_option maxRecDepth 20000 in
theorem xm175 : xmf 175 := ⟨xin 1282 rfl rfl, xin 77 rfl rfl, fun h => absurd h (by decide), fun _ => ⟨xin 1281 rfl rfl, xin 15 rfl rfl⟩, fun h => absurd h (by decide), by decide +kernel⟩
set_option maxRecDepth 20000 in
theorem xm176 : xmf 176 := ⟨xin 1297 rfl rfl, xin 77 rfl rfl, fun _ => xin 1296 rfl rfl, fun h => absurd h (by decide), fun h => absurd h (by decide), by decide +kernel⟩
set_option maxRecDepth 20000 in
theorem xm177 : xmf 177 := ⟨xin 1294 rfl rfl, xin 77 rfl rfl, fun h => absurd h (by decide), fun _ => ⟨xin 1293 rfl rfl, xin 18 rfl rfl⟩, fun h => absurd h (by decide), by decide +kernel⟩
set_option maxRecDepth 20000 in
theorem xm178 : xmf 178 := ⟨xin 1301 rfl rfl, xin 77 rfl rfl, fun h => absurd h (by decide), fun _ => ⟨xin 1300 rfl rfl, xin 19 rfl rfl⟩, fun h => absurd h (by decide), by decide +kernel⟩
set_option maxRecDepth 20000 in
theorem xm179 : xmf 179 := ⟨xin 1305 rfl rfl, xin 77 rfl rfl, fun h => absurd h (by decide), fun _ => ⟨xin 1304 rfl rfl, xin 20 rfl rfl⟩, fun h => absurd h (by decide), by decide +kernel⟩
set_option maxRecDepth 20000 in
theorem xm180 : xmf 180 := ⟨xin 1323 rfl rfl, xin 77 rfl rfl, fun _ => xin 1322 rfl rfl, fun h => absurd h (by decide), fun h => absurd h (by decide), by decide +kernel⟩
set_option maxRecDepth 20000 in
theorem xm181 : xmf 181 := ⟨xin 1357 rfl rfl, xin 77 rfl rfl, fun _ => xin 1356 rfl rfl, fun h => absurd h (by decide), fun h => absurd h (by decide), by decide +kernel⟩
set_option maxRecDepth 20000 in
theorem xm182 : xmf 182 := ⟨xin 1354 rfl rfl, xin 77 rfl rfl, fun _ => xin 1353 rfl rfl, fun h => absurd h (by decide), fun h => absurd h (by decide), by decide +kernel⟩
set_option maxRecDepth 20000 in
theorem xm183 : xmf 183 := ⟨xin 1308 rfl rfl, xin 77 rfl rfl, fun _ => xin 1307 rfl rfl, fun h => absurd h (by decide), fun h => absurd h (by decide), by decide +kernel⟩
set_option maxRecDepth 20000 in
theorem xm184 : xmf 184 := ⟨xin 1335 rfl rfl, xin 77 rfl rfl, fun h => absurd h (by decide), fun _ => ⟨xin 1334 rfl rfl, xin 21 rfl rfl⟩, fun h => absurd h (by decide), by decide +kernel⟩
set_option maxRecDepth 20000 in
theorem xm185 : xmf 185 := ⟨xin 1339 rfl rfl, xin 77 rfl rfl, fun h => absurd h (by decide), fun _ => ⟨xin 1338 rfl rfl, xin 22 rfl rfl⟩, fun h => absurd h (by decide), by decide +kernel⟩
set_option maxRecDepth 20000 in
theorem xm186 : xmf 186 := ⟨xin 1316 rfl rfl, xin 77 rfl rfl, fun h => absurd h (by decide), fun _ => ⟨xin 1314 rfl rfl, xin 1315 rfl rfl⟩, fun h => absurd h (by decide), by decide +kernel⟩
set_option maxRecDepth 20000 in
theorem xm187 : xmf 187 := ⟨xin 1320 rfl rfl, xin 77 rfl rfl, fun h => absurd h (by decide), fun _ => ⟨xin 1318 rfl rfl, xin 1319 rfl rfl⟩, fun h => absurd h (by decide), by decide +kernel⟩
set_option maxRecDepth 20000 in
theorem xm188 : xmf 188 := ⟨xin 1327 rfl rfl, xin 77 rfl rfl, fun h => absurd h (by decide), fun _ => ⟨xin 1325 rfl rfl, xin 1326 rfl rfl⟩, fun h => absurd h (by decide), by decide +kernel⟩
set_option maxRecDepth 20000 in
theorem xm189 : xmf 189 := ⟨xin 1331 rfl rfl, xin 77 rfl rfl, fun h => absurd h (by decide), fun _ => ⟨xin 1329 rfl rfl, xin 1330 rfl rfl⟩, fun h => absurd h (by decide), by decide +kernel⟩
set_option maxRecDepth 20000 in
theorem xm190 : xmf 190 := ⟨xin 1347 rfl rfl, xin 77 rfl rfl, fun h => absurd h (by decide), fun _ => ⟨xin 1346 rfl rfl, xin 23 rfl rfl⟩, fun h => absurd h (by decide), by decide +kernel⟩
set_option maxRecDepth 20000 in
theorem xm191 : xmf 191 := ⟨xin 1343 rfl rfl, xin 77 rfl rfl, fun h => absurd h (by decide), fun _ => ⟨xin 1341 rfl rfl, xin 1342 rfl rfl⟩, fun h => absurd h (by decide), by decide +kernel⟩
set_option maxRecDepth 20000 in
theorem xm192 : xmf 192 := ⟨xin 1361 rfl rfl, xin 77 rfl rfl, fun h => absurd h (by decide), fun _ => ⟨xin 1359 rfl rfl, xin 1360 rfl rfl⟩, fun h => absurd h (by decide), by decide +kernel⟩
set_option maxRecDepth 20000 in
theorem xm193 : xmf 193 := ⟨xin 1365 rfl rfl, xin 77 rfl rfl, fun h => absurd h (by decide), fun _ => ⟨xin 1363 rfl rfl, xin 1364 rfl rfl⟩, fun h => absurd h (by decide), by decide +kernel⟩
set_option maxRecDepth 20000 in
theorem xm194 : xmf 194 := ⟨xin 1369 rfl rfl, xin 77 rfl rfl, fun h => absurd h (by decide), fun _ => ⟨xin 1367 rfl rfl, xin 1368 rfl rfl⟩, fun h => absurd h (by decide), by decide +kernel⟩
set_option maxRecDepth 20000 in
theorem xm195 : xmf 195 := ⟨xin 1351 rfl rfl, xin 77 rfl rfl, fun h => absurd h (by decide), fun _ => ⟨xin 1350 rfl rfl, xin 24 rfl rfl⟩, fun h => absurd h (by decide), by decide +kernel⟩
set_option maxRecDepth 20000 in
theorem xm196 : xmf 196 := ⟨xin 1402 rfl rfl, xin 77 rfl rfl, fun h => absurd h (by decide), fun _ => ⟨xin 1401 rfl rfl, xin 27 rfl rfl⟩, fun h => absurd h (by decide), by decide +kernel⟩
set_option maxRecDepth 20000 in
theorem xm197 : xmf 197 := ⟨xin 1414 rfl rfl, xin 77 rfl rfl, fun h => absurd h (by decide), fun _ => ⟨xin 1413 rfl rfl, xin 28 rfl rfl⟩, fun h => absurd h (by decide), by decide +kernel⟩
set_option maxRecDepth 20000 in
theorem xm198 : xmf 198 := ⟨xin 1373 rfl rfl, xin 77 rfl rfl, fun h => absurd h (by decide), fun _ => ⟨xin 1371 rfl rfl, xin 1372 rfl rfl⟩, fun h => absurd h (by decide), by decide +kernel⟩
set_option maxRecDepth 20000 in
theorem xm199 : xmf 199 := ⟨xin 1380 rfl rfl, xin 77 rfl rfl, fun _ => xin 1379 rfl rfl, fun h => absurd h (by decide), fun h => absurd h (by decide), by decide +kernel⟩
set_option maxRecDepth 20000 in
theorem xm200 : xmf 200 := ⟨xin 1383 rfl rfl, xin 77 rfl rfl, fun _ => xin 1382 rfl rfl, fun h => absurd h (by decide), fun h => absurd h (by decide), by decide +kernel⟩
set_option maxRecDepth 20000 in
theorem xm201 : xmf 201 := ⟨xin 1377 rfl rfl, xin 77 rfl rfl, fun h => absurd h (by decide), fun _ => ⟨xin 1375 rfl rfl, xin 1376 rfl rfl⟩, fun h => absurd h (by decide), by decide +kernel⟩
set_option maxRecDepth 20000 in
theorem xm202 : xmf 202 := ⟨xin 1391 rfl rfl, xin 77 rfl rfl, fun h => absurd h (by decide), fun _ => ⟨xin 1390 rfl rfl, xin 25 rfl rfl⟩, fun h => absurd h (by decide), by decide +kernel⟩
set_option maxRecDepth 20000 in
theorem xm203 : xmf 203 := ⟨xin 1398 rfl rfl, xin 77 rfl rfl, fun _ => xin 1397 rfl rfl, fun h => absurd h (by decide), fun h => absurd h (by decide), by decide +kernel⟩
set_option maxRecDepth 20000 in
theorem xm204 : xmf 204 := ⟨xin 1395 rfl rfl, xin 77 rfl rfl, fun h => absurd h (by decide), fun _ => ⟨xin 1394 rfl rfl, xin 26 rfl rfl⟩, fun h => absurd h (by decide), by decide +kernel⟩
set_option maxRecDepth 20000 in
theorem xm205 : xmf 205 := ⟨xin 1426 rfl rfl, xin 77 rfl rfl, fun h => absurd h (by decide), fun _ => ⟨xin 1425 rfl rfl, xin 31 rfl rfl⟩, fun h => absurd h (by decide), by decide +kernel⟩
set_option maxRecDepth 20000 in
theorem xm206 : xmf 206 := ⟨xin 1422 rfl rfl, xin 77 rfl rfl, fun h => absurd h (by decide), fun _ => ⟨xin 1421 rfl rfl, xin 30 rfl rfl⟩, fun h => absurd h (by decide), by decide +kernel⟩
set_option maxRecDepth 20000 in
theorem xm207 : xmf 207 := ⟨xin 1387 rfl rfl, xin 77 rfl rfl, fun h => absurd h (by decide), fun _ => ⟨xin 1385 rfl rfl, xin 1386 rfl rfl⟩, fun h => absurd h (by decide), by decide +kernel⟩
set_option maxRecDepth 20000 in
theorem xm208 : xmf 208 := ⟨xin 1406 rfl rfl, xin 77 rfl rfl, fun h => absurd h (by decide), fun _ => ⟨xin 1404 rfl rfl, xin 1405 rfl rfl⟩, fun h => absurd h (by decide), by decide +kernel⟩
set_option maxRecDepth 20000 in
theorem xm209 : xmf 209 := ⟨xin 1430 rfl rfl, xin 77 rfl rfl, fun h => absurd h (by decide), fun _ => ⟨xin 1429 rfl rfl, xin 32 rfl rfl⟩, fun h => absurd h (by decide), by decide +kernel⟩
set_option maxRecDepth 20000 in
theorem xm210 : xmf 210 := ⟨xin 1434 rfl rfl, xin 77 rfl rfl, fun h => absurd h (by decide), fun _ => ⟨xin 1433 rfl rfl, xin 33 rfl rfl⟩, fun h => absurd h (by decide), by decide +kernel⟩
set_option maxRecDepth 20000 in
theorem xm211 : xmf 211 := ⟨xin 1418 rfl rfl, xin 77 rfl rfl, fun h => absurd h (by decide), fun _ => ⟨xin 1417 rfl rfl, xin 29 rfl rfl⟩, fun h => absurd h (by decide), by decide +kernel⟩
set_option maxRecDepth 20000 in
theorem xm212 : xmf 212 := ⟨xin 1410 rfl rfl, xin 77 rfl rfl, fun h => absurd h (by decide), fun _ => ⟨xin 1408 rfl rfl, xin 1409 rfl rfl⟩, fun h => absurd h (by decide), by decide +kernel⟩
set_option maxRecDepth 20000 in
theorem xm213 : xmf 213 := ⟨xin 1438 rfl rfl, xin 77 rfl rfl, fun h => absurd h (by decide), fun _ => ⟨xin 1436 rfl rfl, xin 1437 rfl rfl⟩, fun h => absurd h (by decide), by decide +kernel⟩
set_option maxRecDepth 20000 in
theorem xm214 : xmf 214 := ⟨xin 1454 rfl rfl, xin 77 rfl rfl, fun h => absurd h (by decide), fun _ => ⟨xin 1453 rfl rfl, xin 35 rfl rfl⟩, fun h => absurd h (by decide), by decide +kernel⟩
set_option maxRecDepth 20000 in
theorem xm215 : xmf 215 := ⟨xin 1462 rfl rfl, xin 77 rfl rfl, fun h => absurd h (by decide), fun _ => ⟨xin 1461 rfl rfl, xin 37 rfl rfl⟩, fun h => absurd h (by decide), by decide +kernel⟩
set_option maxRecDepth 20000 in
theorem xm216 : xmf 216 := ⟨xin 1466 rfl rfl, xin 77 rfl rfl, fun h => absurd h (by decide), fun _ => ⟨xin 1465 rfl rfl, xin 38 rfl rfl⟩, fun h => absurd h (by decide), by decide +kernel⟩
set_option maxRecDepth 20000 in
theorem xm217 : xmf 217 := ⟨xin 1470 rfl rfl, xin 77 rfl rfl, fun h => absurd h (by decide), fun _ => ⟨xin 1469 rfl rfl, xin 39 rfl rfl⟩, fun h => absurd h (by decide), by decide +kernel⟩
set_option maxRecDepth 20000 in
theorem xm218 : xmf 218 := ⟨xin 1458 rfl rfl, xin 77 rfl rfl, fun h => absurd h (by decide), fun _ => ⟨xin 1457 rfl rfl, xin 36 rfl rfl⟩, fun h => absurd h (by decide), by decide +kernel⟩
set_option maxRecDepth 20000 in
theorem xm219 : xmf 219 := ⟨xin 1474 rfl rfl, xin 77 rfl rfl, fun h => absurd h (by decide), fun _ => ⟨xin 1473 rfl rfl, xin 40 rfl rfl⟩, fun h => absurd h (by decide), by decide +kernel⟩
set_option maxRecDepth 20000 in
theorem xm220 : xmf 220 := ⟨xin 1478 rfl rfl, xin 77 rfl rfl, fun h => absurd h (by decide), fun _ => ⟨xin 1477 rfl rfl, xin 41 rfl rfl⟩, fun h => absurd h (by decide), by decide +kernel⟩
set_option maxRecDepth 20000 in
theorem xm221 : xmf 221 := ⟨xin 1446 rfl rfl, xin 77 rfl rfl, fun h => absurd h (by decide), fun _ => ⟨xin 1445 rfl rfl, xin 34 rfl rfl⟩, fun h => absurd h (by decide), by decide +kernel⟩
set_option maxRecDepth 20000 in
theorem xm222 : xmf 222 := ⟨xin 1442 rfl rfl, xin 77 rfl rfl, fun h => absurd h (by decide), fun _ => ⟨xin 1440 rfl rfl, xin 1441 rfl rfl⟩, fun h => absurd h (by decide), by decide +kernel⟩
set_option maxRecDepth 20000 in
theorem xm223 : xmf 223 := ⟨xin 1482 rfl rfl, xin 77 rfl rfl, fun h => absurd h (by decide), fun _ => ⟨xin 1481 rfl rfl, xin 42 rfl rfl⟩, fun h => absurd h (by decide), by decide +kernel⟩
set_option maxRecDepth 20000 in
theorem xm224 : xmf 224 := ⟨xin 1450 rfl rfl, xin 77 rfl rfl, fun h => absurd h (by decide), fun _ => ⟨xin 1448 rfl rfl, xin 1449 rfl rfl⟩, fun h => absurd h (by decide), by decide +kernel⟩
set_option maxRecDepth 20000 in
theorem xm225 : xmf 225 := ⟨xin 1490 rfl rfl, xin 77 rfl rfl, fun h => absurd h (by decide), fun _ => ⟨xin 1489 rfl rfl, xin 43 rfl rfl⟩, fun h => absurd h (by decide), by decide +kernel⟩
set_option maxRecDepth 20000 in
theorem xm226 : xmf 226 := ⟨xin 1494 rfl rfl, xin 77 rfl rfl, fun h => absurd h (by decide), fun _ => ⟨xin 1493 rfl rfl, xin 44 rfl rfl⟩, fun h => absurd h (by decide), by decide +kernel⟩
set_option maxRecDepth 20000 in
theorem xm227 : xmf 227 := ⟨xin 1555 rfl rfl, xin 77 rfl rfl, fun h => absurd h (by decide), fun _ => ⟨xin 1554 rfl rfl, xin 54 rfl rfl⟩, fun h => absurd h (by decide), by decide +kernel⟩
set_option maxRecDepth 20000 in
theorem xm228 : xmf 228 := ⟨xin 1510 rfl rfl, xin 77 rfl rfl, fun h => absurd h (by decide), fun _ => ⟨xin 1509 rfl rfl, xin 47 rfl rfl⟩, fun h => absurd h (by decide), by decide +kernel⟩
set_option maxRecDepth 20000 in
theorem xm229 : xmf 229 := ⟨xin 1498 rfl rfl, xin 77 rfl rfl, fun h => absurd h (by decide), fun _ => ⟨xin 1497 rfl rfl, xin 45 rfl rfl⟩, fun h => absurd h (by decide), by decide +kernel⟩
set_option maxRecDepth 20000 in
theorem xm230 : xmf 230 := ⟨xin 1502 rfl rfl, xin 77 rfl rfl, fun h => absurd h (by decide), fun _ => ⟨xin 1501 rfl rfl, xin 46 rfl rfl⟩, fun h => absurd h (by decide), by decide +kernel⟩
set_option maxRecDepth 20000 in
theorem xm231 : xmf 231 := ⟨xin 1486 rfl rfl, xin 77 rfl rfl, fun h => absurd h (by decide), fun _ => ⟨xin 1484 rfl rfl, xin 1485 rfl rfl⟩, fun h => absurd h (by decide), by decide +kernel⟩
set_option maxRecDepth 20000 in
theorem xm232 : xmf 232 := ⟨xin 1506 rfl rfl, xin 77 rfl rfl, fun h => absurd h (by decide), fun _ => ⟨xin 1504 rfl rfl, xin 1505 rfl rfl⟩, fun h => absurd h (by decide), by decide +kernel⟩
set_option maxRecDepth 20000 in
theorem xm233 : xmf 233 := ⟨xin 1514 rfl rfl, xin 77 rfl rfl, fun h => absurd h (by decide), fun _ => ⟨xin 1513 rfl rfl, xin 48 rfl rfl⟩, fun h => absurd h (by decide), by decide +kernel⟩
set_option maxRecDepth 20000 in
theorem xm234 : xmf 234 := ⟨xin 1567 rfl rfl, xin 77 rfl rfl, fun h => absurd h (by decide), fun _ => ⟨xin 1566 rfl rfl, xin 57 rfl rfl⟩, fun h => absurd h (by decide), by decide +kernel⟩
set_option maxRecDepth 20000 in
theorem xm235 : xmf 235 := ⟨xin 1571 rfl rfl, xin 77 rfl rfl, fun h => absurd h (by decide), fun _ => ⟨xin 1570 rfl rfl, xin 58 rfl rfl⟩, fun h => absurd h (by decide), by decide +kernel⟩
set_option maxRecDepth 20000 in
theorem xm236 : xmf 236 := ⟨xin 1575 rfl rfl, xin 77 rfl rfl, fun h => absurd h (by decide), fun _ => ⟨xin 1574 rfl rfl, xin 59 rfl rfl⟩, fun h => absurd h (by decide), by decide +kernel⟩
set_option maxRecDepth 20000 in
theorem xm237 : xmf 237 := ⟨xin 1518 rfl rfl, xin 77 rfl rfl, fun h => absurd h (by decide), fun _ => ⟨xin 1516 rfl rfl, xin 1517 rfl rfl⟩, fun h => absurd h (by decide), by decide +kernel⟩
set_option maxRecDepth 20000 in
theorem xm238 : xmf 238 := ⟨xin 1523 rfl rfl, xin 77 rfl rfl, fun h => absurd h (by decide), fun _ => ⟨xin 1521 rfl rfl, xin 1522 rfl rfl⟩, fun h => absurd h (by decide), by decide +kernel⟩
set_option maxRecDepth 20000 in
theorem xm239 : xmf 239 := ⟨xin 1539 rfl rfl, xin 77 rfl rfl, fun h => absurd h (by decide), fun _ => ⟨xin 1538 rfl rfl, xin 51 rfl rfl⟩, fun h => absurd h (by decide), by decide +kernel⟩
set_option maxRecDepth 20000 in
theorem xm240 : xmf 240 := ⟨xin 1527 rfl rfl, xin 77 rfl rfl, fun h => absurd h (by decide), fun _ => ⟨xin 1526 rfl rfl, xin 49 rfl rfl⟩, fun h => absurd h (by decide), by decide +kernel⟩
set_option maxRecDepth 20000 in
theorem xm241 : xmf 241 := ⟨xin 1543 rfl rfl, xin 77 rfl rfl, fun h => absurd h (by decide), fun _ => ⟨xin 1542 rfl rfl, xin 52 rfl rfl⟩, fun h => absurd h (by decide), by decide +kernel⟩
set_option maxRecDepth 20000 in
theorem xm242 : xmf 242 := ⟨xin 1547 rfl rfl, xin 77 rfl rfl, fun h => absurd h (by decide), fun _ => ⟨xin 1546 rfl rfl, xin 53 rfl rfl⟩, fun h => absurd h (by decide), by decide +kernel⟩
set_option maxRecDepth 20000 in
theorem xm243 : xmf 243 := ⟨xin 1535 rfl rfl, xin 77 rfl rfl, fun h => absurd h (by decide), fun _ => ⟨xin 1534 rfl rfl, xin 50 rfl rfl⟩, fun h => absurd h (by decide), by decide +kernel⟩
set_option maxRecDepth 20000 in
theorem xm244 : xmf 244 := ⟨xin 1531 rfl rfl, xin 77 rfl rfl, fun h => absurd h (by decide), fun _ => ⟨xin 1529 rfl rfl, xin 1530 rfl rfl⟩, fun h => absurd h (by decide), by decide +kernel⟩
set_option maxRecDepth 20000 in
theorem xm245 : xmf 245 := ⟨xin 1603 rfl rfl, xin 77 rfl rfl, fun h => absurd h (by decide), fun _ => ⟨xin 1602 rfl rfl, xin 63 rfl rfl⟩, fun h => absurd h (by decide), by decide +kernel⟩
set_option maxRecDepth 20000 in
theorem xm246 : xmf 246 := ⟨xin 1559 rfl rfl, xin 77 rfl rfl, fun h => absurd h (by decide), fun _ => ⟨xin 1558 rfl rfl, xin 55 rfl rfl⟩, fun h => absurd h (by decide), by decide +kernel⟩
set_option maxRecDepth 20000 in
theorem xm247 : xmf 247 := ⟨xin 1563 rfl rfl, xin 77 rfl rfl, fun h => absurd h (by decide), fun _ => ⟨xin 1562 rfl rfl, xin 56 rfl rfl⟩, fun h => absurd h (by decide), by decide +kernel⟩
set_option maxRecDepth 20000 in
theorem xm248 : xmf 248 := ⟨xin 1551 rfl rfl, xin 77 rfl rfl, fun h => absurd h (by decide), fun _ => ⟨xin 1549 rfl rfl, xin 1550 rfl rfl⟩, fun h => absurd h (by decide), by decide +kernel⟩
set_option maxRecDepth 20000 in
theorem xm249 : xmf 249 := ⟨xin 1583 rfl rfl, xin 77 rfl rfl, fun h => absurd h (by decide), fun _ => ⟨xin 1582 rfl rfl, xin 60 rfl rfl⟩, fun h => absurd h (by decide), by decide +kernel⟩
set_option maxRecDepth 20000 in
theorem xm250 : xmf 250 := ⟨xin 1579 rfl rfl, xin 77 rfl rfl, fun h => absurd h (by decide), fun _ => ⟨xin 1577 rfl rfl, xin 1578 rfl rfl⟩, fun h => absurd h (by decide), by decide +kernel⟩
set_option maxRecDepth 20000 in
theorem xm251 : xmf 251 := ⟨xin 1595 rfl rfl, xin 77 rfl rfl, fun h => absurd h (by decide), fun _ => ⟨xin 1594 rfl rfl, xin 62 rfl rfl⟩, fun h => absurd h (by decide), by decide +kernel⟩
set_option maxRecDepth 20000 in
theorem xm252 : xmf 252 := ⟨xin 1591 rfl rfl, xin 77 rfl rfl, fun h => absurd h (by decide), fun _ => ⟨xin 1590 rfl rfl, xin 61 rfl rfl⟩, fun h => absurd h (by decide), by decide +kernel⟩
set_option maxRecDepth 20000 in
theorem xm253 : xmf 253 := ⟨xin 1587 rfl rfl, xin 77 rfl rfl, fun h => absurd h (by decide), fun _ => ⟨xin 1585 rfl rfl, xin 1586 rfl rfl⟩, fun h => absurd h (by decide), by decide +kernel⟩
set_option maxRecDepth 20000 in
theorem xm254 : xmf 254 := ⟨xin 1607 rfl rfl, xin 77 rfl rfl, fun h => absurd h (by decide), fun _ => ⟨xin 1606 rfl rfl, xin 64 rfl rfl⟩, fun h => absurd h (by decide), by decide +kernel⟩
set_option maxRecDepth 20000 in
theorem xm255 : xmf 255 := ⟨xin 1599 rfl rfl, xin 77 rfl rfl, fun h => absurd h (by decide), fun _ => ⟨xin 1597 rfl rfl, xin 1598 rfl rfl⟩, fun h => absurd h (by decide), by decide +kernel⟩
set_option maxRecDepth 20000 in
theorem xm256 : xmf 256 := ⟨xin 602 rfl rfl, xin 83 rfl rfl, fun _ => xin 601 rfl rfl, fun h => absurd h (by decide), fun h => absurd h (by decide), by decide +kernel⟩
set_option maxRecDepth 20000 in
theorem xm257 : xmf 257 := ⟨xin 723 rfl rfl, xin 82 rfl rfl, fun _ => xin 722 rfl rfl, fun h => absurd h (by decide), fun h => absurd h (by decide), by decide +kernel⟩
set_option maxRecDepth 20000 in
theorem xm258 : xmf 258 := ⟨xin 579 rfl rfl, xin 82 rfl rfl, fun _ => xin 578 rfl rfl, fun h => absurd h (by decide), fun h => absurd h (by decide), by decide +kernel⟩
set_option maxRecDepth 20000 in
theorem xm259 : xmf 259 := ⟨xin 438 rfl rfl, xin 78 rfl rfl, fun h => absurd h (by decide), fun _ => ⟨xin 436 rfl rfl, xin 437 rfl rfl⟩, fun h => absurd h (by decide), by decide +kernel⟩
set_option maxRecDepth 20000 in
theorem xm260 : xmf 260 := ⟨xin 448 rfl rfl, xin 78 rfl rfl, fun h => absurd h (by decide), fun _ => ⟨xin 446 rfl rfl, xin 447 rfl rfl⟩, fun h => absurd h (by decide), by decide +kernel⟩
set_option maxRecDepth 20000 in
theorem xm261 : xmf 261 := ⟨xin 442 rfl rfl, xin 78 rfl rfl, fun h => absurd h (by decide), fun _ => ⟨xin 440 rfl rfl, xin 441 rfl rfl⟩, fun h => absurd h (by decide), by decide +kernel⟩
set_option maxRecDepth 20000 in
theorem xm262 : xmf 262 := ⟨xin 452 rfl rfl, xin 78 rfl rfl, fun h => absurd h (by decide), fun _ => ⟨xin 450 rfl rfl, xin 451 rfl rfl⟩, fun h => absurd h (by decide), by decide +kernel⟩
set_option maxRecDepth 20000 in
theorem xm263 : xmf 263 := ⟨xin 458 rfl rfl, xin 78 rfl rfl, fun _ => xin 457 rfl rfl, fun h => absurd h (by decide), fun h => absurd h (by decide), by decide +kernel⟩
set_option maxRecDepth 20000 in
theorem xm264 : xmf 264 := ⟨xin 455 rfl rfl, xin 79 rfl rfl, fun _ => xin 454 rfl rfl, fun h => absurd h (by decide), fun h => absurd h (by decide), by decide +kernel⟩
set_option maxRecDepth 20000 in
theorem xm265 : xmf 265 := ⟨xin 463 rfl rfl, xin 80 rfl rfl, fun _ => xin 462 rfl rfl, fun h => absurd h (by decide), fun h => absurd h (by decide), by decide +kernel⟩
set_option maxRecDepth 20000 in
theorem xm_all : ∀ j, j < 266 → xmf j := lt_s (lt_s (lt_s (lt_s (lt_s (lt_s (lt_s (lt_s (lt_s (lt_s (lt_s (lt_s (lt_s (lt_s (lt_s (lt_s (lt_s (lt_s (lt_s (lt_s (lt_s (lt_s (lt_s (lt_s (lt_s (lt_s (lt_s (lt_s (lt_s (lt_s (lt_s (lt_s (lt_s (lt_s (lt_s (lt_s (lt_s (lt_s (lt_s (lt_s (lt_s (lt_s (lt_s (lt_s (lt_s (lt_s (lt_s (lt_s (lt_s (lt_s (lt_s (lt_s (lt_s (lt_s (lt_s (lt_s (lt_s (lt_s (lt_s (lt_s (lt_s (lt_s (lt_s (lt_s (lt_s (lt_s (lt_s (lt_s (lt_s (lt_s (lt_s (lt_s (lt_s (lt_s (lt_s (lt_s (lt_s (lt_s (lt_s (lt_s (lt_s (lt_s (lt_s (lt_s (lt_s (lt_s (lt_s (lt_s (lt_s (lt_s (lt_s (lt_s (lt_s (lt_s (lt_s (lt_s (lt_s (lt_s (lt_s (lt_s (lt_s (lt_s (lt_s (lt_s (lt_s (lt_s (lt_s (lt_s (lt_s (lt_s (lt_s (lt_s (lt_s (lt_s (lt_s (lt_s (lt_s (lt_s (lt_s (lt_s (lt_s (lt_s (lt_s (lt_s (lt_s (lt_s (lt_s (lt_s (lt_s (lt_s (lt_s (lt_s (lt_s (lt_s (lt_s (lt_s (lt_s (lt_s (lt_s (lt_s (lt_s (lt_s (lt_s (lt_s (lt_s (lt_s (lt_s (lt_s (lt_s (lt_s (lt_s (lt_s (lt_s (lt_s (lt_s (lt_s (lt_s (lt_s (lt_s (lt_s (lt_s (lt_s (lt_s (lt_s (lt_s (lt_s (lt_s (lt_s (lt_s (lt_s (lt_s (lt_s (lt_s (lt_s (lt_s (lt_s (lt_s (lt_s (lt_s (lt_s (lt_s (lt_s (lt_s (lt_s (lt_s (lt_s (lt_s (lt_s (lt_s (lt_s (lt_s (lt_s (lt_s (lt_s (lt_s (lt_s (lt_s (lt_s (lt_s (lt_s (lt_s (lt_s (lt_s (lt_s (lt_s (lt_s (lt_s (lt_s (lt_s (lt_s (lt_s (lt_s (lt_s (lt_s (lt_s (lt_s (lt_s (lt_s (lt_s (lt_s (lt_s (lt_s (lt_s (lt_s (lt_s (lt_s (lt_s (lt_s (lt_s (lt_s (lt_s (lt_s (lt_s (lt_s (lt_s (lt_s (lt_s (lt_s (lt_s (lt_s (lt_s (lt_s (lt_s (lt_s (lt_s (lt_s (lt_s (lt_s (lt_s (lt_s (lt_s (lt_s (lt_s (lt_s (lt_s (lt_s (lt_s (lt_s (lt_s (lt_s (lt_s (lt_s (lt_s (lt_s (lt_s (lt_s (lt_0) xm0) xm1) xm2) xm3) xm4) xm5) xm6) xm7) xm8) xm9) xm10) xm11) xm12) xm13) xm14) xm15) xm16) xm17) xm18) xm19) xm20) xm21) xm22) xm23) xm24) xm25) xm26) xm27) xm28) xm29) xm30) xm31) xm32) xm33) xm34) xm35) xm36) xm37) xm38) xm39) xm40) xm41) xm42) xm43) xm44) xm45) xm46) xm47) xm48) xm49) xm50) xm51) xm52) xm53) xm54) xm55) xm56) xm57) xm58) xm59) xm60) xm61) xm62) xm63) xm64) xm65) xm66) xm67) xm68) xm69) xm70) xm71) xm72) xm73) xm74) xm75) xm76) xm77) xm78) xm79) xm80) xm81) xm82) xm83) xm84) xm85) xm86) xm87) xm88) xm89) xm90) xm91) xm92) xm93) xm94) xm95) xm96) xm97) xm98) xm99) xm100) xm101) xm102) xm103) xm104) xm105) xm106) xm107) xm108) xm109) xm110) xm111) xm112) xm113) xm114) xm115) xm116) xm117) xm118) xm119) xm120) xm121) xm122) xm123) xm124) xm125) xm126) xm127) xm128) xm129) xm130) xm131) xm132) xm133) xm134) xm135) xm136) xm137) xm138) xm139) xm140) xm141) xm142) xm143) xm144) xm145) xm146) xm147) xm148) xm149) xm150) xm151) xm152) xm153) xm154) xm155) xm156) xm157) xm158) xm159) xm160) xm161) xm162) xm163) xm164) xm165) xm166) xm167) xm168) xm169) xm170) xm171) xm172) xm173) xm174) xm175) xm176) xm177) xm178) xm179) xm180) xm181) xm182) xm183) xm184) xm185) xm186) xm187) xm188) xm189) xm190) xm191) xm192) xm193) xm194) xm195) xm196) xm197) xm198) xm199) xm200) xm201) xm202) xm203) xm204) xm205) xm206) xm207) xm208) xm209) xm210) xm211) xm212) xm213) xm214) xm215) xm216) xm217) xm218) xm219) xm220) xm221) xm222) xm223) xm224) xm225) xm226) xm227) xm228) xm229) xm230) xm231) xm232) xm233) xm234) xm235) xm236) xm237) xm238) xm239) xm240) xm241) xm242) xm243) xm244) xm245) xm246) xm247) xm248) xm249) xm250) xm251) xm252) xm253) xm254) xm255) xm256) xm257) xm258) xm259) xm260) xm261) xm262) xm263) xm264) xm265
