/-! the law's decode rows -/
theorem dl_658 : decode code 658 = .ok (.aload_n 0, 1) := by decide +kernel
theorem dl_659 : decode code 659 = .ok (.iload_n 3, 1) := by decide +kernel
theorem dl_660 : decode code 660 = .ok (.iconst 2, 1) := by decide +kernel
theorem dl_661 : decode code 661 = .ok (.iadd, 1) := by decide +kernel
theorem dl_662 : decode code 662 = .ok (.iaload, 1) := by decide +kernel
theorem dl_663 : decode code 663 = .ok (.invokevirtual 99, 3) := by decide +kernel
theorem dl_666 : decode code 666 = .ok (.if_icmp .eq 438, 3) := by decide +kernel
theorem dl_671 : decode code 671 = .ok (.aload_n 1, 1) := by decide +kernel
theorem dl_672 : decode code 672 = .ok (.aload_n 0, 1) := by decide +kernel
theorem dl_673 : decode code 673 = .ok (.iload_n 3, 1) := by decide +kernel
theorem dl_674 : decode code 674 = .ok (.iconst 1, 1) := by decide +kernel
theorem dl_675 : decode code 675 = .ok (.iadd, 1) := by decide +kernel
theorem dl_676 : decode code 676 = .ok (.iaload, 1) := by decide +kernel
theorem dl_677 : decode code 677 = .ok (.aload_n 0, 1) := by decide +kernel
theorem dl_678 : decode code 678 = .ok (.iload_n 3, 1) := by decide +kernel
theorem dl_679 : decode code 679 = .ok (.iconst 2, 1) := by decide +kernel
theorem dl_680 : decode code 680 = .ok (.iadd, 1) := by decide +kernel
theorem dl_681 : decode code 681 = .ok (.iaload, 1) := by decide +kernel
theorem dl_682 : decode code 682 = .ok (.aload_n 0, 1) := by decide +kernel
theorem dl_683 : decode code 683 = .ok (.iload_n 3, 1) := by decide +kernel
theorem dl_684 : decode code 684 = .ok (.iconst 3, 1) := by decide +kernel
theorem dl_685 : decode code 685 = .ok (.iadd, 1) := by decide +kernel
theorem dl_686 : decode code 686 = .ok (.iaload, 1) := by decide +kernel
theorem dl_687 : decode code 687 = .ok (.invokevirtual 100, 3) := by decide +kernel
theorem dl_690 : decode code 690 = .ok (.aload_n 2, 1) := by decide +kernel
theorem dl_691 : decode code 691 = .ok (.aload_n 0, 1) := by decide +kernel
theorem dl_692 : decode code 692 = .ok (.iload_n 3, 1) := by decide +kernel
theorem dl_693 : decode code 693 = .ok (.iconst 1, 1) := by decide +kernel
theorem dl_694 : decode code 694 = .ok (.iadd, 1) := by decide +kernel
theorem dl_695 : decode code 695 = .ok (.iaload, 1) := by decide +kernel
theorem dl_696 : decode code 696 = .ok (.aload_n 0, 1) := by decide +kernel
theorem dl_697 : decode code 697 = .ok (.iload_n 3, 1) := by decide +kernel
theorem dl_698 : decode code 698 = .ok (.iconst 2, 1) := by decide +kernel
theorem dl_699 : decode code 699 = .ok (.iadd, 1) := by decide +kernel
theorem dl_700 : decode code 700 = .ok (.iaload, 1) := by decide +kernel
theorem dl_701 : decode code 701 = .ok (.aload_n 0, 1) := by decide +kernel
theorem dl_702 : decode code 702 = .ok (.iload_n 3, 1) := by decide +kernel
theorem dl_703 : decode code 703 = .ok (.iconst 3, 1) := by decide +kernel
theorem dl_704 : decode code 704 = .ok (.iadd, 1) := by decide +kernel
theorem dl_705 : decode code 705 = .ok (.iaload, 1) := by decide +kernel
theorem dl_706 : decode code 706 = .ok (.invokevirtual 104, 3) := by decide +kernel
theorem dl_709 : decode code 709 = .ok (.if_icmp .eq 395, 3) := by decide +kernel
theorem dl_714 : decode code 714 = .ok (.aload_n 1, 1) := by decide +kernel
theorem dl_715 : decode code 715 = .ok (.aload_n 0, 1) := by decide +kernel
theorem dl_716 : decode code 716 = .ok (.iload_n 3, 1) := by decide +kernel
theorem dl_717 : decode code 717 = .ok (.iconst 1, 1) := by decide +kernel
theorem dl_718 : decode code 718 = .ok (.iadd, 1) := by decide +kernel
theorem dl_719 : decode code 719 = .ok (.iaload, 1) := by decide +kernel
theorem dl_720 : decode code 720 = .ok (.aload_n 0, 1) := by decide +kernel
theorem dl_721 : decode code 721 = .ok (.iload_n 3, 1) := by decide +kernel
theorem dl_722 : decode code 722 = .ok (.iconst 2, 1) := by decide +kernel
theorem dl_723 : decode code 723 = .ok (.iadd, 1) := by decide +kernel
theorem dl_724 : decode code 724 = .ok (.iaload, 1) := by decide +kernel
theorem dl_725 : decode code 725 = .ok (.aload_n 0, 1) := by decide +kernel
theorem dl_726 : decode code 726 = .ok (.iload_n 3, 1) := by decide +kernel
theorem dl_727 : decode code 727 = .ok (.iconst 3, 1) := by decide +kernel
theorem dl_728 : decode code 728 = .ok (.iadd, 1) := by decide +kernel
theorem dl_729 : decode code 729 = .ok (.iaload, 1) := by decide +kernel
theorem dl_730 : decode code 730 = .ok (.invokevirtual 105, 3) := by decide +kernel
theorem dl_733 : decode code 733 = .ok (.aload_n 2, 1) := by decide +kernel
theorem dl_734 : decode code 734 = .ok (.aload_n 0, 1) := by decide +kernel
theorem dl_735 : decode code 735 = .ok (.iload_n 3, 1) := by decide +kernel
theorem dl_736 : decode code 736 = .ok (.iconst 1, 1) := by decide +kernel
theorem dl_737 : decode code 737 = .ok (.iadd, 1) := by decide +kernel
theorem dl_738 : decode code 738 = .ok (.iaload, 1) := by decide +kernel
theorem dl_739 : decode code 739 = .ok (.aload_n 0, 1) := by decide +kernel
theorem dl_740 : decode code 740 = .ok (.iload_n 3, 1) := by decide +kernel
theorem dl_741 : decode code 741 = .ok (.iconst 2, 1) := by decide +kernel
theorem dl_742 : decode code 742 = .ok (.iadd, 1) := by decide +kernel
theorem dl_743 : decode code 743 = .ok (.iaload, 1) := by decide +kernel
theorem dl_744 : decode code 744 = .ok (.aload_n 0, 1) := by decide +kernel
theorem dl_745 : decode code 745 = .ok (.iload_n 3, 1) := by decide +kernel
theorem dl_746 : decode code 746 = .ok (.iconst 3, 1) := by decide +kernel
theorem dl_747 : decode code 747 = .ok (.iadd, 1) := by decide +kernel
theorem dl_748 : decode code 748 = .ok (.iaload, 1) := by decide +kernel
theorem dl_749 : decode code 749 = .ok (.invokevirtual 108, 3) := by decide +kernel
theorem dl_752 : decode code 752 = .ok (.if_icmp .eq 352, 3) := by decide +kernel
theorem dl_757 : decode code 757 = .ok (.aload_n 1, 1) := by decide +kernel
theorem dl_758 : decode code 758 = .ok (.aload_n 0, 1) := by decide +kernel
theorem dl_759 : decode code 759 = .ok (.iload_n 3, 1) := by decide +kernel
theorem dl_760 : decode code 760 = .ok (.iconst 1, 1) := by decide +kernel
theorem dl_761 : decode code 761 = .ok (.iadd, 1) := by decide +kernel
theorem dl_762 : decode code 762 = .ok (.iaload, 1) := by decide +kernel
theorem dl_763 : decode code 763 = .ok (.aload_n 0, 1) := by decide +kernel
theorem dl_764 : decode code 764 = .ok (.iload_n 3, 1) := by decide +kernel
theorem dl_765 : decode code 765 = .ok (.iconst 2, 1) := by decide +kernel
theorem dl_766 : decode code 766 = .ok (.iadd, 1) := by decide +kernel
theorem dl_767 : decode code 767 = .ok (.iaload, 1) := by decide +kernel
theorem dl_768 : decode code 768 = .ok (.aload_n 0, 1) := by decide +kernel
theorem dl_769 : decode code 769 = .ok (.iload_n 3, 1) := by decide +kernel
theorem dl_770 : decode code 770 = .ok (.iconst 3, 1) := by decide +kernel
theorem dl_771 : decode code 771 = .ok (.iadd, 1) := by decide +kernel
theorem dl_772 : decode code 772 = .ok (.iaload, 1) := by decide +kernel
theorem dl_773 : decode code 773 = .ok (.invokevirtual 109, 3) := by decide +kernel
theorem dl_776 : decode code 776 = .ok (.aload_n 2, 1) := by decide +kernel
theorem dl_777 : decode code 777 = .ok (.aload_n 0, 1) := by decide +kernel
theorem dl_778 : decode code 778 = .ok (.iload_n 3, 1) := by decide +kernel
theorem dl_779 : decode code 779 = .ok (.iconst 1, 1) := by decide +kernel
theorem dl_780 : decode code 780 = .ok (.iadd, 1) := by decide +kernel
theorem dl_781 : decode code 781 = .ok (.iaload, 1) := by decide +kernel
theorem dl_782 : decode code 782 = .ok (.aload_n 0, 1) := by decide +kernel
theorem dl_783 : decode code 783 = .ok (.iload_n 3, 1) := by decide +kernel
theorem dl_784 : decode code 784 = .ok (.iconst 2, 1) := by decide +kernel
theorem dl_785 : decode code 785 = .ok (.iadd, 1) := by decide +kernel
theorem dl_786 : decode code 786 = .ok (.iaload, 1) := by decide +kernel
theorem dl_787 : decode code 787 = .ok (.aload_n 0, 1) := by decide +kernel
theorem dl_788 : decode code 788 = .ok (.iload_n 3, 1) := by decide +kernel
theorem dl_789 : decode code 789 = .ok (.iconst 3, 1) := by decide +kernel
theorem dl_790 : decode code 790 = .ok (.iadd, 1) := by decide +kernel
theorem dl_791 : decode code 791 = .ok (.iaload, 1) := by decide +kernel
